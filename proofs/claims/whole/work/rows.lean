section
-- ===== PART A: goes FIRST, ahead of the names: the tables' words, and 'selects' of the private methods out of them =====
/-- a private method of a class that the tables say can be made, by its rows of tables_1 -/
def lw_okq (q : MethodName × Nat) : Prop := (q.1.cls ≠ "java/lang/invoke/MethodHandle" ∧ q.1.cls ≠ "java/lang/invoke/VarHandle") ∧ Cond.instantiable q.1.cls q.2 ∈ tables_1 ∧ Cond.privateMethod q.1 ∈ tables_1 ∧ Cond.instanceMethod q.1 ∈ tables_1
theorem lw_p0 : lw_okq (⟨"AmendedDrawing$Item", "ellipseReaches", "(JJ)Z"⟩, 8) := ⟨⟨by decide +kernel, by decide +kernel⟩, List.mem_of_getElem? (i := 113) (by decide +kernel), List.mem_of_getElem? (i := 224) (by decide +kernel), List.mem_of_getElem? (i := 225) (by decide +kernel)⟩
theorem lw_p1 : lw_okq (⟨"AmendedDrawing$Action", "sort", "(I)I"⟩, 3) := ⟨⟨by decide +kernel, by decide +kernel⟩, List.mem_of_getElem? (i := 28) (by decide +kernel), List.mem_of_getElem? (i := 252) (by decide +kernel), List.mem_of_getElem? (i := 253) (by decide +kernel)⟩
theorem lw_p2 : lw_okq (⟨"java/lang/Throwable", "fillInStackTrace", "(I)Ljava/lang/Throwable;"⟩, 6) := ⟨⟨by decide +kernel, by decide +kernel⟩, List.mem_of_getElem? (i := 314) (by decide +kernel), List.mem_of_getElem? (i := 312) (by decide +kernel), List.mem_of_getElem? (i := 313) (by decide +kernel)⟩
theorem lw_p3 : lw_okq (⟨"AmendedDrawing$Drawing", "make", "(LAmendedDrawing$Action;I)Z"⟩, 4) := ⟨⟨by decide +kernel, by decide +kernel⟩, List.mem_of_getElem? (i := 106) (by decide +kernel), List.mem_of_getElem? (i := 343) (by decide +kernel), List.mem_of_getElem? (i := 344) (by decide +kernel)⟩
theorem lw_p4 : lw_okq (⟨"AmendedDrawing$Drawing", "insert", "(II)V"⟩, 4) := ⟨⟨by decide +kernel, by decide +kernel⟩, List.mem_of_getElem? (i := 106) (by decide +kernel), List.mem_of_getElem? (i := 360) (by decide +kernel), List.mem_of_getElem? (i := 361) (by decide +kernel)⟩
theorem lw_p5 : lw_okq (⟨"AmendedDrawing$Drawing", "delete", "(I)Z"⟩, 4) := ⟨⟨by decide +kernel, by decide +kernel⟩, List.mem_of_getElem? (i := 106) (by decide +kernel), List.mem_of_getElem? (i := 367) (by decide +kernel), List.mem_of_getElem? (i := 368) (by decide +kernel)⟩
theorem lw_p6 : lw_okq (⟨"AmendedDrawing$Drawing", "placeOf", "(I)I"⟩, 4) := ⟨⟨by decide +kernel, by decide +kernel⟩, List.mem_of_getElem? (i := 106) (by decide +kernel), List.mem_of_getElem? (i := 371) (by decide +kernel), List.mem_of_getElem? (i := 372) (by decide +kernel)⟩
theorem lw_p7 : lw_okq (⟨"AmendedDrawing$Drawing", "endOf", "(I)I"⟩, 4) := ⟨⟨by decide +kernel, by decide +kernel⟩, List.mem_of_getElem? (i := 106) (by decide +kernel), List.mem_of_getElem? (i := 375) (by decide +kernel), List.mem_of_getElem? (i := 376) (by decide +kernel)⟩
theorem lw_p8 : lw_okq (⟨"AmendedDrawing$Drawing", "isIn", "(II)Z"⟩, 4) := ⟨⟨by decide +kernel, by decide +kernel⟩, List.mem_of_getElem? (i := 106) (by decide +kernel), List.mem_of_getElem? (i := 379) (by decide +kernel), List.mem_of_getElem? (i := 380) (by decide +kernel)⟩
theorem lw_p9 : lw_okq (⟨"AmendedDrawing$Drawing", "removeBlock", "(II)V"⟩, 4) := ⟨⟨by decide +kernel, by decide +kernel⟩, List.mem_of_getElem? (i := 106) (by decide +kernel), List.mem_of_getElem? (i := 383) (by decide +kernel), List.mem_of_getElem? (i := 384) (by decide +kernel)⟩
theorem lw_p10 : lw_okq (⟨"AmendedDrawing$Drawing", "move", "(III)Z"⟩, 4) := ⟨⟨by decide +kernel, by decide +kernel⟩, List.mem_of_getElem? (i := 106) (by decide +kernel), List.mem_of_getElem? (i := 387) (by decide +kernel), List.mem_of_getElem? (i := 388) (by decide +kernel)⟩
theorem lw_p11 : lw_okq (⟨"AmendedDrawing$Drawing", "isShapeIn", "(II)Z"⟩, 4) := ⟨⟨by decide +kernel, by decide +kernel⟩, List.mem_of_getElem? (i := 106) (by decide +kernel), List.mem_of_getElem? (i := 391) (by decide +kernel), List.mem_of_getElem? (i := 392) (by decide +kernel)⟩
theorem lw_p12 : lw_okq (⟨"AmendedDrawing$Drawing", "scale", "(III)Z"⟩, 4) := ⟨⟨by decide +kernel, by decide +kernel⟩, List.mem_of_getElem? (i := 106) (by decide +kernel), List.mem_of_getElem? (i := 405) (by decide +kernel), List.mem_of_getElem? (i := 406) (by decide +kernel)⟩
theorem lw_p13 : lw_okq (⟨"AmendedDrawing$Drawing", "edge", "(II)I"⟩, 4) := ⟨⟨by decide +kernel, by decide +kernel⟩, List.mem_of_getElem? (i := 106) (by decide +kernel), List.mem_of_getElem? (i := 409) (by decide +kernel), List.mem_of_getElem? (i := 410) (by decide +kernel)⟩
theorem lw_p14 : lw_okq (⟨"AmendedDrawing$Drawing", "paint", "(II)Z"⟩, 4) := ⟨⟨by decide +kernel, by decide +kernel⟩, List.mem_of_getElem? (i := 106) (by decide +kernel), List.mem_of_getElem? (i := 440) (by decide +kernel), List.mem_of_getElem? (i := 441) (by decide +kernel)⟩
theorem lw_p15 : lw_okq (⟨"AmendedDrawing$Drawing", "raise", "(II)Z"⟩, 4) := ⟨⟨by decide +kernel, by decide +kernel⟩, List.mem_of_getElem? (i := 106) (by decide +kernel), List.mem_of_getElem? (i := 444) (by decide +kernel), List.mem_of_getElem? (i := 445) (by decide +kernel)⟩
def lw_privs_1 : List (MethodName × Nat) := [(⟨"AmendedDrawing$Item", "ellipseReaches", "(JJ)Z"⟩, 8), (⟨"AmendedDrawing$Action", "sort", "(I)I"⟩, 3), (⟨"java/lang/Throwable", "fillInStackTrace", "(I)Ljava/lang/Throwable;"⟩, 6), (⟨"AmendedDrawing$Drawing", "make", "(LAmendedDrawing$Action;I)Z"⟩, 4), (⟨"AmendedDrawing$Drawing", "insert", "(II)V"⟩, 4), (⟨"AmendedDrawing$Drawing", "delete", "(I)Z"⟩, 4), (⟨"AmendedDrawing$Drawing", "placeOf", "(I)I"⟩, 4), (⟨"AmendedDrawing$Drawing", "endOf", "(I)I"⟩, 4), (⟨"AmendedDrawing$Drawing", "isIn", "(II)Z"⟩, 4), (⟨"AmendedDrawing$Drawing", "removeBlock", "(II)V"⟩, 4), (⟨"AmendedDrawing$Drawing", "move", "(III)Z"⟩, 4), (⟨"AmendedDrawing$Drawing", "isShapeIn", "(II)Z"⟩, 4), (⟨"AmendedDrawing$Drawing", "scale", "(III)Z"⟩, 4), (⟨"AmendedDrawing$Drawing", "edge", "(II)I"⟩, 4), (⟨"AmendedDrawing$Drawing", "paint", "(II)Z"⟩, 4), (⟨"AmendedDrawing$Drawing", "raise", "(II)Z"⟩, 4)]
theorem lw_r1 : ∀ q ∈ lw_privs_1, lw_okq q := List.forall_mem_cons.mpr ⟨lw_p0, List.forall_mem_cons.mpr ⟨lw_p1, List.forall_mem_cons.mpr ⟨lw_p2, List.forall_mem_cons.mpr ⟨lw_p3, List.forall_mem_cons.mpr ⟨lw_p4, List.forall_mem_cons.mpr ⟨lw_p5, List.forall_mem_cons.mpr ⟨lw_p6, List.forall_mem_cons.mpr ⟨lw_p7, List.forall_mem_cons.mpr ⟨lw_p8, List.forall_mem_cons.mpr ⟨lw_p9, List.forall_mem_cons.mpr ⟨lw_p10, List.forall_mem_cons.mpr ⟨lw_p11, List.forall_mem_cons.mpr ⟨lw_p12, List.forall_mem_cons.mpr ⟨lw_p13, List.forall_mem_cons.mpr ⟨lw_p14, List.forall_mem_cons.mpr ⟨lw_p15, fun _ h => absurd h List.not_mem_nil⟩⟩⟩⟩⟩⟩⟩⟩⟩⟩⟩⟩⟩⟩⟩⟩
theorem lw_p16 : lw_okq (⟨"AmendedDrawing$Drawing", "moveBlock", "(III)V"⟩, 4) := ⟨⟨by decide +kernel, by decide +kernel⟩, List.mem_of_getElem? (i := 106) (by decide +kernel), List.mem_of_getElem? (i := 448) (by decide +kernel), List.mem_of_getElem? (i := 449) (by decide +kernel)⟩
theorem lw_p17 : lw_okq (⟨"AmendedDrawing$Drawing", "group", "(III)Z"⟩, 4) := ⟨⟨by decide +kernel, by decide +kernel⟩, List.mem_of_getElem? (i := 106) (by decide +kernel), List.mem_of_getElem? (i := 452) (by decide +kernel), List.mem_of_getElem? (i := 453) (by decide +kernel)⟩
theorem lw_p18 : lw_okq (⟨"AmendedDrawing$Drawing", "ungroup", "(I)Z"⟩, 4) := ⟨⟨by decide +kernel, by decide +kernel⟩, List.mem_of_getElem? (i := 106) (by decide +kernel), List.mem_of_getElem? (i := 460) (by decide +kernel), List.mem_of_getElem? (i := 461) (by decide +kernel)⟩
theorem lw_p19 : lw_okq (⟨"AmendedDrawing$Drawing", "makeDouble", "(IIII)Z"⟩, 4) := ⟨⟨by decide +kernel, by decide +kernel⟩, List.mem_of_getElem? (i := 106) (by decide +kernel), List.mem_of_getElem? (i := 464) (by decide +kernel), List.mem_of_getElem? (i := 465) (by decide +kernel)⟩
theorem lw_p20 : lw_okq (⟨"AmendedDrawing$Drawing", "align", "(III)Z"⟩, 4) := ⟨⟨by decide +kernel, by decide +kernel⟩, List.mem_of_getElem? (i := 106) (by decide +kernel), List.mem_of_getElem? (i := 468) (by decide +kernel), List.mem_of_getElem? (i := 469) (by decide +kernel)⟩
theorem lw_p21 : lw_okq (⟨"AmendedDrawing$History", "at", "(I)LAmendedDrawing$Edit;"⟩, 4) := ⟨⟨by decide +kernel, by decide +kernel⟩, List.mem_of_getElem? (i := 51) (by decide +kernel), List.mem_of_getElem? (i := 496) (by decide +kernel), List.mem_of_getElem? (i := 497) (by decide +kernel)⟩
theorem lw_p22 : lw_okq (⟨"AmendedDrawing", "requireAction", "(I)V"⟩, 6) := ⟨⟨by decide +kernel, by decide +kernel⟩, List.mem_of_getElem? (i := 19) (by decide +kernel), List.mem_of_getElem? (i := 512) (by decide +kernel), List.mem_of_getElem? (i := 513) (by decide +kernel)⟩
theorem lw_p23 : lw_okq (⟨"AmendedDrawing", "changedBeside", "(I)I"⟩, 6) := ⟨⟨by decide +kernel, by decide +kernel⟩, List.mem_of_getElem? (i := 19) (by decide +kernel), List.mem_of_getElem? (i := 541) (by decide +kernel), List.mem_of_getElem? (i := 542) (by decide +kernel)⟩
theorem lw_p24 : lw_okq (⟨"AmendedDrawing", "setEdit", "(LAmendedDrawing$Edit;Z)V"⟩, 6) := ⟨⟨by decide +kernel, by decide +kernel⟩, List.mem_of_getElem? (i := 19) (by decide +kernel), List.mem_of_getElem? (i := 587) (by decide +kernel), List.mem_of_getElem? (i := 588) (by decide +kernel)⟩
theorem lw_p25 : lw_okq (⟨"AmendedDrawingModel", "arg", "(II)I"⟩, 19) := ⟨⟨by decide +kernel, by decide +kernel⟩, List.mem_of_getElem? (i := 653) (by decide +kernel), List.mem_of_getElem? (i := 735) (by decide +kernel), List.mem_of_getElem? (i := 736) (by decide +kernel)⟩
theorem lw_p26 : lw_okq (⟨"AmendedDrawingModel", "lay4", "(IIIII)V"⟩, 19) := ⟨⟨by decide +kernel, by decide +kernel⟩, List.mem_of_getElem? (i := 653) (by decide +kernel), List.mem_of_getElem? (i := 739) (by decide +kernel), List.mem_of_getElem? (i := 740) (by decide +kernel)⟩
theorem lw_p27 : lw_okq (⟨"AmendedDrawingModel", "goThrough", "(I)V"⟩, 19) := ⟨⟨by decide +kernel, by decide +kernel⟩, List.mem_of_getElem? (i := 653) (by decide +kernel), List.mem_of_getElem? (i := 743) (by decide +kernel), List.mem_of_getElem? (i := 744) (by decide +kernel)⟩
theorem lw_p28 : lw_okq (⟨"AmendedDrawingModel", "fits", "(I)Z"⟩, 19) := ⟨⟨by decide +kernel, by decide +kernel⟩, List.mem_of_getElem? (i := 653) (by decide +kernel), List.mem_of_getElem? (i := 747) (by decide +kernel), List.mem_of_getElem? (i := 748) (by decide +kernel)⟩
theorem lw_p29 : lw_okq (⟨"AmendedDrawingModel", "find", "(I)I"⟩, 19) := ⟨⟨by decide +kernel, by decide +kernel⟩, List.mem_of_getElem? (i := 653) (by decide +kernel), List.mem_of_getElem? (i := 751) (by decide +kernel), List.mem_of_getElem? (i := 752) (by decide +kernel)⟩
theorem lw_p30 : lw_okq (⟨"AmendedDrawingModel", "of", "(II)I"⟩, 19) := ⟨⟨by decide +kernel, by decide +kernel⟩, List.mem_of_getElem? (i := 653) (by decide +kernel), List.mem_of_getElem? (i := 755) (by decide +kernel), List.mem_of_getElem? (i := 756) (by decide +kernel)⟩
theorem lw_p31 : lw_okq (⟨"AmendedDrawingModel", "isAlone", "(I)Z"⟩, 19) := ⟨⟨by decide +kernel, by decide +kernel⟩, List.mem_of_getElem? (i := 653) (by decide +kernel), List.mem_of_getElem? (i := 759) (by decide +kernel), List.mem_of_getElem? (i := 760) (by decide +kernel)⟩
def lw_privs_2 : List (MethodName × Nat) := [(⟨"AmendedDrawing$Drawing", "moveBlock", "(III)V"⟩, 4), (⟨"AmendedDrawing$Drawing", "group", "(III)Z"⟩, 4), (⟨"AmendedDrawing$Drawing", "ungroup", "(I)Z"⟩, 4), (⟨"AmendedDrawing$Drawing", "makeDouble", "(IIII)Z"⟩, 4), (⟨"AmendedDrawing$Drawing", "align", "(III)Z"⟩, 4), (⟨"AmendedDrawing$History", "at", "(I)LAmendedDrawing$Edit;"⟩, 4), (⟨"AmendedDrawing", "requireAction", "(I)V"⟩, 6), (⟨"AmendedDrawing", "changedBeside", "(I)I"⟩, 6), (⟨"AmendedDrawing", "setEdit", "(LAmendedDrawing$Edit;Z)V"⟩, 6), (⟨"AmendedDrawingModel", "arg", "(II)I"⟩, 19), (⟨"AmendedDrawingModel", "lay4", "(IIIII)V"⟩, 19), (⟨"AmendedDrawingModel", "goThrough", "(I)V"⟩, 19), (⟨"AmendedDrawingModel", "fits", "(I)Z"⟩, 19), (⟨"AmendedDrawingModel", "find", "(I)I"⟩, 19), (⟨"AmendedDrawingModel", "of", "(II)I"⟩, 19), (⟨"AmendedDrawingModel", "isAlone", "(I)Z"⟩, 19)]
theorem lw_r2 : ∀ q ∈ lw_privs_2, lw_okq q := List.forall_mem_cons.mpr ⟨lw_p16, List.forall_mem_cons.mpr ⟨lw_p17, List.forall_mem_cons.mpr ⟨lw_p18, List.forall_mem_cons.mpr ⟨lw_p19, List.forall_mem_cons.mpr ⟨lw_p20, List.forall_mem_cons.mpr ⟨lw_p21, List.forall_mem_cons.mpr ⟨lw_p22, List.forall_mem_cons.mpr ⟨lw_p23, List.forall_mem_cons.mpr ⟨lw_p24, List.forall_mem_cons.mpr ⟨lw_p25, List.forall_mem_cons.mpr ⟨lw_p26, List.forall_mem_cons.mpr ⟨lw_p27, List.forall_mem_cons.mpr ⟨lw_p28, List.forall_mem_cons.mpr ⟨lw_p29, List.forall_mem_cons.mpr ⟨lw_p30, List.forall_mem_cons.mpr ⟨lw_p31, fun _ h => absurd h List.not_mem_nil⟩⟩⟩⟩⟩⟩⟩⟩⟩⟩⟩⟩⟩⟩⟩⟩
theorem lw_p32 : lw_okq (⟨"AmendedDrawingModel", "isIn", "(II)Z"⟩, 19) := ⟨⟨by decide +kernel, by decide +kernel⟩, List.mem_of_getElem? (i := 653) (by decide +kernel), List.mem_of_getElem? (i := 763) (by decide +kernel), List.mem_of_getElem? (i := 764) (by decide +kernel)⟩
theorem lw_p33 : lw_okq (⟨"AmendedDrawingModel", "act", "(I)V"⟩, 19) := ⟨⟨by decide +kernel, by decide +kernel⟩, List.mem_of_getElem? (i := 653) (by decide +kernel), List.mem_of_getElem? (i := 767) (by decide +kernel), List.mem_of_getElem? (i := 768) (by decide +kernel)⟩
theorem lw_p34 : lw_okq (⟨"AmendedDrawingModel", "make", "(I)V"⟩, 19) := ⟨⟨by decide +kernel, by decide +kernel⟩, List.mem_of_getElem? (i := 653) (by decide +kernel), List.mem_of_getElem? (i := 771) (by decide +kernel), List.mem_of_getElem? (i := 772) (by decide +kernel)⟩
theorem lw_p35 : lw_okq (⟨"AmendedDrawingModel", "put", "(III)V"⟩, 19) := ⟨⟨by decide +kernel, by decide +kernel⟩, List.mem_of_getElem? (i := 653) (by decide +kernel), List.mem_of_getElem? (i := 775) (by decide +kernel), List.mem_of_getElem? (i := 776) (by decide +kernel)⟩
theorem lw_p36 : lw_okq (⟨"AmendedDrawingModel", "delete", "(I)V"⟩, 19) := ⟨⟨by decide +kernel, by decide +kernel⟩, List.mem_of_getElem? (i := 653) (by decide +kernel), List.mem_of_getElem? (i := 779) (by decide +kernel), List.mem_of_getElem? (i := 780) (by decide +kernel)⟩
theorem lw_p37 : lw_okq (⟨"AmendedDrawingModel", "behind", "(I)I"⟩, 19) := ⟨⟨by decide +kernel, by decide +kernel⟩, List.mem_of_getElem? (i := 653) (by decide +kernel), List.mem_of_getElem? (i := 783) (by decide +kernel), List.mem_of_getElem? (i := 784) (by decide +kernel)⟩
theorem lw_p38 : lw_okq (⟨"AmendedDrawingModel", "takeOut", "(II)V"⟩, 19) := ⟨⟨by decide +kernel, by decide +kernel⟩, List.mem_of_getElem? (i := 653) (by decide +kernel), List.mem_of_getElem? (i := 787) (by decide +kernel), List.mem_of_getElem? (i := 788) (by decide +kernel)⟩
theorem lw_p39 : lw_okq (⟨"AmendedDrawingModel", "copyCells", "(II)V"⟩, 19) := ⟨⟨by decide +kernel, by decide +kernel⟩, List.mem_of_getElem? (i := 653) (by decide +kernel), List.mem_of_getElem? (i := 791) (by decide +kernel), List.mem_of_getElem? (i := 792) (by decide +kernel)⟩
theorem lw_p40 : lw_okq (⟨"AmendedDrawingModel", "shift", "(IIII)V"⟩, 19) := ⟨⟨by decide +kernel, by decide +kernel⟩, List.mem_of_getElem? (i := 653) (by decide +kernel), List.mem_of_getElem? (i := 795) (by decide +kernel), List.mem_of_getElem? (i := 796) (by decide +kernel)⟩
theorem lw_p41 : lw_okq (⟨"AmendedDrawingModel", "scale", "(IIII)V"⟩, 19) := ⟨⟨by decide +kernel, by decide +kernel⟩, List.mem_of_getElem? (i := 653) (by decide +kernel), List.mem_of_getElem? (i := 799) (by decide +kernel), List.mem_of_getElem? (i := 800) (by decide +kernel)⟩
theorem lw_p42 : lw_okq (⟨"AmendedDrawingModel", "findBox", "(II)V"⟩, 19) := ⟨⟨by decide +kernel, by decide +kernel⟩, List.mem_of_getElem? (i := 653) (by decide +kernel), List.mem_of_getElem? (i := 803) (by decide +kernel), List.mem_of_getElem? (i := 804) (by decide +kernel)⟩
theorem lw_p43 : lw_okq (⟨"AmendedDrawingModel", "raise", "(IZ)V"⟩, 19) := ⟨⟨by decide +kernel, by decide +kernel⟩, List.mem_of_getElem? (i := 653) (by decide +kernel), List.mem_of_getElem? (i := 812) (by decide +kernel), List.mem_of_getElem? (i := 813) (by decide +kernel)⟩
theorem lw_p44 : lw_okq (⟨"AmendedDrawingModel", "lift", "(II)V"⟩, 19) := ⟨⟨by decide +kernel, by decide +kernel⟩, List.mem_of_getElem? (i := 653) (by decide +kernel), List.mem_of_getElem? (i := 816) (by decide +kernel), List.mem_of_getElem? (i := 817) (by decide +kernel)⟩
theorem lw_p45 : lw_okq (⟨"AmendedDrawingModel", "lay", "(II)V"⟩, 19) := ⟨⟨by decide +kernel, by decide +kernel⟩, List.mem_of_getElem? (i := 653) (by decide +kernel), List.mem_of_getElem? (i := 820) (by decide +kernel), List.mem_of_getElem? (i := 821) (by decide +kernel)⟩
theorem lw_p46 : lw_okq (⟨"AmendedDrawingModel", "makeRoom", "(II)V"⟩, 19) := ⟨⟨by decide +kernel, by decide +kernel⟩, List.mem_of_getElem? (i := 653) (by decide +kernel), List.mem_of_getElem? (i := 824) (by decide +kernel), List.mem_of_getElem? (i := 825) (by decide +kernel)⟩
theorem lw_p47 : lw_okq (⟨"AmendedDrawingModel", "group", "(III)V"⟩, 19) := ⟨⟨by decide +kernel, by decide +kernel⟩, List.mem_of_getElem? (i := 653) (by decide +kernel), List.mem_of_getElem? (i := 828) (by decide +kernel), List.mem_of_getElem? (i := 829) (by decide +kernel)⟩
def lw_privs_3 : List (MethodName × Nat) := [(⟨"AmendedDrawingModel", "isIn", "(II)Z"⟩, 19), (⟨"AmendedDrawingModel", "act", "(I)V"⟩, 19), (⟨"AmendedDrawingModel", "make", "(I)V"⟩, 19), (⟨"AmendedDrawingModel", "put", "(III)V"⟩, 19), (⟨"AmendedDrawingModel", "delete", "(I)V"⟩, 19), (⟨"AmendedDrawingModel", "behind", "(I)I"⟩, 19), (⟨"AmendedDrawingModel", "takeOut", "(II)V"⟩, 19), (⟨"AmendedDrawingModel", "copyCells", "(II)V"⟩, 19), (⟨"AmendedDrawingModel", "shift", "(IIII)V"⟩, 19), (⟨"AmendedDrawingModel", "scale", "(IIII)V"⟩, 19), (⟨"AmendedDrawingModel", "findBox", "(II)V"⟩, 19), (⟨"AmendedDrawingModel", "raise", "(IZ)V"⟩, 19), (⟨"AmendedDrawingModel", "lift", "(II)V"⟩, 19), (⟨"AmendedDrawingModel", "lay", "(II)V"⟩, 19), (⟨"AmendedDrawingModel", "makeRoom", "(II)V"⟩, 19), (⟨"AmendedDrawingModel", "group", "(III)V"⟩, 19)]
theorem lw_r3 : ∀ q ∈ lw_privs_3, lw_okq q := List.forall_mem_cons.mpr ⟨lw_p32, List.forall_mem_cons.mpr ⟨lw_p33, List.forall_mem_cons.mpr ⟨lw_p34, List.forall_mem_cons.mpr ⟨lw_p35, List.forall_mem_cons.mpr ⟨lw_p36, List.forall_mem_cons.mpr ⟨lw_p37, List.forall_mem_cons.mpr ⟨lw_p38, List.forall_mem_cons.mpr ⟨lw_p39, List.forall_mem_cons.mpr ⟨lw_p40, List.forall_mem_cons.mpr ⟨lw_p41, List.forall_mem_cons.mpr ⟨lw_p42, List.forall_mem_cons.mpr ⟨lw_p43, List.forall_mem_cons.mpr ⟨lw_p44, List.forall_mem_cons.mpr ⟨lw_p45, List.forall_mem_cons.mpr ⟨lw_p46, List.forall_mem_cons.mpr ⟨lw_p47, fun _ h => absurd h List.not_mem_nil⟩⟩⟩⟩⟩⟩⟩⟩⟩⟩⟩⟩⟩⟩⟩⟩
theorem lw_p48 : lw_okq (⟨"AmendedDrawingModel", "ungroup", "(I)V"⟩, 19) := ⟨⟨by decide +kernel, by decide +kernel⟩, List.mem_of_getElem? (i := 653) (by decide +kernel), List.mem_of_getElem? (i := 832) (by decide +kernel), List.mem_of_getElem? (i := 833) (by decide +kernel)⟩
theorem lw_p49 : lw_okq (⟨"AmendedDrawingModel", "twice", "(IIII)V"⟩, 19) := ⟨⟨by decide +kernel, by decide +kernel⟩, List.mem_of_getElem? (i := 653) (by decide +kernel), List.mem_of_getElem? (i := 836) (by decide +kernel), List.mem_of_getElem? (i := 837) (by decide +kernel)⟩
theorem lw_p50 : lw_okq (⟨"AmendedDrawingModel", "align", "(III)V"⟩, 19) := ⟨⟨by decide +kernel, by decide +kernel⟩, List.mem_of_getElem? (i := 653) (by decide +kernel), List.mem_of_getElem? (i := 840) (by decide +kernel), List.mem_of_getElem? (i := 841) (by decide +kernel)⟩
theorem lw_p51 : lw_okq (⟨"AmendedDrawingModel", "holdLimits", "()Z"⟩, 19) := ⟨⟨by decide +kernel, by decide +kernel⟩, List.mem_of_getElem? (i := 653) (by decide +kernel), List.mem_of_getElem? (i := 844) (by decide +kernel), List.mem_of_getElem? (i := 845) (by decide +kernel)⟩
theorem lw_p52 : lw_okq (⟨"AmendedDrawingModel", "note", "(IIIII)V"⟩, 19) := ⟨⟨by decide +kernel, by decide +kernel⟩, List.mem_of_getElem? (i := 653) (by decide +kernel), List.mem_of_getElem? (i := 848) (by decide +kernel), List.mem_of_getElem? (i := 849) (by decide +kernel)⟩
theorem lw_p53 : lw_okq (⟨"AmendedDrawingModel", "turn", "(IZ)I"⟩, 19) := ⟨⟨by decide +kernel, by decide +kernel⟩, List.mem_of_getElem? (i := 653) (by decide +kernel), List.mem_of_getElem? (i := 856) (by decide +kernel), List.mem_of_getElem? (i := 857) (by decide +kernel)⟩
theorem lw_p54 : lw_okq (⟨"AmendedDrawingModel", "isAction", "(I)Z"⟩, 19) := ⟨⟨by decide +kernel, by decide +kernel⟩, List.mem_of_getElem? (i := 653) (by decide +kernel), List.mem_of_getElem? (i := 860) (by decide +kernel), List.mem_of_getElem? (i := 861) (by decide +kernel)⟩
theorem lw_p55 : lw_okq (⟨"AmendedDrawingModel", "remember", "()V"⟩, 19) := ⟨⟨by decide +kernel, by decide +kernel⟩, List.mem_of_getElem? (i := 653) (by decide +kernel), List.mem_of_getElem? (i := 864) (by decide +kernel), List.mem_of_getElem? (i := 865) (by decide +kernel)⟩
theorem lw_p56 : lw_okq (⟨"AmendedDrawingModel", "others", "(I)I"⟩, 19) := ⟨⟨by decide +kernel, by decide +kernel⟩, List.mem_of_getElem? (i := 653) (by decide +kernel), List.mem_of_getElem? (i := 868) (by decide +kernel), List.mem_of_getElem? (i := 869) (by decide +kernel)⟩
theorem lw_p57 : lw_okq (⟨"AmendedDrawingModel", "carry", "(IZ)I"⟩, 19) := ⟨⟨by decide +kernel, by decide +kernel⟩, List.mem_of_getElem? (i := 653) (by decide +kernel), List.mem_of_getElem? (i := 884) (by decide +kernel), List.mem_of_getElem? (i := 885) (by decide +kernel)⟩
theorem lw_p58 : lw_okq (⟨"AmendedDrawingModel", "covering", "(II)I"⟩, 19) := ⟨⟨by decide +kernel, by decide +kernel⟩, List.mem_of_getElem? (i := 653) (by decide +kernel), List.mem_of_getElem? (i := 924) (by decide +kernel), List.mem_of_getElem? (i := 925) (by decide +kernel)⟩
theorem lw_p59 : lw_okq (⟨"AmendedDrawingModel", "covers", "(III)Z"⟩, 19) := ⟨⟨by decide +kernel, by decide +kernel⟩, List.mem_of_getElem? (i := 653) (by decide +kernel), List.mem_of_getElem? (i := 928) (by decide +kernel), List.mem_of_getElem? (i := 929) (by decide +kernel)⟩
def lw_privs_4 : List (MethodName × Nat) := [(⟨"AmendedDrawingModel", "ungroup", "(I)V"⟩, 19), (⟨"AmendedDrawingModel", "twice", "(IIII)V"⟩, 19), (⟨"AmendedDrawingModel", "align", "(III)V"⟩, 19), (⟨"AmendedDrawingModel", "holdLimits", "()Z"⟩, 19), (⟨"AmendedDrawingModel", "note", "(IIIII)V"⟩, 19), (⟨"AmendedDrawingModel", "turn", "(IZ)I"⟩, 19), (⟨"AmendedDrawingModel", "isAction", "(I)Z"⟩, 19), (⟨"AmendedDrawingModel", "remember", "()V"⟩, 19), (⟨"AmendedDrawingModel", "others", "(I)I"⟩, 19), (⟨"AmendedDrawingModel", "carry", "(IZ)I"⟩, 19), (⟨"AmendedDrawingModel", "covering", "(II)I"⟩, 19), (⟨"AmendedDrawingModel", "covers", "(III)Z"⟩, 19)]
theorem lw_r4 : ∀ q ∈ lw_privs_4, lw_okq q := List.forall_mem_cons.mpr ⟨lw_p48, List.forall_mem_cons.mpr ⟨lw_p49, List.forall_mem_cons.mpr ⟨lw_p50, List.forall_mem_cons.mpr ⟨lw_p51, List.forall_mem_cons.mpr ⟨lw_p52, List.forall_mem_cons.mpr ⟨lw_p53, List.forall_mem_cons.mpr ⟨lw_p54, List.forall_mem_cons.mpr ⟨lw_p55, List.forall_mem_cons.mpr ⟨lw_p56, List.forall_mem_cons.mpr ⟨lw_p57, List.forall_mem_cons.mpr ⟨lw_p58, List.forall_mem_cons.mpr ⟨lw_p59, fun _ h => absurd h List.not_mem_nil⟩⟩⟩⟩⟩⟩⟩⟩⟩⟩⟩⟩
def lw_privs : List (MethodName × Nat) := lw_privs_1 ++ (lw_privs_2 ++ (lw_privs_3 ++ (lw_privs_4)))
def lw_tbl : List Cond := k2_sels lw_privs ++ tables_1
theorem lw_privs_ok : ∀ q ∈ lw_privs, lw_okq q := by
  show ∀ q ∈ lw_privs_1 ++ (lw_privs_2 ++ (lw_privs_3 ++ (lw_privs_4))), lw_okq q
  exact List.forall_mem_append.mpr ⟨lw_r1, List.forall_mem_append.mpr ⟨lw_r2, List.forall_mem_append.mpr ⟨lw_r3, lw_r4⟩⟩⟩
end
section
def R_Action : String := "AmendedDrawing$Action"
def R_Edit : String := "AmendedDrawing$Edit"
def R_Item : String := "AmendedDrawing$Item"
def cC : Nat → String
  | 0 => "AmendedDrawing"
  | 1 => "AmendedDrawing$Action"
  | 2 => "AmendedDrawing$Edit"
  | 3 => "AmendedDrawing$History"
  | 4 => "AmendedDrawing$Outcome"
  | 5 => "AmendedDrawing$Item"
  | 6 => "AmendedDrawing$Drawing"
  | 7 => "AmendedDrawingModel"
  | _ => ""
def cN : Nat → Nat
  | 0 => 6
  | 1 => 3
  | 2 => 5
  | 3 => 4
  | 4 => 3
  | 5 => 8
  | 6 => 4
  | 7 => 19
  | _ => 0
def fk : Nat → List Bool
  | 0 => [true, true, true, true, true, false]
  | 1 => [false, false, true]
  | 2 => [false, false, false, false, false]
  | 3 => [true, false, false, false]
  | 4 => [true, true, true]
  | 5 => [false, false, false, false, false, false, false, false]
  | 6 => [true, true, false, true]
  | 7 => [false, false, true, true, true, true, true, false, true, false, true, true, false, false, false, false, true, false, false]
  | _ => []
def cFL : Nat → List (String × String × String × Bool)
  | 0 => [("AmendedDrawing", "row", "[LAmendedDrawing$Action;", true), ("AmendedDrawing", "offered", "LAmendedDrawing$Action;", true), ("AmendedDrawing", "history", "LAmendedDrawing$History;", true), ("AmendedDrawing", "now", "LAmendedDrawing$Outcome;", true), ("AmendedDrawing", "trial", "LAmendedDrawing$Outcome;", true), ("AmendedDrawing", "count", "I", false)]
  | 1 => [("AmendedDrawing$Action", "kind", "I", false), ("AmendedDrawing$Action", "withdrawn", "Z", false), ("AmendedDrawing$Action", "arguments", "[I", true)]
  | 2 => [("AmendedDrawing$Edit", "kind", "I", false), ("AmendedDrawing$Edit", "action", "I", false), ("AmendedDrawing$Edit", "argument", "I", false), ("AmendedDrawing$Edit", "before", "I", false), ("AmendedDrawing$Edit", "after", "I", false)]
  | 3 => [("AmendedDrawing$History", "ring", "[LAmendedDrawing$Edit;", true), ("AmendedDrawing$History", "first", "I", false), ("AmendedDrawing$History", "done", "I", false), ("AmendedDrawing$History", "undone", "I", false)]
  | 4 => [("AmendedDrawing$Outcome", "drawing", "LAmendedDrawing$Drawing;", true), ("AmendedDrawing$Outcome", "effects", "[I", true), ("AmendedDrawing$Outcome", "before", "[I", true)]
  | 5 => [("AmendedDrawing$Item", "there", "Z", false), ("AmendedDrawing$Item", "form", "I", false), ("AmendedDrawing$Item", "left", "I", false), ("AmendedDrawing$Item", "top", "I", false), ("AmendedDrawing$Item", "width", "I", false), ("AmendedDrawing$Item", "height", "I", false), ("AmendedDrawing$Item", "colour", "I", false), ("AmendedDrawing$Item", "parent", "I", false)]
  | 6 => [("AmendedDrawing$Drawing", "items", "[LAmendedDrawing$Item;", true), ("AmendedDrawing$Drawing", "order", "[I", true), ("AmendedDrawing$Drawing", "size", "I", false), ("AmendedDrawing$Drawing", "block", "[I", true)]
  | 7 => [("AmendedDrawingModel", "thrown", "I", false), ("AmendedDrawingModel", "count", "I", false), ("AmendedDrawingModel", "kinds", "[I", true), ("AmendedDrawingModel", "args", "[I", true), ("AmendedDrawingModel", "withdrawn", "[Z", true), ("AmendedDrawingModel", "effects", "[I", true), ("AmendedDrawingModel", "base", "[I", true), ("AmendedDrawingModel", "n", "I", false), ("AmendedDrawingModel", "row", "[I", true), ("AmendedDrawingModel", "keptMany", "I", false), ("AmendedDrawingModel", "kept", "[I", true), ("AmendedDrawingModel", "moved", "[I", true), ("AmendedDrawingModel", "boxLeft", "I", false), ("AmendedDrawingModel", "boxTop", "I", false), ("AmendedDrawingModel", "boxRight", "I", false), ("AmendedDrawingModel", "boxLow", "I", false), ("AmendedDrawingModel", "edits", "[I", true), ("AmendedDrawingModel", "known", "I", false), ("AmendedDrawingModel", "done", "I", false)]
  | _ => []
def cTL : Nat → List FieldType
  | 0 => [.array (.object "AmendedDrawing$Action"), .object "AmendedDrawing$Action", .object "AmendedDrawing$History", .object "AmendedDrawing$Outcome", .object "AmendedDrawing$Outcome", .int]
  | 1 => [.int, .boolean, .array (.int)]
  | 2 => [.int, .int, .int, .int, .int]
  | 3 => [.array (.object "AmendedDrawing$Edit"), .int, .int, .int]
  | 4 => [.object "AmendedDrawing$Drawing", .array (.int), .array (.int)]
  | 5 => [.boolean, .int, .int, .int, .int, .int, .int, .int]
  | 6 => [.array (.object "AmendedDrawing$Item"), .array (.int), .int, .array (.int)]
  | 7 => [.int, .int, .array (.int), .array (.int), .array (.boolean), .array (.int), .array (.int), .int, .array (.int), .int, .array (.int), .array (.int), .int, .int, .int, .int, .array (.int), .int, .int]
  | _ => []
def cF (ci : Nat) : u_T := fun k => (cFL ci).getD k ("", "", "", false)
def cT (ci : Nat) : Nat → FieldType := fun k => (cTL ci).getD k .int
abbrev CL : List vw_C := [(cC 0, cF 0, cN 0), (cC 1, cF 1, cN 1), (cC 2, cF 2, cN 2), (cC 3, cF 3, cN 3), (cC 4, cF 4, cN 4), (cC 5, cF 5, cN 5), (cC 6, cF 6, cN 6), (cC 7, cF 7, cN 7)]
abbrev ciA : Nat := 1
abbrev ciE : Nat := 2
abbrev ciI : Nat := 5
def TT : List Cond := lw_tbl.filter goodWord
def isNW : Cond → Bool
  | .declares _ => true
  | .methodLinkNest .. => true
  | .castable .. => true
  | _ => false
def NW : List Cond := lw_tbl.filter isNW
theorem nw_mem {w : Cond} (j : Nat) (h : tables_1[j]? = some w) (hg : isNW w = true) : w ∈ NW := List.mem_filter.mpr ⟨List.mem_append_right _ (List.mem_of_getElem? h), hg⟩
theorem tt_of {w : Cond} (h : w ∈ lw_tbl) (hg : goodWord w = true) : w ∈ TT := List.mem_filter.mpr ⟨h, hg⟩
theorem tt_mem {w : Cond} (j : Nat) (h : tables_1[j]? = some w) (hg : goodWord w = true) : w ∈ TT := tt_of (List.mem_append_right _ (List.mem_of_getElem? h)) hg
theorem tt_sel {w : Cond} (j : Nat) (h : (k2_sels lw_privs)[j]? = some w) (hg : goodWord w = true) : w ∈ TT := tt_of (List.mem_append_left _ (List.mem_of_getElem? h)) hg
set_option maxRecDepth 20000 in
theorem kl_0 : ∀ k : Nat, k < 6 → u_lay (cC 0) (cF 0) k ∈ TT
  | 0, _ => tt_mem 186 rfl rfl
  | 1, _ => tt_mem 188 rfl rfl
  | 2, _ => tt_mem 190 rfl rfl
  | 3, _ => tt_mem 192 rfl rfl
  | 4, _ => tt_mem 194 rfl rfl
  | 5, _ => tt_mem 196 rfl rfl
  | k + 6, h => absurd h (by omega)
set_option maxRecDepth 20000 in
theorem kl_1 : ∀ k : Nat, k < 3 → u_lay (cC 1) (cF 1) k ∈ TT
  | 0, _ => tt_mem 42 rfl rfl
  | 1, _ => tt_mem 44 rfl rfl
  | 2, _ => tt_mem 46 rfl rfl
  | k + 3, h => absurd h (by omega)
set_option maxRecDepth 20000 in
theorem kl_2 : ∀ k : Nat, k < 5 → u_lay (cC 2) (cF 2) k ∈ TT
  | 0, _ => tt_mem 73 rfl rfl
  | 1, _ => tt_mem 75 rfl rfl
  | 2, _ => tt_mem 77 rfl rfl
  | 3, _ => tt_mem 79 rfl rfl
  | 4, _ => tt_mem 81 rfl rfl
  | k + 5, h => absurd h (by omega)
set_option maxRecDepth 20000 in
theorem kl_3 : ∀ k : Nat, k < 4 → u_lay (cC 3) (cF 3) k ∈ TT
  | 0, _ => tt_mem 90 rfl rfl
  | 1, _ => tt_mem 92 rfl rfl
  | 2, _ => tt_mem 94 rfl rfl
  | 3, _ => tt_mem 96 rfl rfl
  | k + 4, h => absurd h (by omega)
set_option maxRecDepth 20000 in
theorem kl_4 : ∀ k : Nat, k < 3 → u_lay (cC 4) (cF 4) k ∈ TT
  | 0, _ => tt_mem 173 rfl rfl
  | 1, _ => tt_mem 175 rfl rfl
  | 2, _ => tt_mem 177 rfl rfl
  | k + 3, h => absurd h (by omega)
set_option maxRecDepth 20000 in
theorem kl_5 : ∀ k : Nat, k < 8 → u_lay (cC 5) (cF 5) k ∈ TT
  | 0, _ => tt_mem 134 rfl rfl
  | 1, _ => tt_mem 136 rfl rfl
  | 2, _ => tt_mem 138 rfl rfl
  | 3, _ => tt_mem 140 rfl rfl
  | 4, _ => tt_mem 142 rfl rfl
  | 5, _ => tt_mem 144 rfl rfl
  | 6, _ => tt_mem 146 rfl rfl
  | 7, _ => tt_mem 148 rfl rfl
  | k + 8, h => absurd h (by omega)
set_option maxRecDepth 20000 in
theorem kl_6 : ∀ k : Nat, k < 4 → u_lay (cC 6) (cF 6) k ∈ TT
  | 0, _ => tt_mem 158 rfl rfl
  | 1, _ => tt_mem 160 rfl rfl
  | 2, _ => tt_mem 162 rfl rfl
  | 3, _ => tt_mem 164 rfl rfl
  | k + 4, h => absurd h (by omega)
set_option maxRecDepth 20000 in
theorem kl_7 : ∀ k : Nat, k < 19 → u_lay (cC 7) (cF 7) k ∈ TT
  | 0, _ => tt_mem 677 rfl rfl
  | 1, _ => tt_mem 679 rfl rfl
  | 2, _ => tt_mem 681 rfl rfl
  | 3, _ => tt_mem 683 rfl rfl
  | 4, _ => tt_mem 685 rfl rfl
  | 5, _ => tt_mem 687 rfl rfl
  | 6, _ => tt_mem 689 rfl rfl
  | 7, _ => tt_mem 691 rfl rfl
  | 8, _ => tt_mem 693 rfl rfl
  | 9, _ => tt_mem 695 rfl rfl
  | 10, _ => tt_mem 697 rfl rfl
  | 11, _ => tt_mem 699 rfl rfl
  | 12, _ => tt_mem 701 rfl rfl
  | 13, _ => tt_mem 703 rfl rfl
  | 14, _ => tt_mem 705 rfl rfl
  | 15, _ => tt_mem 707 rfl rfl
  | 16, _ => tt_mem 709 rfl rfl
  | 17, _ => tt_mem 711 rfl rfl
  | 18, _ => tt_mem 713 rfl rfl
  | k + 19, h => absurd h (by omega)
theorem kc : ∀ ci : Nat, ci < 8 → CL[ci]? = some (cC ci, cF ci, cN ci)
  | 0, _ => rfl
  | 1, _ => rfl
  | 2, _ => rfl
  | 3, _ => rfl
  | 4, _ => rfl
  | 5, _ => rfl
  | 6, _ => rfl
  | 7, _ => rfl
  | k + 8, h => absurd h (by omega)
theorem kl_in {C : String} {T : u_T} {N : Nat} (h : ∀ k : Nat, k < N → u_lay C T k ∈ TT) : ∀ w ∈ u_ws C T N, w ∈ TT := by
  intro w hw
  obtain ⟨k, hk, rfl⟩ := List.mem_map.mp hw
  exact h k (List.mem_range.mp hk)
theorem kc_in : ∀ ci : Nat, ci < 8 → ∀ w ∈ u_ws (cC ci) (cF ci) (cN ci), w ∈ TT
  | 0, _ => kl_in kl_0
  | 1, _ => kl_in kl_1
  | 2, _ => kl_in kl_2
  | 3, _ => kl_in kl_3
  | 4, _ => kl_in kl_4
  | 5, _ => kl_in kl_5
  | 6, _ => kl_in kl_6
  | 7, _ => kl_in kl_7
  | k + 8, h => absurd h (by omega)
theorem kc_ty : ∀ ci : Nat, ci < 8 → ∀ k, k < cN ci → parseFieldDescriptor (cF ci k).2.2.1 = some (cT ci k)
  | 0, _ => by decide +kernel
  | 1, _ => by decide +kernel
  | 2, _ => by decide +kernel
  | 3, _ => by decide +kernel
  | 4, _ => by decide +kernel
  | 5, _ => by decide +kernel
  | 6, _ => by decide +kernel
  | 7, _ => by decide +kernel
  | k + 8, h => absurd h (by omega)
theorem kc_nm : ∀ ci : Nat, ci < 8 → ∀ a, a < cN ci → ∀ b, b < cN ci → a ≠ b → (cF ci a).2.1 ≠ (cF ci b).2.1
  | 0, _ => by decide +kernel
  | 1, _ => by decide +kernel
  | 2, _ => by decide +kernel
  | 3, _ => by decide +kernel
  | 4, _ => by decide +kernel
  | 5, _ => by decide +kernel
  | 6, _ => by decide +kernel
  | 7, _ => by decide +kernel
  | k + 8, h => absurd h (by omega)
theorem fk_ci {ci i : Nat} {b : Bool} (h : (fk ci)[i]? = some b) : ci < 8 := by
  match ci, h with
  | 0, _ => decide
  | 1, _ => decide
  | 2, _ => decide
  | 3, _ => decide
  | 4, _ => decide
  | 5, _ => decide
  | 6, _ => decide
  | 7, _ => decide
  | k + 8, h => simp [fk] at h
theorem fk_len : ∀ ci : Nat, ci < 8 → (fk ci).length = cN ci
  | 0, _ => rfl
  | 1, _ => rfl
  | 2, _ => rfl
  | 3, _ => rfl
  | 4, _ => rfl
  | 5, _ => rfl
  | 6, _ => rfl
  | 7, _ => rfl
  | k + 8, h => absurd h (by omega)
theorem fk_lt {ci i : Nat} {b : Bool} (h : (fk ci)[i]? = some b) : i < cN ci := by
  have h1 := (List.getElem?_eq_some_iff.mp h).1
  rw [fk_len ci (fk_ci h)] at h1
  exact h1
abbrev nwE : Cond := (Jvm.Cond.methodLinkNest "AmendedDrawing$History" (17 : Nat) ({ cls := "AmendedDrawing$Edit", name := "<init>", desc := "()V" } : Jvm.MethodName) "AmendedDrawing")
abbrev nwI : Cond := (Jvm.Cond.methodLinkNest "AmendedDrawing$Drawing" (17 : Nat) ({ cls := "AmendedDrawing$Item", name := "<init>", desc := "()V" } : Jvm.MethodName) "AmendedDrawing")
def sortsL : List Int32 := [2, 3, 3, 4, 1, 0, 0, 0, 1, 3, 3, 0, 1, 5, 5, 0, 1, 6, 0, 0, 1, 7, 0, 0, 1, 1, 0, 0, 1, 0, 0, 0, 1, 3, 3, 0, 1, 1, 8, 0]
def sortsF (j : Nat) : Int32 := sortsL.getD j 0
end
section
/-! The layer Z over W: a frame of the machine over ONE picture of all cells that the law has made since its start: cell k lies at address o + k; ints in S, longs in J, references in P, the cells' kinds in T (0: object of class ci; 1: ints; 2: booleans; 3: longs; 4, 5, 6: references to Action, Edit, Item), x: nothing else has been made since the start. A rule an instruction. -/
abbrev Mem : Type := Nat → Nat → Int32
abbrev Gp : Type := (Nat → Nat → Int64) × (Nat → Nat → Option Nat) × List (Nat × Nat) × Bool
abbrev Hp : Type := Mem × Gp
abbrev Rs : Type := Option Value ⊕ Nat
abbrev Gm : Type := Launch × va_G × (Nat → ClassId) × Nat × Nat × Nat × Nat × (Nat → Int32)
abbrev g_l (g : Gm) : Launch := g.1
abbrev g_D (g : Gm) : va_G := g.2.1
abbrev g_A (g : Gm) : Nat → ClassId := g.2.2.1
abbrev g_o (g : Gm) : Nat := g.2.2.2.1
abbrev g_t (g : Gm) : Nat := g.2.2.2.2.1
abbrev g_b (g : Gm) : Nat := g.2.2.2.2.2.1
abbrev g_n (g : Gm) : Nat := g.2.2.2.2.2.2.1
abbrev g_x (g : Gm) : Nat → Int32 := g.2.2.2.2.2.2.2
/-- the methods: name, bytes, locals, answer, room, handlers, rows (place, instruction, length, next place, branch's target) -/
abbrev Row : Type := Nat × Instr × Nat × Nat × Nat
abbrev MI : Type := MethodName × ByteArray × Nat × Option FieldType × Room × List (Nat × Nat × Nat × Nat) × List Row
abbrev mY (M : MI) : MethodName := M.1
abbrev mB (M : MI) : ByteArray := M.2.1
abbrev mL (M : MI) : Nat := M.2.2.1
abbrev mR (M : MI) : Option FieldType := M.2.2.2.1
abbrev mM (M : MI) : Room := M.2.2.2.2.1
abbrev mX (M : MI) : List (Nat × Nat × Nat × Nat) := M.2.2.2.2.2.1
abbrev mT (M : MI) : List Row := M.2.2.2.2.2.2
def fI (M : MI) (pc : Nat) : Option (Instr × Nat × Nat × Nat) := (mT M).lookup pc
def brOff : Instr → Option Int
  | .goto o => some o
  | .ifCond _ o => some o
  | .if_icmp _ o => some o
  | _ => none
def okRow (b : ByteArray) (r : Row) : Bool := decide (decode b r.1 = .ok (r.2.1, r.2.2.1)) && (decide (r.2.2.2.1 = r.1 + r.2.2.1) && (match brOff r.2.1 with
  | some o => decide ((r.1 : Int) + o = (r.2.2.2.2 : Int))
  | none => true))
def okM (M : MI) : Prop := (mT M).all (okRow (mB M)) = true
theorem lookup_mem {l : List Row} {k : Nat} {v : Instr × Nat × Nat × Nat} (h : l.lookup k = some v) : (k, v) ∈ l := by
  induction l with
  | nil => simp at h
  | cons a t ih =>
    obtain ⟨a1, a2⟩ := a
    rw [List.lookup_cons] at h
    by_cases hk : k = a1
    · subst hk
      simp at h
      subst h
      exact List.mem_cons_self
    · have hb : (k == a1) = false := by simpa using hk
      rw [hb] at h
      exact List.mem_cons_of_mem _ (ih h)
theorem fI_ok {M : MI} {pc : Nat} {i : Instr} {n nx tg : Nat} (hM : okM M) (h : fI M pc = some (i, n, nx, tg)) : decode (mB M) pc = .ok (i, n) ∧ nx = pc + n ∧ ∀ o, brOff i = some o → (pc : Int) + o = (tg : Int) := by
  have h1 := List.all_eq_true.mp hM _ (lookup_mem h)
  simp only [okRow, Bool.and_eq_true, decide_eq_true_eq] at h1
  refine ⟨h1.1, h1.2.1, fun o ho => ?_⟩
  have h2 := h1.2.2
  rw [ho] at h2
  simpa using h2
def tr (g : Gm) : Value → Value
  | .ref k => .ref (g_o g + k)
  | .retAddr 0 => .ref (g_t g)
  | .retAddr _ => .ref (g_b g)
  | v => v
theorem tr_cat (g : Gm) (v : Value) : (tr g v).category = v.category := by
  cases v with
  | retAddr n => cases n <;> rfl
  | _ => rfl
def tysOf (g : Gm) : List (ClassId × FieldType) := [(g_A g 0, .int), (g_A g 1, .boolean), (g_A g 2, .long), (g_A g 3, .object R_Action), (g_A g 4, .object R_Edit), (g_A g 5, .object R_Item)]
/-- the fields of an object: ints out of S, references out of P -/
def mfs (o : Nat) (S : Nat → Int32) (P : Nat → Option Nat) : Nat → List Bool → List Value
  | _, [] => []
  | i, false :: t => .int (S i) :: mfs o S P (i + 1) t
  | i, true :: t => va_rf ((P i).map (o + ·)) :: mfs o S P (i + 1) t
def mce (g : Gm) (h : Hp) (k : Nat) (ct : Nat × Nat) : va_E := match ct.1 with
  | 0 => .inr (ct.2, mfs (g_o g) (h.1 k) (h.2.2.1 k) 0 (fk ct.2))
  | 1 => .inl (g_A g 0, ct.2, .inl (h.1 k))
  | 2 => .inl (g_A g 1, ct.2, .inl (h.1 k))
  | 3 => .inl (g_A g 2, ct.2, .inr (.inl (h.2.1 k)))
  | j + 4 => .inl (g_A g (j + 3), ct.2, .inr (.inr (.inr (.inr (fun i => (h.2.2.1 k i).map (g_o g + ·))))))
def mws (g : Gm) (h : Hp) : va_W := h.2.2.2.1.mapIdx fun k ct => (g_o g + k, mce g h k ct)
def zA (g : Gm) : Nat → Prop := fun q => g_o g ≤ q
def zK (g : Gm) (U : State) : Prop := va_K (g_D g) CL (tysOf g) U ∧ (va_AO R_Action U ∧ va_AO R_Edit U ∧ va_AO R_Item U) ∧ ∀ w ∈ NW, va_Nw w U
def zU (g : Gm) (U : State) (H : Heap) : Prop := va_Z R_Action "SORTS" "[I" (.ref (g_t g)) (zA g) U H ∧ va_T .int (g_t g) 40 (fun j => .int (sortsF j)) (zA g) U H ∧ va_X (g_b g) (g_n g) (g_x g) U H ∧ g_b g < g_o g ∧ g_o g ≤ H.size ∧ (∃ u : RefV, va_Z "java/lang/Throwable" "UNASSIGNED_STACK" "[Ljava/lang/StackTraceElement;" u.v (zA g) U H) ∧ ∃ u : RefV, va_Z "java/lang/Throwable" "SUPPRESSED_SENTINEL" "Ljava/util/List;" u.v (zA g) U H
theorem mws_at {g : Gm} {h : Hp} {k : Nat} {ct : Nat × Nat} (hk : h.2.2.2.1[k]? = some ct) : (mws g h)[k]? = some (g_o g + k, mce g h k ct) := by
  simp only [mws, List.getElem?_mapIdx, hk, Option.map_some]
theorem mws_of {g : Gm} {h : Hp} {k : Nat} {q : Nat × va_E} (hq : (mws g h)[k]? = some q) : ∃ ct, h.2.2.2.1[k]? = some ct ∧ q = (g_o g + k, mce g h k ct) := by
  simp only [mws, List.getElem?_mapIdx, Option.map_eq_some_iff] at hq
  obtain ⟨ct, h1, h2⟩ := hq
  exact ⟨ct, h1, h2.symm⟩
theorem mws_len (g : Gm) (h : Hp) : (mws g h).length = h.2.2.2.1.length := by simp [mws]
theorem mD {g : Gm} {h : Hp} : va_D (zA g) (mws g h) := by
  refine ⟨fun i j p q hp hq e => ?_, fun k q hq => ?_⟩
  · obtain ⟨_, _, rfl⟩ := mws_of hp
    obtain ⟨_, _, rfl⟩ := mws_of hq
    exact Nat.add_left_cancel e
  · obtain ⟨_, _, rfl⟩ := mws_of hq
    exact Nat.le_add_right _ _
theorem mce_cg {g : Gm} {h h' : Hp} {j : Nat} (h1 : h'.1 j = h.1 j) (h2 : h'.2.1 j = h.2.1 j) (h3 : h'.2.2.1 j = h.2.2.1 j) (ct : Nat × Nat) : mce g h' j ct = mce g h j ct := by
  simp only [mce, h1, h2, h3]
theorem mws_set {g : Gm} {h h' : Hp} {k : Nat} {ct : Nat × Nat} {e : va_E} (hT : h'.2.2.2.1 = h.2.2.2.1) (hk : h.2.2.2.1[k]? = some ct) (he : mce g h' k ct = e) (ho : ∀ (j : Nat) (ct' : Nat × Nat), j ≠ k → mce g h' j ct' = mce g h j ct') : (mws g h).set k (g_o g + k, e) = mws g h' := by
  apply List.ext_getElem?
  intro i
  by_cases hik : i = k
  · subst hik
    rw [List.getElem?_set_self (by rw [mws_len]; exact (List.getElem?_eq_some_iff.mp hk).1), mws_at (h := h') (by rw [hT]; exact hk), he]
  · rw [List.getElem?_set_ne (fun e => hik e.symm)]
    cases hc : h.2.2.2.1[i]? with
    | none =>
      rw [List.getElem?_eq_none (by rw [mws_len]; simpa using hc), List.getElem?_eq_none (by rw [mws_len, hT]; simpa using hc)]
    | some ct' => rw [mws_at hc, mws_at (h := h') (by rw [hT]; exact hc), ho i ct' hik]
def up2 {α : Type} (S : Nat → Nat → α) (k i : Nat) (v : α) : Nat → Nat → α := fun a b => if a = k ∧ b = i then v else S a b
theorem up2_row {α : Type} (S : Nat → Nat → α) (k i : Nat) (v : α) : up2 S k i v k = fun b => if b = i then v else S k b := by
  funext b
  simp [up2]
theorem up2_ne {α : Type} (S : Nat → Nat → α) (k i : Nat) (v : α) (j : Nat) (h : j ≠ k) : up2 S k i v j = S j := by
  funext b
  simp [up2, h]
def cpy2 (S : Mem) (c0 c1 sp dp n : Nat) : Mem := fun a b => if a = c1 then va_cpy (S c0) (S c1) sp dp n b else S a b
theorem cpy2_row (S : Mem) (c0 c1 sp dp n : Nat) : cpy2 S c0 c1 sp dp n c1 = va_cpy (S c0) (S c1) sp dp n := by
  funext b
  simp [cpy2]
theorem cpy2_ne (S : Mem) (c0 c1 sp dp n : Nat) (j : Nat) (h : j ≠ c1) : cpy2 S c0 c1 sp dp n j = S j := by
  funext b
  simp [cpy2, h]
theorem mfs_at (o : Nat) (S : Nat → Int32) (P : Nat → Option Nat) : ∀ (L : List Bool) (i0 i : Nat) (b : Bool), L[i]? = some b → (mfs o S P i0 L)[i]? = some (match b with
  | false => .int (S (i0 + i))
  | true => va_rf ((P (i0 + i)).map (o + ·)))
  | [], _, _, _, h => by simp at h
  | a :: t, i0, 0, b, h => by
    have hb : a = b := by simpa using h
    subst hb
    cases a <;> rfl
  | a :: t, i0, i + 1, b, h => by
    have h1 : t[i]? = some b := by simpa using h
    have h2 := mfs_at o S P t (i0 + 1) i b h1
    rw [show i0 + 1 + i = i0 + (i + 1) by omega] at h2
    cases a <;> exact h2
theorem mfs_len (o : Nat) (S : Nat → Int32) (P : Nat → Option Nat) : ∀ (L : List Bool) (i0 : Nat), (mfs o S P i0 L).length = L.length
  | [], _ => rfl
  | a :: t, i0 => by cases a <;> simp [mfs, mfs_len o S P t (i0 + 1)]
theorem mfs_cg (o : Nat) {S S' : Nat → Int32} {P P' : Nat → Option Nat} : ∀ (L : List Bool) (i0 : Nat), (∀ i, i0 ≤ i → S' i = S i ∧ P' i = P i) → mfs o S' P' i0 L = mfs o S P i0 L
  | [], _, _ => rfl
  | a :: t, i0, h => by
    have h1 := mfs_cg o t (i0 + 1) (fun i hi => h i (by omega))
    have h2 := h i0 (Nat.le_refl _)
    cases a <;> simp only [mfs, h1, h2.1, h2.2]
theorem mfs_set (o : Nat) {S S' : Nat → Int32} {P P' : Nat → Option Nat} {v : Value} : ∀ (L : List Bool) (i0 i : Nat) (b : Bool), L[i]? = some b → (∀ j, j ≠ i0 + i → S' j = S j ∧ P' j = P j) → (v = match b with
  | false => .int (S' (i0 + i))
  | true => va_rf ((P' (i0 + i)).map (o + ·))) → (mfs o S P i0 L).set i v = mfs o S' P' i0 L
  | [], _, _, _, h, _, _ => by simp at h
  | a :: t, i0, 0, b, h, hj, hv => by
    have hb : a = b := by simpa using h
    subst hb
    have h1 := mfs_cg o (S := S) (S' := S') (P := P) (P' := P') t (i0 + 1) (fun i hi => hj i (by omega))
    cases a <;> (simp only [Nat.add_zero] at hv; simp only [mfs, List.set_cons_zero, h1, hv])
  | a :: t, i0, i + 1, b, h, hj, hv => by
    have h1 : t[i]? = some b := by simpa using h
    have e1 : i0 + 1 + i = i0 + (i + 1) := by omega
    have h2 := mfs_set o (S := S) (S' := S') (P := P) (P' := P') (v := v) t (i0 + 1) i b h1 (by rw [e1]; exact hj) (by rw [e1]; exact hv)
    have h3 := hj i0 (by omega)
    cases a <;> simp only [mfs, List.set_cons_succ, h2, h3.1, h3.2]
/-- locals: what is known of them -/
def LR (g : Gm) (n : Nat) (L : List (Option Value)) (ls : Array Slot) : Prop := ls.size = n ∧ L.length = n ∧ lv_wf ls ∧ ∀ (i : Nat) (v : Value), L[i]? = some (some v) → ls[i]? = some (.val (tr g v))
def lvs (g : Gm) : Nat → List (Option Value) → List (Nat × Value)
  | _, [] => []
  | i, none :: t => lvs g (i + 1) t
  | i, some v :: t => (i, tr g v) :: lvs g (i + 1) t
theorem lvs_mem (g : Gm) : ∀ (L : List (Option Value)) (i0 : Nat) (q : Nat × Value), q ∈ lvs g i0 L ↔ ∃ (j : Nat) (v : Value), L[j]? = some (some v) ∧ q = (i0 + j, tr g v)
  | [], i0, q => by simp [lvs]
  | none :: t, i0, q => by
    rw [lvs, lvs_mem g t (i0 + 1) q]
    constructor
    · rintro ⟨j, v, h1, h2⟩
      exact ⟨j + 1, v, by simpa using h1, by rw [h2]; congr 1; omega⟩
    · rintro ⟨j, v, h1, h2⟩
      cases j with
      | zero => simp at h1
      | succ j => exact ⟨j, v, by simpa using h1, by rw [h2]; congr 1; omega⟩
  | some w :: t, i0, q => by
    rw [lvs, List.mem_cons, lvs_mem g t (i0 + 1) q]
    constructor
    · rintro (h | ⟨j, v, h1, h2⟩)
      · exact ⟨0, w, rfl, h⟩
      · exact ⟨j + 1, v, by simpa using h1, by rw [h2]; congr 1; omega⟩
    · rintro ⟨j, v, h1, h2⟩
      cases j with
      | zero =>
        have hw : w = v := by simpa using h1
        subst hw
        exact Or.inl h2
      | succ j => exact Or.inr ⟨j, v, by simpa using h1, by rw [h2]; congr 1; omega⟩
theorem LR.has {g : Gm} {n : Nat} {L : List (Option Value)} {ls : Array Slot} (h : LR g n L ls) : lv_has ls n (lvs g 0 L) := by
  refine ⟨h.1, h.2.2.1, fun q hq => ?_⟩
  obtain ⟨j, v, h1, rfl⟩ := (lvs_mem g L 0 q).mp hq
  rw [Nat.zero_add]
  exact h.2.2.2 j v h1
/-- a store: what lay over the place is no longer known -/
def clr (L : List (Option Value)) : Nat → List (Option Value)
  | 0 => L
  | j + 1 => match L[j]? with
    | some (some (.long _)) => L.set j none
    | some (some (.double _)) => L.set j none
    | _ => L
def stl (L : List (Option Value)) (i : Nat) (v : Value) : List (Option Value) := (clr L i).set i (some v)
def stl2 (L : List (Option Value)) (i : Nat) (v : Value) : List (Option Value) := ((clr L i).set i (some v)).set (i + 1) none
theorem clr_len (L : List (Option Value)) (i : Nat) : (clr L i).length = L.length := by
  cases i with
  | zero => rfl
  | succ j => simp only [clr]; split <;> simp
theorem clr_at {L : List (Option Value)} {i j : Nat} {v : Value} (h : (clr L i)[j]? = some (some v)) : L[j]? = some (some v) ∧ ¬ (j + 1 = i ∧ v.category = 2) := by
  cases i with
  | zero => exact ⟨h, fun q => by omega⟩
  | succ i =>
    simp only [clr] at h
    split at h
    · rename_i x hx
      by_cases hj : j = i
      · subst hj
        have hlt := (List.getElem?_eq_some_iff.mp hx).1
        rw [List.getElem?_set_self hlt] at h
        cases h
      · rw [List.getElem?_set_ne (fun q => hj q.symm)] at h
        exact ⟨h, fun q => hj (by omega)⟩
    · rename_i x hx
      by_cases hj : j = i
      · subst hj
        have hlt := (List.getElem?_eq_some_iff.mp hx).1
        rw [List.getElem?_set_self hlt] at h
        cases h
      · rw [List.getElem?_set_ne (fun q => hj q.symm)] at h
        exact ⟨h, fun q => hj (by omega)⟩
    · rename_i h1 h2
      refine ⟨h, fun q => ?_⟩
      have hj : j = i := by omega
      subst hj
      cases v with
      | long x => exact h1 x h
      | double x => exact h2 x h
      | _ => cases q.2
theorem LR.store {g : Gm} {n i : Nat} {L : List (Option Value)} {ls' : Array Slot} {v : Value} (hL : L.length = n) (h : lv_has ls' n ((i, tr g v) :: (lvs g 0 L).filter (fun q => !(q.1 == i) && !(q.1 + 1 == i && q.2.category == 2)))) : LR g n (stl L i v) ls' := by
  refine ⟨h.1, by rw [stl, List.length_set, clr_len, hL], h.2.1, fun j w hj => ?_⟩
  by_cases hij : j = i
  · subst hij
    rw [stl] at hj
    have hlt : j < (clr L j).length := by
      have h1 := (List.getElem?_eq_some_iff.mp hj).1
      simpa using h1
    rw [List.getElem?_set_self hlt] at hj
    cases hj
    exact h.2.2 (j, tr g v) List.mem_cons_self
  · rw [stl, List.getElem?_set_ne (fun q => hij q.symm)] at hj
    obtain ⟨h1, h2⟩ := clr_at hj
    refine h.2.2 (j, tr g w) (List.mem_cons_of_mem _ (List.mem_filter.mpr ⟨(lvs_mem g L 0 _).mpr ⟨j, w, h1, by rw [Nat.zero_add]⟩, ?_⟩))
    simp only [Bool.and_eq_true, Bool.not_eq_true', beq_eq_false_iff_ne, Bool.and_eq_false_iff, tr_cat]
    exact ⟨hij, by
      by_cases h3 : j + 1 = i
      · exact Or.inr fun q => h2 ⟨h3, q⟩
      · exact Or.inl h3⟩
theorem LR.store2 {g : Gm} {n i : Nat} {L : List (Option Value)} {ls' : Array Slot} {v : Value} (hL : L.length = n) (h : lv_has ls' n ((i, tr g v) :: (lvs g 0 L).filter (fun q => !(q.1 == i) && (!(q.1 == i + 1) && !(q.1 + 1 == i && q.2.category == 2))))) : LR g n (stl2 L i v) ls' := by
  refine ⟨h.1, by rw [stl2, List.length_set, List.length_set, clr_len, hL], h.2.1, fun j w hj => ?_⟩
  have hj1 : j ≠ i + 1 := by
    intro q
    subst q
    have h1 := (List.getElem?_eq_some_iff.mp hj).1
    rw [stl2, List.getElem?_set_self (by simpa [stl2] using h1)] at hj
    cases hj
  rw [stl2, List.getElem?_set_ne (fun q => hj1 q.symm)] at hj
  by_cases hij : j = i
  · subst hij
    have hlt : j < (clr L j).length := by
      have h1 := (List.getElem?_eq_some_iff.mp hj).1
      simpa using h1
    rw [List.getElem?_set_self hlt] at hj
    cases hj
    exact h.2.2 (j, tr g v) List.mem_cons_self
  · rw [List.getElem?_set_ne (fun q => hij q.symm)] at hj
    obtain ⟨h1, h2⟩ := clr_at hj
    refine h.2.2 (j, tr g w) (List.mem_cons_of_mem _ (List.mem_filter.mpr ⟨(lvs_mem g L 0 _).mpr ⟨j, w, h1, by rw [Nat.zero_add]⟩, ?_⟩))
    simp only [Bool.and_eq_true, Bool.not_eq_true', beq_eq_false_iff_ne, Bool.and_eq_false_iff, tr_cat]
    exact ⟨hij, hj1, by
      by_cases h3 : j + 1 = i
      · exact Or.inr fun q => h2 ⟨h3, q⟩
      · exact Or.inl h3⟩
/-- what holds of an invocation -/
def Cx (g : Gm) (M : MI) (p : Program) (s : State) (m : MethodId) (args : Array Value) (meth : Method) (cd : Code) : Prop :=
  p.tables.exec = Jvm.exec ∧ cd.code = mB M ∧ cd.maxLocals = mL M ∧ meth.sig.returnType = mR M ∧ meth.locks = false ∧ meth.name = (mY M).name ∧ s.vm.findClass (mY M).cls = some m.cls ∧ (∀ w ∈ TT, w.before args s = true) ∧ zK g s ∧ zU g s s.heap ∧ okM M ∧ (mX M = [] → cd.exceptionTable.isEmpty = true)
/-- the picture -/
def Rl (g : Gm) (M : MI) (c : Nat) (h : Hp) (L : List (Option Value)) (s : State) (H : Heap) (locs : List Loc) (ls : Array Slot) : Prop :=
  va_P (g_D g) CL (mws g h) H ∧ va_S (zA g) s.heap H locs ∧ LR g (mL M) L ls ∧ (h.2.2.2.2 = true → s.heap.size + c = g_o g + h.2.2.2.1.length)
def xNm : Nat → String
  | 1 => "java/lang/IllegalArgumentException"
  | 2 => "java/lang/IllegalStateException"
  | 3 => "java/lang/IndexOutOfBoundsException"
  | _ => "java/util/NoSuchElementException"
def oK (g : Gm) (r : Rs) (o : Outcome) (t : State) : Prop := match r with
  | .inl v => o = .returned (v.map (tr g))
  | .inr n => ∃ (a : Addr) (cell : Cell), o = .threw a ∧ t.heap[a]? = some cell ∧ cell.vm.isStatics = false ∧ t.vm.findClass (xNm n) = some cell.cls
def QX (g : Gm) (Q : Rs → Hp → Prop) : Array Value → State → Outcome → State → Prop := fun _ st o t =>
  (∃ (r : Rs) (h : Hp), Q r h ∧ oK g r o t ∧ va_P (g_D g) CL (mws g h) t.heap) ∧ va_F (zA g) st t
def MX (below : List Frame) (Qc : Array Value → State → Outcome → State → Prop) (a : Array Value) (s : State) (mc ms : Nat) (free : Addr → Prop) : State → Prop := fun t =>
  ∃ o, t.status = .running ∧ Ended t below o ∧ Qc a s o t ∧ ∃ L, (s.WarmedH t.vm ∧ s.sameButNew ({ t with vm := s.vm } : State) L mc ms) ∧ ∀ q ∈ L, free q.base
theorem MQ.toX {below : List Frame} {Qc : Array Value → State → Outcome → State → Prop} {a : Array Value} {s : State} {mc ms : Nat} {free : Addr → Prop} {t : State} (h : MQ below Qc a s mc ms free t) : MX below Qc a s mc ms free t := by
  obtain ⟨o, h1, h2, h3, L, ⟨_, h4, h5⟩, h6⟩ := h
  exact ⟨o, h1, h2, h3, L, ⟨h4, h5⟩, h6⟩
theorem W.mono {p : Program} {l : Launch} {e : Env} {R : Room} {s : State} {m : MethodId} {args : Array Value} {below : List Frame} {meth : Method} {c : Code} {H : Heap} {locs : List Loc} {cells slots : Nat} {Q Q' : State → Prop} {f : JFrame} (hQ : ∀ t, Q t → Q' t) (k : W p l e R s m args below meth c H locs cells slots Q f) : W p l e R s m args below meth c H locs cells slots Q' f := by
  intro T hT X
  obtain ⟨t, h1, h2⟩ := k T hT X
  exact ⟨t, h1, hQ t h2⟩
def Z (g : Gm) (M : MI) (c sl pc : Nat) (L : List (Option Value)) (st : List Value) (h : Hp) (Q : Rs → Hp → Prop) : Prop :=
  ∀ (p : Program) (e : Env) (s : State) (m : MethodId) (args : Array Value) (below : List Frame) (meth : Method) (cd : Code), Cx g M p s m args meth cd → ∀ (H : Heap) (locs : List Loc) (ls : Array Slot), Rl g M c h L s H locs ls →
    W p (g_l g) e (mM M) s m args below meth cd H locs c sl (MX below (QX g Q) args s (mM M).cells (mM M).slots (zA g)) (F0 m pc ls (st.map (tr g)))
def subL : List (Option Value) → List (Option Value) → Prop
  | [], [] => True
  | none :: a, _ :: b => subL a b
  | some v :: a, w :: b => w = some v ∧ subL a b
  | _, _ => False
theorem subL_ok : ∀ (a b : List (Option Value)), subL a b → a.length = b.length ∧ ∀ (i : Nat) (v : Value), a[i]? = some (some v) → b[i]? = some (some v)
  | [], [], _ => ⟨rfl, fun i v h => by simp at h⟩
  | none :: a, w :: b, h => by
    have ih := subL_ok a b h
    refine ⟨by simp [ih.1], fun i v hi => ?_⟩
    cases i with
    | zero => simp at hi
    | succ i => simpa using ih.2 i v (by simpa using hi)
  | some u :: a, w :: b, h => by
    have ih := subL_ok a b h.2
    refine ⟨by simp [ih.1], fun i v hi => ?_⟩
    cases i with
    | zero => rw [h.1]; simpa using hi
    | succ i => simpa using ih.2 i v (by simpa using hi)
  | [], w :: b, h => by simp [subL] at h
  | none :: a, [], h => by simp [subL] at h
  | some u :: a, [], h => by simp [subL] at h
section ZR
variable {g : Gm} {M : MI} {c sl pc nx tg : Nat} {L : List (Option Value)} {st : List Value} {h : Hp} {Q : Rs → Hp → Prop}
theorem Z.mono {Q' : Rs → Hp → Prop} (hQ : ∀ r h, Q r h → Q' r h) (k : Z g M c sl pc L st h Q) : Z g M c sl pc L st h Q' := by
  intro p e s m args below meth cd hC H locs ls hR
  refine W.mono ?_ (k p e s m args below meth cd hC H locs ls hR)
  rintro t ⟨o, h1, h2, ⟨⟨r, h', h3, h4⟩, h5⟩, h6⟩
  exact ⟨o, h1, h2, ⟨⟨r, h', hQ _ _ h3, h4⟩, h5⟩, h6⟩
/-- fewer locals known -/
theorem Z.forget (L' : List (Option Value)) (hl : L'.length = L.length) (hs : ∀ (i : Nat) (v : Value), L'[i]? = some (some v) → L[i]? = some (some v)) (k : Z g M c sl pc L' st h Q) : Z g M c sl pc L st h Q := by
  intro p e s m args below meth cd hC H locs ls hR
  obtain ⟨hP, hS, ⟨l1, l2, l3, l4⟩, hx⟩ := hR
  exact k p e s m args below meth cd hC H locs ls ⟨hP, hS, ⟨l1, hl.trans l2, l3, fun i v hi => l4 i v (hs i v hi)⟩, hx⟩
theorem Z.forget' (L' : List (Option Value)) (hs : subL L' L) (k : Z g M c sl pc L' st h Q) : Z g M c sl pc L st h Q := Z.forget L' (subL_ok _ _ hs).1 (subL_ok _ _ hs).2 k
theorem z_iadd {x y : Int32} (hi : fI M pc = some (.iadd, 1, nx, tg)) (k : Z g M c sl nx L (.int (x + y) :: st) h Q) : Z g M c sl pc L (.int y :: .int x :: st) h Q := by
  intro p e s m args below meth cd hC H locs ls hR
  obtain ⟨hd, hn, ht⟩ := fI_ok hC.2.2.2.2.2.2.2.2.2.2.1 hi
  subst hn
  exact lv_iadd hC.1 hC.2.1 hd (k p e s m args below meth cd hC H locs ls hR)
theorem z_isub {x y : Int32} (hi : fI M pc = some (.isub, 1, nx, tg)) (k : Z g M c sl nx L (.int (x - y) :: st) h Q) : Z g M c sl pc L (.int y :: .int x :: st) h Q := by
  intro p e s m args below meth cd hC H locs ls hR
  obtain ⟨hd, hn, ht⟩ := fI_ok hC.2.2.2.2.2.2.2.2.2.2.1 hi
  subst hn
  exact lv_isub hC.1 hC.2.1 hd (k p e s m args below meth cd hC H locs ls hR)
theorem z_imul {x y : Int32} (hi : fI M pc = some (.imul, 1, nx, tg)) (k : Z g M c sl nx L (.int (x * y) :: st) h Q) : Z g M c sl pc L (.int y :: .int x :: st) h Q := by
  intro p e s m args below meth cd hC H locs ls hR
  obtain ⟨hd, hn, ht⟩ := fI_ok hC.2.2.2.2.2.2.2.2.2.2.1 hi
  subst hn
  exact lv_imul hC.1 hC.2.1 hd (k p e s m args below meth cd hC H locs ls hR)
theorem z_iand {x y : Int32} (hi : fI M pc = some (.iand, 1, nx, tg)) (k : Z g M c sl nx L (.int (x &&& y) :: st) h Q) : Z g M c sl pc L (.int y :: .int x :: st) h Q := by
  intro p e s m args below meth cd hC H locs ls hR
  obtain ⟨hd, hn, ht⟩ := fI_ok hC.2.2.2.2.2.2.2.2.2.2.1 hi
  subst hn
  exact lv_iand hC.1 hC.2.1 hd (k p e s m args below meth cd hC H locs ls hR)
theorem z_idiv {x y : Int32} (hi : fI M pc = some (.idiv, 1, nx, tg)) (hy : ¬ y = 0) (k : Z g M c sl nx L (.int (x / y) :: st) h Q) : Z g M c sl pc L (.int y :: .int x :: st) h Q := by
  intro p e s m args below meth cd hC H locs ls hR
  obtain ⟨hd, hn, ht⟩ := fI_ok hC.2.2.2.2.2.2.2.2.2.2.1 hi
  subst hn
  exact lv_idiv hC.1 hC.2.1 hd hy (k p e s m args below meth cd hC H locs ls hR)
theorem z_irem {x y : Int32} (hi : fI M pc = some (.irem, 1, nx, tg)) (hy : ¬ y = 0) (k : Z g M c sl nx L (.int (x - x / y * y) :: st) h Q) : Z g M c sl pc L (.int y :: .int x :: st) h Q := by
  intro p e s m args below meth cd hC H locs ls hR
  obtain ⟨hd, hn, ht⟩ := fI_ok hC.2.2.2.2.2.2.2.2.2.2.1 hi
  subst hn
  exact lv_irem hC.1 hC.2.1 hd hy (k p e s m args below meth cd hC H locs ls hR)
theorem z_ineg {x : Int32} (hi : fI M pc = some (.ineg, 1, nx, tg)) (k : Z g M c sl nx L (.int (-x) :: st) h Q) : Z g M c sl pc L (.int x :: st) h Q := by
  intro p e s m args below meth cd hC H locs ls hR
  obtain ⟨hd, hn, ht⟩ := fI_ok hC.2.2.2.2.2.2.2.2.2.2.1 hi
  subst hn
  exact lv_ineg hC.1 hC.2.1 hd (k p e s m args below meth cd hC H locs ls hR)
theorem z_ladd {x y : Int64} (hi : fI M pc = some (.ladd, 1, nx, tg)) (k : Z g M c sl nx L (.long (x + y) :: st) h Q) : Z g M c sl pc L (.long y :: .long x :: st) h Q := by
  intro p e s m args below meth cd hC H locs ls hR
  obtain ⟨hd, hn, ht⟩ := fI_ok hC.2.2.2.2.2.2.2.2.2.2.1 hi
  subst hn
  exact lv_ladd hC.1 hC.2.1 hd (k p e s m args below meth cd hC H locs ls hR)
theorem z_lsub {x y : Int64} (hi : fI M pc = some (.lsub, 1, nx, tg)) (k : Z g M c sl nx L (.long (x - y) :: st) h Q) : Z g M c sl pc L (.long y :: .long x :: st) h Q := by
  intro p e s m args below meth cd hC H locs ls hR
  obtain ⟨hd, hn, ht⟩ := fI_ok hC.2.2.2.2.2.2.2.2.2.2.1 hi
  subst hn
  exact lv_lsub hC.1 hC.2.1 hd (k p e s m args below meth cd hC H locs ls hR)
theorem z_lmul {x y : Int64} (hi : fI M pc = some (.lmul, 1, nx, tg)) (k : Z g M c sl nx L (.long (x * y) :: st) h Q) : Z g M c sl pc L (.long y :: .long x :: st) h Q := by
  intro p e s m args below meth cd hC H locs ls hR
  obtain ⟨hd, hn, ht⟩ := fI_ok hC.2.2.2.2.2.2.2.2.2.2.1 hi
  subst hn
  exact lv_lmul hC.1 hC.2.1 hd (k p e s m args below meth cd hC H locs ls hR)
theorem z_lneg {x : Int64} (hi : fI M pc = some (.lneg, 1, nx, tg)) (k : Z g M c sl nx L (.long (-x) :: st) h Q) : Z g M c sl pc L (.long x :: st) h Q := by
  intro p e s m args below meth cd hC H locs ls hR
  obtain ⟨hd, hn, ht⟩ := fI_ok hC.2.2.2.2.2.2.2.2.2.2.1 hi
  subst hn
  exact lv_lneg hC.1 hC.2.1 hd (k p e s m args below meth cd hC H locs ls hR)
theorem z_i2l {x : Int32} (hi : fI M pc = some (.i2l, 1, nx, tg)) (k : Z g M c sl nx L (.long x.toInt64 :: st) h Q) : Z g M c sl pc L (.int x :: st) h Q := by
  intro p e s m args below meth cd hC H locs ls hR
  obtain ⟨hd, hn, ht⟩ := fI_ok hC.2.2.2.2.2.2.2.2.2.2.1 hi
  subst hn
  exact lv_i2l hC.1 hC.2.1 hd rfl (k p e s m args below meth cd hC H locs ls hR)
theorem z_lcmp {x y : Int64} (hi : fI M pc = some (.lcmp, 1, nx, tg)) (k : Z g M c sl nx L (.int (lg_cmp x y) :: st) h Q) : Z g M c sl pc L (.long y :: .long x :: st) h Q := by
  intro p e s m args below meth cd hC H locs ls hR
  obtain ⟨hd, hn, ht⟩ := fI_ok hC.2.2.2.2.2.2.2.2.2.2.1 hi
  subst hn
  exact W.lcmp hC.1 hC.2.1 hd (k p e s m args below meth cd hC H locs ls hR)
theorem z_iconst {n : Int} (v : Int32) (hi : fI M pc = some (.iconst n, 1, nx, tg)) (hv : Int32.ofInt n = v) (k : Z g M c sl nx L (.int v :: st) h Q) : Z g M c sl pc L (st) h Q := by
  intro p e s m args below meth cd hC H locs ls hR
  obtain ⟨hd, hn, ht⟩ := fI_ok hC.2.2.2.2.2.2.2.2.2.2.1 hi
  subst hn
  exact lv_iconst hC.1 hC.2.1 hd hv (k p e s m args below meth cd hC H locs ls hR)
theorem z_bipush {n : Int} (v : Int32) (hi : fI M pc = some (.bipush n, 2, nx, tg)) (hv : (Int8.ofInt n).toInt32 = v) (k : Z g M c sl nx L (.int v :: st) h Q) : Z g M c sl pc L (st) h Q := by
  intro p e s m args below meth cd hC H locs ls hR
  obtain ⟨hd, hn, ht⟩ := fI_ok hC.2.2.2.2.2.2.2.2.2.2.1 hi
  subst hn
  exact lv_bipush hC.1 hC.2.1 hd hv (k p e s m args below meth cd hC H locs ls hR)
theorem z_sipush {n : Int} (v : Int32) (hi : fI M pc = some (.sipush n, 3, nx, tg)) (hv : (Int16.ofInt n).toInt32 = v) (k : Z g M c sl nx L (.int v :: st) h Q) : Z g M c sl pc L (st) h Q := by
  intro p e s m args below meth cd hC H locs ls hR
  obtain ⟨hd, hn, ht⟩ := fI_ok hC.2.2.2.2.2.2.2.2.2.2.1 hi
  subst hn
  exact lv_sipush hC.1 hC.2.1 hd hv (k p e s m args below meth cd hC H locs ls hR)
theorem z_lconst {n : Fin 2} (v : Int64) (hi : fI M pc = some (.lconst n, 1, nx, tg)) (hv : Int64.ofNat (n : Nat) = v) (k : Z g M c sl nx L (.long v :: st) h Q) : Z g M c sl pc L (st) h Q := by
  intro p e s m args below meth cd hC H locs ls hR
  obtain ⟨hd, hn, ht⟩ := fI_ok hC.2.2.2.2.2.2.2.2.2.2.1 hi
  subst hn
  exact lv_lconst hC.1 hC.2.1 hd hv (k p e s m args below meth cd hC H locs ls hR)
theorem z_ldc {n : Nat} {v : Int32} (hi : fI M pc = some (.ldc n, 2, nx, tg)) (hw : Cond.constant (mY M).cls n v ∈ TT) (k : Z g M c sl nx L (.int v :: st) h Q) : Z g M c sl pc L (st) h Q := by
  intro p e s m args below meth cd hC H locs ls hR
  obtain ⟨hd, hn, ht⟩ := fI_ok hC.2.2.2.2.2.2.2.2.2.2.1 hi
  subst hn
  exact lv_ldc hC.1 hC.2.1 hC.2.2.2.2.2.2.1 (hC.2.2.2.2.2.2.2.1 _ hw) hd (k p e s m args below meth cd hC H locs ls hR)
theorem z_ldc2 {n : Nat} {v : Int64} (hi : fI M pc = some (.ldc2_w n, 3, nx, tg)) (hw : Cond.constantLong (mY M).cls n v ∈ TT) (k : Z g M c sl nx L (.long v :: st) h Q) : Z g M c sl pc L (st) h Q := by
  intro p e s m args below meth cd hC H locs ls hR
  obtain ⟨hd, hn, ht⟩ := fI_ok hC.2.2.2.2.2.2.2.2.2.2.1 hi
  subst hn
  exact lv_ldc2 hC.1 hC.2.1 hC.2.2.2.2.2.2.1 (hC.2.2.2.2.2.2.2.1 _ hw) hd (k p e s m args below meth cd hC H locs ls hR)
theorem z_dup {v : Value} (hi : fI M pc = some (.dup, 1, nx, tg)) (hv : v.category = 1) (k : Z g M c sl nx L (v :: v :: st) h Q) : Z g M c sl pc L (v :: st) h Q := by
  intro p e s m args below meth cd hC H locs ls hR
  obtain ⟨hd, hn, ht⟩ := fI_ok hC.2.2.2.2.2.2.2.2.2.2.1 hi
  subst hn
  exact lv_dup hC.1 hC.2.1 hd ((tr_cat g v).trans hv) (k p e s m args below meth cd hC H locs ls hR)
theorem z_pop {v : Value} (hi : fI M pc = some (.pop, 1, nx, tg)) (hv : v.category = 1) (k : Z g M c sl nx L (st) h Q) : Z g M c sl pc L (v :: st) h Q := by
  intro p e s m args below meth cd hC H locs ls hR
  obtain ⟨hd, hn, ht⟩ := fI_ok hC.2.2.2.2.2.2.2.2.2.2.1 hi
  subst hn
  exact lv_pop hC.1 hC.2.1 hd ((tr_cat g v).trans hv) (k p e s m args below meth cd hC H locs ls hR)
theorem z_dup_x1 {v w : Value} (hi : fI M pc = some (.dup_x1, 1, nx, tg)) (hv : v.category = 1) (hw : w.category = 1) (k : Z g M c sl nx L (v :: w :: v :: st) h Q) : Z g M c sl pc L (v :: w :: st) h Q := by
  intro p e s m args below meth cd hC H locs ls hR
  obtain ⟨hd, hn, ht⟩ := fI_ok hC.2.2.2.2.2.2.2.2.2.2.1 hi
  subst hn
  exact lv_dup_x1 hC.1 hC.2.1 hd ((tr_cat g v).trans hv) ((tr_cat g w).trans hw) (k p e s m args below meth cd hC H locs ls hR)
theorem z_iload_n {n : Fin 4} {x : Int32} (hi : fI M pc = some (.iload_n n, 1, nx, tg)) (hl : L[(n : Nat)]? = some (some (.int x))) (k : Z g M c sl nx L (.int x :: st) h Q) : Z g M c sl pc L (st) h Q := by
  intro p e s m args below meth cd hC H locs ls hR
  obtain ⟨hd, hn, ht⟩ := fI_ok hC.2.2.2.2.2.2.2.2.2.2.1 hi
  subst hn
  exact lv_iload_n hC.1 hC.2.1 hd rfl (hR.2.2.1.2.2.2 _ _ hl) (k p e s m args below meth cd hC H locs ls hR)
theorem z_iload {n : Nat} {x : Int32} (hi : fI M pc = some (.iload n, 2, nx, tg)) (hl : L[n]? = some (some (.int x))) (k : Z g M c sl nx L (.int x :: st) h Q) : Z g M c sl pc L (st) h Q := by
  intro p e s m args below meth cd hC H locs ls hR
  obtain ⟨hd, hn, ht⟩ := fI_ok hC.2.2.2.2.2.2.2.2.2.2.1 hi
  subst hn
  exact lv_iload hC.1 hC.2.1 hd (hR.2.2.1.2.2.2 _ _ hl) (k p e s m args below meth cd hC H locs ls hR)
theorem z_lload_n {n : Fin 4} {x : Int64} (hi : fI M pc = some (.lload_n n, 1, nx, tg)) (hl : L[(n : Nat)]? = some (some (.long x))) (k : Z g M c sl nx L (.long x :: st) h Q) : Z g M c sl pc L (st) h Q := by
  intro p e s m args below meth cd hC H locs ls hR
  obtain ⟨hd, hn, ht⟩ := fI_ok hC.2.2.2.2.2.2.2.2.2.2.1 hi
  subst hn
  exact lv_lload_n hC.1 hC.2.1 hd rfl (hR.2.2.1.2.2.2 _ _ hl) (k p e s m args below meth cd hC H locs ls hR)
theorem z_lload {n : Nat} {x : Int64} (hi : fI M pc = some (.lload n, 2, nx, tg)) (hl : L[n]? = some (some (.long x))) (k : Z g M c sl nx L (.long x :: st) h Q) : Z g M c sl pc L (st) h Q := by
  intro p e s m args below meth cd hC H locs ls hR
  obtain ⟨hd, hn, ht⟩ := fI_ok hC.2.2.2.2.2.2.2.2.2.2.1 hi
  subst hn
  exact lv_lload hC.1 hC.2.1 hd (hR.2.2.1.2.2.2 _ _ hl) (k p e s m args below meth cd hC H locs ls hR)
theorem z_aload_n {n : Fin 4} {x : Nat} (hi : fI M pc = some (.aload_n n, 1, nx, tg)) (hl : L[(n : Nat)]? = some (some (.ref x))) (k : Z g M c sl nx L (.ref x :: st) h Q) : Z g M c sl pc L (st) h Q := by
  intro p e s m args below meth cd hC H locs ls hR
  obtain ⟨hd, hn, ht⟩ := fI_ok hC.2.2.2.2.2.2.2.2.2.2.1 hi
  subst hn
  exact lv_aload_n hC.1 hC.2.1 hd rfl (hR.2.2.1.2.2.2 _ _ hl) (k p e s m args below meth cd hC H locs ls hR)
theorem z_aload {n : Nat} {x : Nat} (hi : fI M pc = some (.aload n, 2, nx, tg)) (hl : L[n]? = some (some (.ref x))) (k : Z g M c sl nx L (.ref x :: st) h Q) : Z g M c sl pc L (st) h Q := by
  intro p e s m args below meth cd hC H locs ls hR
  obtain ⟨hd, hn, ht⟩ := fI_ok hC.2.2.2.2.2.2.2.2.2.2.1 hi
  subst hn
  exact lv_aload hC.1 hC.2.1 hd (hR.2.2.1.2.2.2 _ _ hl) (k p e s m args below meth cd hC H locs ls hR)
theorem z_aload_nt {n : Fin 4} (hi : fI M pc = some (.aload_n n, 1, nx, tg)) (hl : L[(n : Nat)]? = some (some (.retAddr 0))) (k : Z g M c sl nx L (.retAddr 0 :: st) h Q) : Z g M c sl pc L (st) h Q := by
  intro p e s m args below meth cd hC H locs ls hR
  obtain ⟨hd, hn, ht⟩ := fI_ok hC.2.2.2.2.2.2.2.2.2.2.1 hi
  subst hn
  exact lv_aload_n hC.1 hC.2.1 hd rfl (hR.2.2.1.2.2.2 _ _ hl) (k p e s m args below meth cd hC H locs ls hR)
theorem z_aload_ns {n : Fin 4} {j : Nat} (hi : fI M pc = some (.aload_n n, 1, nx, tg)) (hl : L[(n : Nat)]? = some (some (.retAddr (j + 1)))) (k : Z g M c sl nx L (.retAddr (j + 1) :: st) h Q) : Z g M c sl pc L (st) h Q := by
  intro p e s m args below meth cd hC H locs ls hR
  obtain ⟨hd, hn, ht⟩ := fI_ok hC.2.2.2.2.2.2.2.2.2.2.1 hi
  subst hn
  exact lv_aload_n hC.1 hC.2.1 hd rfl (hR.2.2.1.2.2.2 _ _ hl) (k p e s m args below meth cd hC H locs ls hR)
theorem z_istore_n {n : Fin 4} {x : Int32} (L' : List (Option Value)) (hi : fI M pc = some (.istore_n n, 1, nx, tg)) (hn : Nat.ble ((n : Nat) + 1) L.length = true) (hL' : stl L (n : Nat) (.int x) = L') (k : Z g M c sl nx L' st h Q) : Z g M c sl pc L (.int x :: st) h Q := by
  intro p e s m args below meth cd hC H locs ls hR
  obtain ⟨hd, hn, ht⟩ := fI_ok hC.2.2.2.2.2.2.2.2.2.2.1 hi
  subst hn
  subst hL'
  obtain ⟨hP, hS, hL, hx⟩ := hR
  have hlt := Nat.le_of_ble_eq_true hn
  rw [hL.2.1] at hlt
  exact lv_istore_n hC.1 hC.2.1 hd rfl hL.has hlt rfl fun ls' hl' => k p e s m args below meth cd hC H locs ls' ⟨hP, hS, LR.store hL.2.1 hl', hx⟩
theorem z_istore {n : Nat} {x : Int32} (L' : List (Option Value)) (hi : fI M pc = some (.istore n, 2, nx, tg)) (hn : Nat.ble (n + 1) L.length = true) (hL' : stl L n (.int x) = L') (k : Z g M c sl nx L' st h Q) : Z g M c sl pc L (.int x :: st) h Q := by
  intro p e s m args below meth cd hC H locs ls hR
  obtain ⟨hd, hn, ht⟩ := fI_ok hC.2.2.2.2.2.2.2.2.2.2.1 hi
  subst hn
  subst hL'
  obtain ⟨hP, hS, hL, hx⟩ := hR
  have hlt := Nat.le_of_ble_eq_true hn
  rw [hL.2.1] at hlt
  exact lv_istore hC.1 hC.2.1 hd hL.has hlt rfl fun ls' hl' => k p e s m args below meth cd hC H locs ls' ⟨hP, hS, LR.store hL.2.1 hl', hx⟩
theorem z_lstore_n {n : Fin 4} {x : Int64} (L' : List (Option Value)) (hi : fI M pc = some (.lstore_n n, 1, nx, tg)) (hn : Nat.ble ((n : Nat) + 2) L.length = true) (hL' : stl2 L (n : Nat) (.long x) = L') (k : Z g M c sl nx L' st h Q) : Z g M c sl pc L (.long x :: st) h Q := by
  intro p e s m args below meth cd hC H locs ls hR
  obtain ⟨hd, hn, ht⟩ := fI_ok hC.2.2.2.2.2.2.2.2.2.2.1 hi
  subst hn
  subst hL'
  obtain ⟨hP, hS, hL, hx⟩ := hR
  have hlt := Nat.le_of_ble_eq_true hn
  rw [hL.2.1] at hlt
  exact lv_lstore_n hC.1 hC.2.1 hd rfl hL.has hlt rfl fun ls' hl' => k p e s m args below meth cd hC H locs ls' ⟨hP, hS, LR.store2 hL.2.1 hl', hx⟩
theorem z_lstore {n : Nat} {x : Int64} (L' : List (Option Value)) (hi : fI M pc = some (.lstore n, 2, nx, tg)) (hn : Nat.ble (n + 2) L.length = true) (hL' : stl2 L n (.long x) = L') (k : Z g M c sl nx L' st h Q) : Z g M c sl pc L (.long x :: st) h Q := by
  intro p e s m args below meth cd hC H locs ls hR
  obtain ⟨hd, hn, ht⟩ := fI_ok hC.2.2.2.2.2.2.2.2.2.2.1 hi
  subst hn
  subst hL'
  obtain ⟨hP, hS, hL, hx⟩ := hR
  have hlt := Nat.le_of_ble_eq_true hn
  rw [hL.2.1] at hlt
  exact lv_lstore hC.1 hC.2.1 hd hL.has hlt rfl fun ls' hl' => k p e s m args below meth cd hC H locs ls' ⟨hP, hS, LR.store2 hL.2.1 hl', hx⟩
theorem z_astore_n {n : Fin 4} {x : Nat} (L' : List (Option Value)) (hi : fI M pc = some (.astore_n n, 1, nx, tg)) (hn : Nat.ble ((n : Nat) + 1) L.length = true) (hL' : stl L (n : Nat) (.ref x) = L') (k : Z g M c sl nx L' st h Q) : Z g M c sl pc L (.ref x :: st) h Q := by
  intro p e s m args below meth cd hC H locs ls hR
  obtain ⟨hd, hn, ht⟩ := fI_ok hC.2.2.2.2.2.2.2.2.2.2.1 hi
  subst hn
  subst hL'
  obtain ⟨hP, hS, hL, hx⟩ := hR
  have hlt := Nat.le_of_ble_eq_true hn
  rw [hL.2.1] at hlt
  exact lv_astore_n hC.1 hC.2.1 hd rfl hL.has hlt rfl fun ls' hl' => k p e s m args below meth cd hC H locs ls' ⟨hP, hS, LR.store hL.2.1 hl', hx⟩
theorem z_astore {n : Nat} {x : Nat} (L' : List (Option Value)) (hi : fI M pc = some (.astore n, 2, nx, tg)) (hn : Nat.ble (n + 1) L.length = true) (hL' : stl L n (.ref x) = L') (k : Z g M c sl nx L' st h Q) : Z g M c sl pc L (.ref x :: st) h Q := by
  intro p e s m args below meth cd hC H locs ls hR
  obtain ⟨hd, hn, ht⟩ := fI_ok hC.2.2.2.2.2.2.2.2.2.2.1 hi
  subst hn
  subst hL'
  obtain ⟨hP, hS, hL, hx⟩ := hR
  have hlt := Nat.le_of_ble_eq_true hn
  rw [hL.2.1] at hlt
  exact lv_astore hC.1 hC.2.1 hd hL.has hlt rfl fun ls' hl' => k p e s m args below meth cd hC H locs ls' ⟨hP, hS, LR.store hL.2.1 hl', hx⟩
theorem z_iinc {n : Nat} {d : Int} {x : Int32} (v : Int32) (L' : List (Option Value)) (hi : fI M pc = some (.iinc n d, 3, nx, tg)) (hl : L[n]? = some (some (.int x))) (hv : Int32.ofInt d = v) (hL' : stl L n (.int (x + v)) = L') (k : Z g M c sl nx L' st h Q) : Z g M c sl pc L st h Q := by
  intro p e s m args below meth cd hC H locs ls hR
  obtain ⟨hd, hn, ht⟩ := fI_ok hC.2.2.2.2.2.2.2.2.2.2.1 hi
  subst hn
  subst hL'
  obtain ⟨hP, hS, hL, hx⟩ := hR
  subst hv
  have hlt := (List.getElem?_eq_some_iff.mp hl).1
  rw [hL.2.1] at hlt
  obtain ⟨kk, hkk⟩ := List.mem_iff_getElem?.mp ((lvs_mem g L 0 (n, .int x)).mpr ⟨n, .int x, hl, by rw [Nat.zero_add]; rfl⟩)
  exact lv_iinc hC.1 hC.2.1 hd hL.has hkk rfl hlt rfl fun ls' hl' => k p e s m args below meth cd hC H locs ls' ⟨hP, hS, LR.store (v := .int (x + Int32.ofInt d)) hL.2.1 hl', hx⟩
theorem z_icmp_eq {x y : Int32} {o : Int} (hi : fI M pc = some (.if_icmp .eq o, 3, nx, tg)) (kt : x = y → Z g M c sl tg L st h Q) (kf : ¬ x = y → Z g M c sl nx L st h Q) : Z g M c sl pc L (.int y :: .int x :: st) h Q := by
  intro p e s m args below meth cd hC H locs ls hR
  obtain ⟨hd, hn, ht⟩ := fI_ok hC.2.2.2.2.2.2.2.2.2.2.1 hi
  subst hn
  exact lv_icmp_eq hC.1 hC.2.1 hd (ht o rfl) (fun q => kt q p e s m args below meth cd hC H locs ls hR) (fun q => kf q p e s m args below meth cd hC H locs ls hR)
theorem z_if_eq {x : Int32} {o : Int} (hi : fI M pc = some (.ifCond .eq o, 3, nx, tg)) (kt : x = 0 → Z g M c sl tg L st h Q) (kf : ¬ x = 0 → Z g M c sl nx L st h Q) : Z g M c sl pc L (.int x :: st) h Q := by
  intro p e s m args below meth cd hC H locs ls hR
  obtain ⟨hd, hn, ht⟩ := fI_ok hC.2.2.2.2.2.2.2.2.2.2.1 hi
  subst hn
  exact lv_if_eq hC.1 hC.2.1 hd (ht o rfl) (fun q => kt q p e s m args below meth cd hC H locs ls hR) (fun q => kf q p e s m args below meth cd hC H locs ls hR)
theorem z_icmp_ne {x y : Int32} {o : Int} (hi : fI M pc = some (.if_icmp .ne o, 3, nx, tg)) (kt : ¬ x = y → Z g M c sl tg L st h Q) (kf : x = y → Z g M c sl nx L st h Q) : Z g M c sl pc L (.int y :: .int x :: st) h Q := by
  intro p e s m args below meth cd hC H locs ls hR
  obtain ⟨hd, hn, ht⟩ := fI_ok hC.2.2.2.2.2.2.2.2.2.2.1 hi
  subst hn
  exact lv_icmp_ne hC.1 hC.2.1 hd (ht o rfl) (fun q => kt q p e s m args below meth cd hC H locs ls hR) (fun q => kf q p e s m args below meth cd hC H locs ls hR)
theorem z_if_ne {x : Int32} {o : Int} (hi : fI M pc = some (.ifCond .ne o, 3, nx, tg)) (kt : ¬ x = 0 → Z g M c sl tg L st h Q) (kf : x = 0 → Z g M c sl nx L st h Q) : Z g M c sl pc L (.int x :: st) h Q := by
  intro p e s m args below meth cd hC H locs ls hR
  obtain ⟨hd, hn, ht⟩ := fI_ok hC.2.2.2.2.2.2.2.2.2.2.1 hi
  subst hn
  exact lv_if_ne hC.1 hC.2.1 hd (ht o rfl) (fun q => kt q p e s m args below meth cd hC H locs ls hR) (fun q => kf q p e s m args below meth cd hC H locs ls hR)
theorem z_icmp_lt {x y : Int32} {o : Int} (hi : fI M pc = some (.if_icmp .lt o, 3, nx, tg)) (kt : x < y → Z g M c sl tg L st h Q) (kf : ¬ x < y → Z g M c sl nx L st h Q) : Z g M c sl pc L (.int y :: .int x :: st) h Q := by
  intro p e s m args below meth cd hC H locs ls hR
  obtain ⟨hd, hn, ht⟩ := fI_ok hC.2.2.2.2.2.2.2.2.2.2.1 hi
  subst hn
  exact lv_icmp_lt hC.1 hC.2.1 hd (ht o rfl) (fun q => kt q p e s m args below meth cd hC H locs ls hR) (fun q => kf q p e s m args below meth cd hC H locs ls hR)
theorem z_if_lt {x : Int32} {o : Int} (hi : fI M pc = some (.ifCond .lt o, 3, nx, tg)) (kt : x < 0 → Z g M c sl tg L st h Q) (kf : ¬ x < 0 → Z g M c sl nx L st h Q) : Z g M c sl pc L (.int x :: st) h Q := by
  intro p e s m args below meth cd hC H locs ls hR
  obtain ⟨hd, hn, ht⟩ := fI_ok hC.2.2.2.2.2.2.2.2.2.2.1 hi
  subst hn
  exact lv_if_lt hC.1 hC.2.1 hd (ht o rfl) (fun q => kt q p e s m args below meth cd hC H locs ls hR) (fun q => kf q p e s m args below meth cd hC H locs ls hR)
theorem z_icmp_ge {x y : Int32} {o : Int} (hi : fI M pc = some (.if_icmp .ge o, 3, nx, tg)) (kt : y ≤ x → Z g M c sl tg L st h Q) (kf : ¬ y ≤ x → Z g M c sl nx L st h Q) : Z g M c sl pc L (.int y :: .int x :: st) h Q := by
  intro p e s m args below meth cd hC H locs ls hR
  obtain ⟨hd, hn, ht⟩ := fI_ok hC.2.2.2.2.2.2.2.2.2.2.1 hi
  subst hn
  exact lv_icmp_ge hC.1 hC.2.1 hd (ht o rfl) (fun q => kt q p e s m args below meth cd hC H locs ls hR) (fun q => kf q p e s m args below meth cd hC H locs ls hR)
theorem z_if_ge {x : Int32} {o : Int} (hi : fI M pc = some (.ifCond .ge o, 3, nx, tg)) (kt : 0 ≤ x → Z g M c sl tg L st h Q) (kf : ¬ 0 ≤ x → Z g M c sl nx L st h Q) : Z g M c sl pc L (.int x :: st) h Q := by
  intro p e s m args below meth cd hC H locs ls hR
  obtain ⟨hd, hn, ht⟩ := fI_ok hC.2.2.2.2.2.2.2.2.2.2.1 hi
  subst hn
  exact lv_if_ge hC.1 hC.2.1 hd (ht o rfl) (fun q => kt q p e s m args below meth cd hC H locs ls hR) (fun q => kf q p e s m args below meth cd hC H locs ls hR)
theorem z_icmp_gt {x y : Int32} {o : Int} (hi : fI M pc = some (.if_icmp .gt o, 3, nx, tg)) (kt : y < x → Z g M c sl tg L st h Q) (kf : ¬ y < x → Z g M c sl nx L st h Q) : Z g M c sl pc L (.int y :: .int x :: st) h Q := by
  intro p e s m args below meth cd hC H locs ls hR
  obtain ⟨hd, hn, ht⟩ := fI_ok hC.2.2.2.2.2.2.2.2.2.2.1 hi
  subst hn
  exact lv_icmp_gt hC.1 hC.2.1 hd (ht o rfl) (fun q => kt q p e s m args below meth cd hC H locs ls hR) (fun q => kf q p e s m args below meth cd hC H locs ls hR)
theorem z_if_gt {x : Int32} {o : Int} (hi : fI M pc = some (.ifCond .gt o, 3, nx, tg)) (kt : 0 < x → Z g M c sl tg L st h Q) (kf : ¬ 0 < x → Z g M c sl nx L st h Q) : Z g M c sl pc L (.int x :: st) h Q := by
  intro p e s m args below meth cd hC H locs ls hR
  obtain ⟨hd, hn, ht⟩ := fI_ok hC.2.2.2.2.2.2.2.2.2.2.1 hi
  subst hn
  exact lv_if_gt hC.1 hC.2.1 hd (ht o rfl) (fun q => kt q p e s m args below meth cd hC H locs ls hR) (fun q => kf q p e s m args below meth cd hC H locs ls hR)
theorem z_icmp_le {x y : Int32} {o : Int} (hi : fI M pc = some (.if_icmp .le o, 3, nx, tg)) (kt : x ≤ y → Z g M c sl tg L st h Q) (kf : ¬ x ≤ y → Z g M c sl nx L st h Q) : Z g M c sl pc L (.int y :: .int x :: st) h Q := by
  intro p e s m args below meth cd hC H locs ls hR
  obtain ⟨hd, hn, ht⟩ := fI_ok hC.2.2.2.2.2.2.2.2.2.2.1 hi
  subst hn
  exact lv_icmp_le hC.1 hC.2.1 hd (ht o rfl) (fun q => kt q p e s m args below meth cd hC H locs ls hR) (fun q => kf q p e s m args below meth cd hC H locs ls hR)
theorem z_if_le {x : Int32} {o : Int} (hi : fI M pc = some (.ifCond .le o, 3, nx, tg)) (kt : x ≤ 0 → Z g M c sl tg L st h Q) (kf : ¬ x ≤ 0 → Z g M c sl nx L st h Q) : Z g M c sl pc L (.int x :: st) h Q := by
  intro p e s m args below meth cd hC H locs ls hR
  obtain ⟨hd, hn, ht⟩ := fI_ok hC.2.2.2.2.2.2.2.2.2.2.1 hi
  subst hn
  exact lv_if_le hC.1 hC.2.1 hd (ht o rfl) (fun q => kt q p e s m args below meth cd hC H locs ls hR) (fun q => kf q p e s m args below meth cd hC H locs ls hR)
theorem z_goto {o : Int} (hi : fI M pc = some (.goto o, 3, nx, tg)) (k : Z g M c sl tg L st h Q) : Z g M c sl pc L st h Q := by
  intro p e s m args below meth cd hC H locs ls hR
  obtain ⟨hd, hn, ht⟩ := fI_ok hC.2.2.2.2.2.2.2.2.2.2.1 hi
  subst hn
  exact lv_goto hC.1 hC.2.1 hd (ht o rfl) (k p e s m args below meth cd hC H locs ls hR)
def swT (i : Instr) (pc : Nat) (x : Int32) : Int := match i with
  | .tableswitch d lo hi offs => if x.toInt < lo ∨ hi < x.toInt then (pc : Int) + d else (match offs[(x.toInt - lo).toNat]? with
    | some o => (pc : Int) + o
    | none => -1)
  | _ => -1
theorem z_switch {d lo hh : Int} {offs : Array Int} {n : Nat} {x : Int32} (t : Nat) (hi : fI M pc = some (.tableswitch d lo hh offs, n, nx, tg)) (hs : swT (.tableswitch d lo hh offs) pc x = (t : Int)) (k : Z g M c sl t L st h Q) : Z g M c sl pc L (.int x :: st) h Q := by
  intro p e s m args below meth cd hC H locs ls hR
  obtain ⟨hd, hn, ht⟩ := fI_ok hC.2.2.2.2.2.2.2.2.2.2.1 hi
  subst hn
  simp only [swT] at hs
  split at hs
  · rename_i h1
    exact lv_tableOut hC.1 hC.2.1 hd h1 hs (k p e s m args below meth cd hC H locs ls hR)
  · rename_i h1
    split at hs
    · rename_i o ho
      exact lv_tableIn hC.1 hC.2.1 hd (fun q => h1 (Or.inl q)) (fun q => h1 (Or.inr q)) ho hs (k p e s m args below meth cd hC H locs ls hR)
    · omega
theorem z_lookup {d : Int} {ps : Array (Int × Int)} {n : Nat} {x : Int32} (t : Nat) (hi : fI M pc = some (.lookupswitch d ps, n, nx, tg)) (hp : (ps.toList.zip (ps.toList.drop 1)).all (fun (a, next) => a.1 < next.1) = true) (hs : (pc : Int) + Op.lookupswitch.offset ps.toList d x.toInt = (t : Int)) (k : Z g M c sl t L st h Q) : Z g M c sl pc L (.int x :: st) h Q := by
  intro p e s m args below meth cd hC H locs ls hR
  obtain ⟨hd, hn, ht⟩ := fI_ok hC.2.2.2.2.2.2.2.2.2.2.1 hi
  subst hn
  exact lv_lookup hC.1 hC.2.1 hd hp rfl hs (k p e s m args below meth cd hC H locs ls hR)
theorem z_geti {ix k ci : Nat} (i : Nat) (hi : fI M pc = some (.getfield ix, 3, nx, tg)) (hT : h.2.2.2.1[k]? = some (0, ci)) (hf : (fk ci)[i]? = some false) (hw : Cond.fieldLink (mY M).cls ix (cF ci i).1 (cF ci i).2.1 (cF ci i).2.2.1 ∈ TT) (kk : Z g M c sl nx L (.int (h.1 k i) :: st) h Q) : Z g M c sl pc L (.ref k :: st) h Q := by
  intro p e s m args below meth cd hC H locs ls hR
  obtain ⟨hd, hn, ht⟩ := fI_ok hC.2.2.2.2.2.2.2.2.2.2.1 hi
  subst hn
  have h1 := mfs_at (g_o g) (h.1 k) (h.2.2.1 k) (fk ci) 0 i false hf
  rw [Nat.zero_add] at h1
  exact va_get hC.1 hC.2.1 hC.2.2.2.2.2.2.2.1 (kc_in ci (fk_ci hf)) hC.2.2.2.2.2.2.1 hC.2.2.2.2.2.2.2.2.1.1 hR.1 k (mws_at hT) (kc ci (fk_ci hf)) i (fk_lt hf) (hC.2.2.2.2.2.2.2.1 _ hw) (fun _ q => q) h1 hd (kk p e s m args below meth cd hC H locs ls hR)
theorem z_getr {ix k ci j : Nat} (i : Nat) (hi : fI M pc = some (.getfield ix, 3, nx, tg)) (hT : h.2.2.2.1[k]? = some (0, ci)) (hf : (fk ci)[i]? = some true) (hw : Cond.fieldLink (mY M).cls ix (cF ci i).1 (cF ci i).2.1 (cF ci i).2.2.1 ∈ TT) (hj : h.2.2.1 k i = some j) (kk : Z g M c sl nx L (.ref j :: st) h Q) : Z g M c sl pc L (.ref k :: st) h Q := by
  intro p e s m args below meth cd hC H locs ls hR
  obtain ⟨hd, hn, ht⟩ := fI_ok hC.2.2.2.2.2.2.2.2.2.2.1 hi
  subst hn
  have h1 := mfs_at (g_o g) (h.1 k) (h.2.2.1 k) (fk ci) 0 i true hf
  rw [Nat.zero_add] at h1
  simp only [hj] at h1
  exact va_get hC.1 hC.2.1 hC.2.2.2.2.2.2.2.1 (kc_in ci (fk_ci hf)) hC.2.2.2.2.2.2.1 hC.2.2.2.2.2.2.2.2.1.1 hR.1 k (mws_at hT) (kc ci (fk_ci hf)) i (fk_lt hf) (hC.2.2.2.2.2.2.2.1 _ hw) (fun _ q => q) h1 hd (kk p e s m args below meth cd hC H locs ls hR)
theorem va_S.sz {A : Nat → Prop} {H0 H : Heap} {locs : List Loc} (h : va_S A H0 H locs) : H0.size ≤ H.size := h.1
theorem z_puti {ix k ci : Nat} {x : Int32} (i : Nat) (hi : fI M pc = some (.putfield ix, 3, nx, tg)) (hT : h.2.2.2.1[k]? = some (0, ci)) (hf : (fk ci)[i]? = some false) (hw : Cond.fieldLink (mY M).cls ix (cF ci i).1 (cF ci i).2.1 (cF ci i).2.2.1 ∈ TT) (hfin : (cF ci i).2.2.2 = false) (hx : narrow (cT ci i) (.int x) = .int x) (hb : fits (cT ci i) (.int x) = true) (kk : Z g M c sl nx L st (up2 h.1 k i x, h.2) Q) : Z g M c sl pc L (.int x :: .ref k :: st) h Q := by
  intro p e s m args below meth cd hC H locs ls hR
  obtain ⟨hd, hn, ht⟩ := fI_ok hC.2.2.2.2.2.2.2.2.2.2.1 hi
  subst hn
  obtain ⟨hP, hS, hL, hx'⟩ := hR
  refine va_put hC.1 hC.2.1 hC.2.2.2.2.2.2.2.1 (kc_in ci (fk_ci hf)) (cT ci) (kc_ty ci (fk_ci hf)) (kc_nm ci (fk_ci hf)) hC.2.2.2.2.2.2.1 hC.2.2.2.2.2.2.2.2.1.1 hP mD hS k (mws_at hT) (kc ci (fk_ci hf)) i (fk_lt hf) (hC.2.2.2.2.2.2.2.1 _ hw) (fun _ q => q) hfin (kc_ty ci (fk_ci hf) i (fk_lt hf)) hx hb (by rw [mfs_len]; exact (List.getElem?_eq_some_iff.mp hf).1) hd ?_
  intro H1 locs1 hP1 _ hS1
  refine kk p e s m args below meth cd hC H1 locs1 ls ⟨?_, hS1, hL, hx'⟩
  · rw [mws_set (g := g) (h := h) (h' := (up2 h.1 k i x, h.2)) rfl hT ?_ ?_] at hP1
    · exact hP1
    · show mce g (up2 h.1 k i x, h.2) k (0, ci) = _
      simp only [mce]
      congr 1
      congr 1
      refine (mfs_set (g_o g) (fk ci) 0 i false hf ?_ ?_).symm
      · intro j' hj'
        rw [Nat.zero_add] at hj'
        constructor <;> simp [up2, hj']
      · simp [up2, va_rf, tr]
    · intro j' ct' hj'
      refine mce_cg ?_ ?_ ?_ ct' <;> first | rfl | exact up2_ne _ _ _ _ _ hj'

theorem z_putiF {ix k ci : Nat} {x : Int32} (i : Nat) (hi : fI M pc = some (.putfield ix, 3, nx, tg)) (hT : h.2.2.2.1[k]? = some (0, ci)) (hf : (fk ci)[i]? = some false) (hw : Cond.fieldLink (mY M).cls ix (cF ci i).1 (cF ci i).2.1 (cF ci i).2.2.1 ∈ TT) (hfin : (cF ci i).2.2.2 = true) (hm : (mY M).name = "<init>") (ho : (cF ci i).1 = (mY M).cls) (hx : narrow (cT ci i) (.int x) = .int x) (hb : fits (cT ci i) (.int x) = true) (kk : Z g M c sl nx L st (up2 h.1 k i x, h.2) Q) : Z g M c sl pc L (.int x :: .ref k :: st) h Q := by
  intro p e s m args below meth cd hC H locs ls hR
  obtain ⟨hd, hn, ht⟩ := fI_ok hC.2.2.2.2.2.2.2.2.2.2.1 hi
  subst hn
  obtain ⟨hP, hS, hL, hx'⟩ := hR
  refine va_putF hC.1 hC.2.1 hC.2.2.2.2.2.2.2.1 (kc_in ci (fk_ci hf)) (cT ci) (kc_ty ci (fk_ci hf)) (kc_nm ci (fk_ci hf)) hC.2.2.2.2.2.2.1 hC.2.2.2.2.2.2.2.2.1.1 hP mD hS k (mws_at hT) (kc ci (fk_ci hf)) i (fk_lt hf) (hC.2.2.2.2.2.2.2.1 _ hw) (fun _ q => q) hfin (hC.2.2.2.2.2.1.trans hm) ho (kc_ty ci (fk_ci hf) i (fk_lt hf)) hx hb (by rw [mfs_len]; exact (List.getElem?_eq_some_iff.mp hf).1) hd ?_
  intro H1 locs1 hP1 _ hS1
  refine kk p e s m args below meth cd hC H1 locs1 ls ⟨?_, hS1, hL, hx'⟩
  · rw [mws_set (g := g) (h := h) (h' := (up2 h.1 k i x, h.2)) rfl hT ?_ ?_] at hP1
    · exact hP1
    · show mce g (up2 h.1 k i x, h.2) k (0, ci) = _
      simp only [mce]
      congr 1
      congr 1
      refine (mfs_set (g_o g) (fk ci) 0 i false hf ?_ ?_).symm
      · intro j' hj'
        rw [Nat.zero_add] at hj'
        constructor <;> simp [up2, hj']
      · simp [up2, va_rf, tr]
    · intro j' ct' hj'
      refine mce_cg ?_ ?_ ?_ ct' <;> first | rfl | exact up2_ne _ _ _ _ _ hj'

theorem z_putrF {ix k ci j : Nat} (i : Nat) (hi : fI M pc = some (.putfield ix, 3, nx, tg)) (hT : h.2.2.2.1[k]? = some (0, ci)) (hf : (fk ci)[i]? = some true) (hw : Cond.fieldLink (mY M).cls ix (cF ci i).1 (cF ci i).2.1 (cF ci i).2.2.1 ∈ TT) (hfin : (cF ci i).2.2.2 = true) (hm : (mY M).name = "<init>") (ho : (cF ci i).1 = (mY M).cls) (hr : refKind (cT ci i) = true) (kk : Z g M c sl nx L st (h.1, h.2.1, up2 h.2.2.1 k i (some j), h.2.2.2) Q) : Z g M c sl pc L (.ref j :: .ref k :: st) h Q := by
  intro p e s m args below meth cd hC H locs ls hR
  obtain ⟨hd, hn, ht⟩ := fI_ok hC.2.2.2.2.2.2.2.2.2.2.1 hi
  subst hn
  obtain ⟨hP, hS, hL, hx'⟩ := hR
  refine va_putF hC.1 hC.2.1 hC.2.2.2.2.2.2.2.1 (kc_in ci (fk_ci hf)) (cT ci) (kc_ty ci (fk_ci hf)) (kc_nm ci (fk_ci hf)) hC.2.2.2.2.2.2.1 hC.2.2.2.2.2.2.2.2.1.1 hP mD hS k (mws_at hT) (kc ci (fk_ci hf)) i (fk_lt hf) (hC.2.2.2.2.2.2.2.1 _ hw) (fun _ q => q) hfin (hC.2.2.2.2.2.1.trans hm) ho (kc_ty ci (fk_ci hf) i (fk_lt hf)) (by cases hq : cT ci i <;> first | rfl | (rw [hq] at hr; cases hr)) (by cases hq : cT ci i <;> first | rfl | (rw [hq] at hr; cases hr)) (by rw [mfs_len]; exact (List.getElem?_eq_some_iff.mp hf).1) hd ?_
  intro H1 locs1 hP1 _ hS1
  refine kk p e s m args below meth cd hC H1 locs1 ls ⟨?_, hS1, hL, hx'⟩
  · rw [mws_set (g := g) (h := h) (h' := (h.1, h.2.1, up2 h.2.2.1 k i (some j), h.2.2.2)) rfl hT ?_ ?_] at hP1
    · exact hP1
    · show mce g (h.1, h.2.1, up2 h.2.2.1 k i (some j), h.2.2.2) k (0, ci) = _
      simp only [mce]
      congr 1
      congr 1
      refine (mfs_set (g_o g) (fk ci) 0 i true hf ?_ ?_).symm
      · intro j' hj'
        rw [Nat.zero_add] at hj'
        constructor <;> simp [up2, hj']
      · simp [up2, va_rf, tr]
    · intro j' ct' hj'
      refine mce_cg ?_ ?_ ?_ ct' <;> first | rfl | exact up2_ne _ _ _ _ _ hj'

theorem z_iald {k n : Nat} {i : Int32} (j : Nat) (hi : fI M pc = some (.iaload, 1, nx, tg)) (hT : h.2.2.2.1[k]? = some (1, n)) (hin : vp_in i n) (hj : i.toNatClampNeg = j) (kk : Z g M c sl nx L (.int (h.1 k j) :: st) h Q) : Z g M c sl pc L (.int i :: .ref k :: st) h Q := by
  intro p e s m args below meth cd hC H locs ls hR
  obtain ⟨hd, hn, ht⟩ := fI_ok hC.2.2.2.2.2.2.2.2.2.2.1 hi
  subst hn
  subst hj
  exact va_iald hC.1 hC.2.1 hC.2.2.2.2.2.2.2.2.1.1 hR.1 k 0 (mws_at hT) rfl hin hd (kk p e s m args below meth cd hC H locs ls hR)
theorem z_zald {k n : Nat} {i : Int32} (j : Nat) (hi : fI M pc = some (.baload, 1, nx, tg)) (hT : h.2.2.2.1[k]? = some (2, n)) (hin : vp_in i n) (hj : i.toNatClampNeg = j) (kk : Z g M c sl nx L (.int (h.1 k j) :: st) h Q) : Z g M c sl pc L (.int i :: .ref k :: st) h Q := by
  intro p e s m args below meth cd hC H locs ls hR
  obtain ⟨hd, hn, ht⟩ := fI_ok hC.2.2.2.2.2.2.2.2.2.2.1 hi
  subst hn
  subst hj
  exact va_zald hC.1 hC.2.1 hC.2.2.2.2.2.2.2.2.1.1 hR.1 k 1 (mws_at hT) rfl hin hd (kk p e s m args below meth cd hC H locs ls hR)
theorem z_iast {k n : Nat} {i x : Int32} (j : Nat) (hi : fI M pc = some (.iastore, 1, nx, tg)) (hT : h.2.2.2.1[k]? = some (1, n)) (hin : vp_in i n) (hj : i.toNatClampNeg = j) (kk : Z g M c sl nx L st (up2 h.1 k j x, h.2) Q) : Z g M c sl pc L (.int x :: .int i :: .ref k :: st) h Q := by
  intro p e s m args below meth cd hC H locs ls hR
  obtain ⟨hd, hn, ht⟩ := fI_ok hC.2.2.2.2.2.2.2.2.2.2.1 hi
  subst hn
  subst hj
  obtain ⟨hP, hS, hL, hx'⟩ := hR
  refine va_iast hC.1 hC.2.1 hC.2.2.2.2.2.2.2.2.1.1 hP mD hS k 0 (mws_at hT) rfl hin hd ?_
  intro H1 locs1 hP1 _ hS1
  refine kk p e s m args below meth cd hC H1 locs1 ls ⟨?_, hS1, hL, hx'⟩
  rw [mws_set (g := g) (h := h) (h' := (up2 h.1 k i.toNatClampNeg x, h.2)) rfl hT ?_ ?_] at hP1
  · exact hP1
  · show mce g (up2 h.1 k i.toNatClampNeg x, h.2) k (1, n) = _
    simp only [mce, up2_row]
    rfl
  · intro j' ct' hj'
    refine mce_cg ?_ ?_ ?_ ct' <;> first | rfl | exact up2_ne _ _ _ _ _ hj'
theorem z_zast {k n : Nat} {i x : Int32} (j : Nat) (hi : fI M pc = some (.bastore, 1, nx, tg)) (hT : h.2.2.2.1[k]? = some (2, n)) (hin : vp_in i n) (hj : i.toNatClampNeg = j) (kk : Z g M c sl nx L st (up2 h.1 k j (vp_nar .boolean x), h.2) Q) : Z g M c sl pc L (.int x :: .int i :: .ref k :: st) h Q := by
  intro p e s m args below meth cd hC H locs ls hR
  obtain ⟨hd, hn, ht⟩ := fI_ok hC.2.2.2.2.2.2.2.2.2.2.1 hi
  subst hn
  subst hj
  obtain ⟨hP, hS, hL, hx'⟩ := hR
  refine va_zast hC.1 hC.2.1 hC.2.2.2.2.2.2.2.2.1.1 hP mD hS k 1 (mws_at hT) rfl hin hd ?_
  intro H1 locs1 hP1 _ hS1
  refine kk p e s m args below meth cd hC H1 locs1 ls ⟨?_, hS1, hL, hx'⟩
  rw [mws_set (g := g) (h := h) (h' := (up2 h.1 k i.toNatClampNeg (vp_nar .boolean x), h.2)) rfl hT ?_ ?_] at hP1
  · exact hP1
  · show mce g (up2 h.1 k i.toNatClampNeg (vp_nar .boolean x), h.2) k (2, n) = _
    simp only [mce, up2_row]
    rfl
  · intro j' ct' hj'
    refine mce_cg ?_ ?_ ?_ ct' <;> first | rfl | exact up2_ne _ _ _ _ _ hj'
theorem z_lald {k n : Nat} {i : Int32} (hi : fI M pc = some (.laload, 1, nx, tg)) (hT : h.2.2.2.1[k]? = some (3, n)) (hin : vp_in i n) (kk : Z g M c sl nx L (.long (h.2.1 k i.toNatClampNeg) :: st) h Q) : Z g M c sl pc L (.int i :: .ref k :: st) h Q := by
  intro p e s m args below meth cd hC H locs ls hR
  obtain ⟨hd, hn, ht⟩ := fI_ok hC.2.2.2.2.2.2.2.2.2.2.1 hi
  subst hn
  exact va_lald hC.1 hC.2.1 hC.2.2.2.2.2.2.2.2.1.1 hR.1 k 2 (mws_at hT) rfl hin hd (kk p e s m args below meth cd hC H locs ls hR)
theorem z_last {k n : Nat} {i : Int32} {x : Int64} (hi : fI M pc = some (.lastore, 1, nx, tg)) (hT : h.2.2.2.1[k]? = some (3, n)) (hin : vp_in i n) (kk : Z g M c sl nx L st (h.1, up2 h.2.1 k i.toNatClampNeg x, h.2.2) Q) : Z g M c sl pc L (.long x :: .int i :: .ref k :: st) h Q := by
  intro p e s m args below meth cd hC H locs ls hR
  obtain ⟨hd, hn, ht⟩ := fI_ok hC.2.2.2.2.2.2.2.2.2.2.1 hi
  subst hn
  obtain ⟨hP, hS, hL, hx'⟩ := hR
  refine va_last hC.1 hC.2.1 hC.2.2.2.2.2.2.2.2.1.1 hP mD hS k 2 (mws_at hT) rfl hin hd ?_
  intro H1 locs1 hP1 _ hS1
  refine kk p e s m args below meth cd hC H1 locs1 ls ⟨?_, hS1, hL, hx'⟩
  rw [mws_set (g := g) (h := h) (h' := (h.1, up2 h.2.1 k i.toNatClampNeg x, h.2.2)) rfl hT ?_ ?_] at hP1
  · exact hP1
  · show mce g (h.1, up2 h.2.1 k i.toNatClampNeg x, h.2.2) k (3, n) = _
    simp only [mce, up2_row]
    rfl
  · intro j' ct' hj'
    refine mce_cg ?_ ?_ ?_ ct' <;> first | rfl | exact up2_ne _ _ _ _ _ hj'
theorem z_aaldA {k n j : Nat} {i : Int32} (hi : fI M pc = some (.aaload, 1, nx, tg)) (hT : h.2.2.2.1[k]? = some (4, n)) (hin : vp_in i n) (hj : h.2.2.1 k i.toNatClampNeg = some j) (kk : Z g M c sl nx L (.ref j :: st) h Q) : Z g M c sl pc L (.int i :: .ref k :: st) h Q := by
  intro p e s m args below meth cd hC H locs ls hR
  obtain ⟨hd, hn, ht⟩ := fI_ok hC.2.2.2.2.2.2.2.2.2.2.1 hi
  subst hn
  refine va_aldq hC.1 hC.2.1 hC.2.2.2.2.2.2.2.2.1.1 hR.1 k 3 (mws_at hT) rfl hin hd ?_
  simp only [hj]
  exact kk p e s m args below meth cd hC H locs ls hR
theorem z_aastA {k n j : Nat} {i : Int32} (hi : fI M pc = some (.aastore, 1, nx, tg)) (hT : h.2.2.2.1[k]? = some (4, n)) (hin : vp_in i n) (hj : h.2.2.2.1[j]? = some (0, ciA)) (kk : Z g M c sl nx L st (h.1, h.2.1, up2 h.2.2.1 k i.toNatClampNeg (some j), h.2.2.2) Q) : Z g M c sl pc L (.ref j :: .int i :: .ref k :: st) h Q := by
  intro p e s m args below meth cd hC H locs ls hR
  obtain ⟨hd, hn, ht⟩ := fI_ok hC.2.2.2.2.2.2.2.2.2.2.1 hi
  subst hn
  obtain ⟨hP, hS, hL, hx'⟩ := hR
  refine va_astq hC.1 hC.2.1 hC.2.2.2.2.2.2.2.2.1.1 hP mD hS k 3 j ciA (mws_at hT) rfl (mws_at hj) rfl hin hd ?_
  intro H1 locs1 hP1 _ hS1
  refine kk p e s m args below meth cd hC H1 locs1 ls ⟨?_, hS1, hL, hx'⟩
  rw [mws_set (g := g) (h := h) (h' := (h.1, h.2.1, up2 h.2.2.1 k i.toNatClampNeg (some j), h.2.2.2)) rfl hT ?_ ?_] at hP1
  · exact hP1
  · show mce g (h.1, h.2.1, up2 h.2.2.1 k i.toNatClampNeg (some j), h.2.2.2) k (4, n) = _
    simp only [mce, up2_row]
    congr 7
    funext b
    by_cases hb : b = i.toNatClampNeg <;> simp [va_up, hb]
  · intro j' ct' hj'
    refine mce_cg ?_ ?_ ?_ ct' <;> first | rfl | exact up2_ne _ _ _ _ _ hj'
theorem z_aaldE {k n j : Nat} {i : Int32} (hi : fI M pc = some (.aaload, 1, nx, tg)) (hT : h.2.2.2.1[k]? = some (5, n)) (hin : vp_in i n) (hj : h.2.2.1 k i.toNatClampNeg = some j) (kk : Z g M c sl nx L (.ref j :: st) h Q) : Z g M c sl pc L (.int i :: .ref k :: st) h Q := by
  intro p e s m args below meth cd hC H locs ls hR
  obtain ⟨hd, hn, ht⟩ := fI_ok hC.2.2.2.2.2.2.2.2.2.2.1 hi
  subst hn
  refine va_aldq hC.1 hC.2.1 hC.2.2.2.2.2.2.2.2.1.1 hR.1 k 4 (mws_at hT) rfl hin hd ?_
  simp only [hj]
  exact kk p e s m args below meth cd hC H locs ls hR
theorem z_aastE {k n j : Nat} {i : Int32} (hi : fI M pc = some (.aastore, 1, nx, tg)) (hT : h.2.2.2.1[k]? = some (5, n)) (hin : vp_in i n) (hj : h.2.2.2.1[j]? = some (0, ciE)) (kk : Z g M c sl nx L st (h.1, h.2.1, up2 h.2.2.1 k i.toNatClampNeg (some j), h.2.2.2) Q) : Z g M c sl pc L (.ref j :: .int i :: .ref k :: st) h Q := by
  intro p e s m args below meth cd hC H locs ls hR
  obtain ⟨hd, hn, ht⟩ := fI_ok hC.2.2.2.2.2.2.2.2.2.2.1 hi
  subst hn
  obtain ⟨hP, hS, hL, hx'⟩ := hR
  refine va_astq hC.1 hC.2.1 hC.2.2.2.2.2.2.2.2.1.1 hP mD hS k 4 j ciE (mws_at hT) rfl (mws_at hj) rfl hin hd ?_
  intro H1 locs1 hP1 _ hS1
  refine kk p e s m args below meth cd hC H1 locs1 ls ⟨?_, hS1, hL, hx'⟩
  rw [mws_set (g := g) (h := h) (h' := (h.1, h.2.1, up2 h.2.2.1 k i.toNatClampNeg (some j), h.2.2.2)) rfl hT ?_ ?_] at hP1
  · exact hP1
  · show mce g (h.1, h.2.1, up2 h.2.2.1 k i.toNatClampNeg (some j), h.2.2.2) k (5, n) = _
    simp only [mce, up2_row]
    congr 7
    funext b
    by_cases hb : b = i.toNatClampNeg <;> simp [va_up, hb]
  · intro j' ct' hj'
    refine mce_cg ?_ ?_ ?_ ct' <;> first | rfl | exact up2_ne _ _ _ _ _ hj'
theorem z_aaldI {k n j : Nat} {i : Int32} (hi : fI M pc = some (.aaload, 1, nx, tg)) (hT : h.2.2.2.1[k]? = some (6, n)) (hin : vp_in i n) (hj : h.2.2.1 k i.toNatClampNeg = some j) (kk : Z g M c sl nx L (.ref j :: st) h Q) : Z g M c sl pc L (.int i :: .ref k :: st) h Q := by
  intro p e s m args below meth cd hC H locs ls hR
  obtain ⟨hd, hn, ht⟩ := fI_ok hC.2.2.2.2.2.2.2.2.2.2.1 hi
  subst hn
  refine va_aldq hC.1 hC.2.1 hC.2.2.2.2.2.2.2.2.1.1 hR.1 k 5 (mws_at hT) rfl hin hd ?_
  simp only [hj]
  exact kk p e s m args below meth cd hC H locs ls hR
theorem z_aastI {k n j : Nat} {i : Int32} (hi : fI M pc = some (.aastore, 1, nx, tg)) (hT : h.2.2.2.1[k]? = some (6, n)) (hin : vp_in i n) (hj : h.2.2.2.1[j]? = some (0, ciI)) (kk : Z g M c sl nx L st (h.1, h.2.1, up2 h.2.2.1 k i.toNatClampNeg (some j), h.2.2.2) Q) : Z g M c sl pc L (.ref j :: .int i :: .ref k :: st) h Q := by
  intro p e s m args below meth cd hC H locs ls hR
  obtain ⟨hd, hn, ht⟩ := fI_ok hC.2.2.2.2.2.2.2.2.2.2.1 hi
  subst hn
  obtain ⟨hP, hS, hL, hx'⟩ := hR
  refine va_astq hC.1 hC.2.1 hC.2.2.2.2.2.2.2.2.1.1 hP mD hS k 5 j ciI (mws_at hT) rfl (mws_at hj) rfl hin hd ?_
  intro H1 locs1 hP1 _ hS1
  refine kk p e s m args below meth cd hC H1 locs1 ls ⟨?_, hS1, hL, hx'⟩
  rw [mws_set (g := g) (h := h) (h' := (h.1, h.2.1, up2 h.2.2.1 k i.toNatClampNeg (some j), h.2.2.2)) rfl hT ?_ ?_] at hP1
  · exact hP1
  · show mce g (h.1, h.2.1, up2 h.2.2.1 k i.toNatClampNeg (some j), h.2.2.2) k (6, n) = _
    simp only [mce, up2_row]
    congr 7
    funext b
    by_cases hb : b = i.toNatClampNeg <;> simp [va_up, hb]
  · intro j' ct' hj'
    refine mce_cg ?_ ?_ ?_ ct' <;> first | rfl | exact up2_ne _ _ _ _ _ hj'
theorem z_getsT {ix : Nat} (hi : fI M pc = some (.getstatic ix, 3, nx, tg)) (hw : Cond.fieldLink (mY M).cls ix R_Action "SORTS" "[I" ∈ TT) (kk : Z g M c sl nx L (.retAddr 0 :: st) h Q) : Z g M c sl pc L st h Q := by
  intro p e s m args below meth cd hC H locs ls hR
  obtain ⟨hd, hn, ht⟩ := fI_ok hC.2.2.2.2.2.2.2.2.2.2.1 hi
  subst hn
  exact va_gets hC.1 hC.2.1 hC.2.2.2.2.2.2.2.2.2.1.1 hR.2.1 hC.2.2.2.2.2.2.1 (hC.2.2.2.2.2.2.2.1 _ hw) (fun _ q => q) hd (kk p e s m args below meth cd hC H locs ls hR)
theorem z_ialdT {i : Int32} (hi : fI M pc = some (.iaload, 1, nx, tg)) (hin : vp_in i 40) (kk : Z g M c sl nx L (.int (sortsF i.toNatClampNeg) :: st) h Q) : Z g M c sl pc L (.int i :: .retAddr 0 :: st) h Q := by
  intro p e s m args below meth cd hC H locs ls hR
  obtain ⟨hd, hn, ht⟩ := fI_ok hC.2.2.2.2.2.2.2.2.2.2.1 hi
  subst hn
  exact va_ti hC.1 hC.2.1 hC.2.2.2.2.2.2.2.2.2.1.2.1 hR.2.1 hin rfl hd (kk p e s m args below meth cd hC H locs ls hR)
theorem zA_b {g : Gm} {U : State} {H : Heap} (h : zU g U H) : ¬ zA g (g_b g) := fun q => Nat.not_le_of_lt h.2.2.2.1 q
theorem z_ialdS {i : Int32} {j : Nat} (hi : fI M pc = some (.iaload, 1, nx, tg)) (hin : vp_in i (g_n g)) (kk : Z g M c sl nx L (.int (g_x g i.toNatClampNeg) :: st) h Q) : Z g M c sl pc L (.int i :: .retAddr (j + 1) :: st) h Q := by
  intro p e s m args below meth cd hC H locs ls hR
  obtain ⟨hd, hn, ht⟩ := fI_ok hC.2.2.2.2.2.2.2.2.2.2.1 hi
  subst hn
  have hu := hC.2.2.2.2.2.2.2.2.2.1
  exact va_sld hC.1 hC.2.1 hu.2.2.1 (Nat.lt_of_lt_of_le hu.2.2.2.1 hu.2.2.2.2.1) (zA_b hu) hR.2.1 hin hd (kk p e s m args below meth cd hC H locs ls hR)
theorem z_alenS {j : Nat} (hi : fI M pc = some (.arraylength, 1, nx, tg)) (kk : Z g M c sl nx L (.int (Int32.ofNat (g_n g)) :: st) h Q) : Z g M c sl pc L (.retAddr (j + 1) :: st) h Q := by
  intro p e s m args below meth cd hC H locs ls hR
  obtain ⟨hd, hn, ht⟩ := fI_ok hC.2.2.2.2.2.2.2.2.2.2.1 hi
  subst hn
  have hu := hC.2.2.2.2.2.2.2.2.2.1
  exact va_slen hC.1 hC.2.1 hu.2.2.1 (Nat.lt_of_lt_of_le hu.2.2.2.1 hu.2.2.2.2.1) (zA_b hu) hR.2.1 hd (kk p e s m args below meth cd hC H locs ls hR)
theorem z_iret {x : Int32} (hi : fI M pc = some (.ireturn, 1, nx, tg)) (hr : mR M = some .int) (hc : Nat.ble c (mM M).cells = true) (hs : Nat.ble sl (mM M).slots = true) (hq : Q (.inl (some (.int x))) h) : Z g M c sl pc L [.int x] h Q := by
  intro p e s m args below meth cd hC H locs ls hR
  obtain ⟨hd, hn, ht⟩ := fI_ok hC.2.2.2.2.2.2.2.2.2.2.1 hi
  subst hn
  have hlk := hC.2.2.2.2.1
  refine W.widen (Nat.le_of_ble_eq_true hc) (Nat.le_of_ble_eq_true hs) (W.mono (fun _ => MQ.toX) ?_)
  exact W.iret hC.1 hC.2.1 (hC.2.2.2.1.trans hr) (fun t ht hW => ⟨⟨_, h, hq, rfl, by rw [ht]; exact hR.1⟩, hR.2.1.F ht⟩) hR.2.1.2.2 hd hlk
theorem z_zret {x : Int32} (hi : fI M pc = some (.ireturn, 1, nx, tg)) (hr : mR M = some .boolean) (hx : narrow .boolean (.int x) = .int x) (hc : Nat.ble c (mM M).cells = true) (hs : Nat.ble sl (mM M).slots = true) (hq : Q (.inl (some (.int x))) h) : Z g M c sl pc L [.int x] h Q := by
  intro p e s m args below meth cd hC H locs ls hR
  obtain ⟨hd, hn, ht⟩ := fI_ok hC.2.2.2.2.2.2.2.2.2.2.1 hi
  subst hn
  have hlk := hC.2.2.2.2.1
  refine W.widen (Nat.le_of_ble_eq_true hc) (Nat.le_of_ble_eq_true hs) (W.mono (fun _ => MQ.toX) ?_)
  exact W.zret hC.1 hC.2.1 (hC.2.2.2.1.trans hr) hx (fun t ht hW => ⟨⟨_, h, hq, rfl, by rw [ht]; exact hR.1⟩, hR.2.1.F ht⟩) hR.2.1.2.2 hd hlk
theorem z_lret {x : Int64} (hi : fI M pc = some (.lreturn, 1, nx, tg)) (hr : mR M = some .long) (hc : Nat.ble c (mM M).cells = true) (hs : Nat.ble sl (mM M).slots = true) (hq : Q (.inl (some (.long x))) h) : Z g M c sl pc L [.long x] h Q := by
  intro p e s m args below meth cd hC H locs ls hR
  obtain ⟨hd, hn, ht⟩ := fI_ok hC.2.2.2.2.2.2.2.2.2.2.1 hi
  subst hn
  have hlk := hC.2.2.2.2.1
  refine W.widen (Nat.le_of_ble_eq_true hc) (Nat.le_of_ble_eq_true hs) (W.mono (fun _ => MQ.toX) ?_)
  exact W.lret hC.1 hC.2.1 (hC.2.2.2.1.trans hr) (fun t ht hW => ⟨⟨_, h, hq, rfl, by rw [ht]; exact hR.1⟩, hR.2.1.F ht⟩) hR.2.1.2.2 hd hlk
theorem z_vret (hi : fI M pc = some (.return_, 1, nx, tg)) (hr : mR M = none) (hc : Nat.ble c (mM M).cells = true) (hs : Nat.ble sl (mM M).slots = true) (hq : Q (.inl none) h) : Z g M c sl pc L [] h Q := by
  intro p e s m args below meth cd hC H locs ls hR
  obtain ⟨hd, hn, ht⟩ := fI_ok hC.2.2.2.2.2.2.2.2.2.2.1 hi
  subst hn
  have hlk := hC.2.2.2.2.1
  refine W.widen (Nat.le_of_ble_eq_true hc) (Nat.le_of_ble_eq_true hs) (W.mono (fun _ => MQ.toX) ?_)
  exact W.vret hC.1 hC.2.1 (hC.2.2.2.1.trans hr) (fun t ht hW => ⟨⟨_, h, hq, rfl, by rw [ht]; exact hR.1⟩, hR.2.1.F ht⟩) hR.2.1.2.2 hd hlk
theorem z_aret {C : String} {x : Nat} (hi : fI M pc = some (.areturn, 1, nx, tg)) (hr : mR M = some (.object C)) (hc : Nat.ble c (mM M).cells = true) (hs : Nat.ble sl (mM M).slots = true) (hq : Q (.inl (some (.ref x))) h) : Z g M c sl pc L [.ref x] h Q := by
  intro p e s m args below meth cd hC H locs ls hR
  obtain ⟨hd, hn, ht⟩ := fI_ok hC.2.2.2.2.2.2.2.2.2.2.1 hi
  subst hn
  have hlk := hC.2.2.2.2.1
  refine W.widen (Nat.le_of_ble_eq_true hc) (Nat.le_of_ble_eq_true hs) (W.mono (fun _ => MQ.toX) ?_)
  exact W.aret hC.1 hC.2.1 (hC.2.2.2.1.trans hr) (Or.inl ⟨_, rfl⟩) (Or.inr ⟨_, rfl⟩) (fun t ht hW => ⟨⟨_, h, hq, rfl, by rw [ht]; exact hR.1⟩, hR.2.1.F ht⟩) hR.2.1.2.2 hd hlk
end ZR
end
section
/-! Calls in the layer Z: a callee's Z at its entry is its contract; it comes back with an answer, or with an exception -/
def MetX (l : Launch) (y : MethodName) (ws : List Cond) (rm : Room) (Pc : Array Value → State → Prop) (Qc : Array Value → State → Outcome → State → Prop) (mc ms : Nat) (free : Addr → Prop) : Prop :=
  MetFree l y (headSpec ws rm) Pc (fun _ _ _ _ _ => True) (fun a st o t => Qc a st o t ∧ ∃ L, (st.WarmedH t.vm ∧ st.sameButNew ({ t with vm := st.vm } : State) L mc ms) ∧ ∀ q ∈ L, free q.base)
theorem MetX.ofW {l : Launch} {y : MethodName} {ws ws' : List Cond} {rm : Room} {Pc : Array Value → State → Prop} {Qc : Array Value → State → Outcome → State → Prop} {mc ms : Nat} {free : Addr → Prop} {cc : ByteArray} {maxL : Nat} {ret : Option FieldType}
    (hy : plainName y.cls = true) (hw : ws = Cond.code y cc maxL ret :: ws')
    (body : ∀ p e s m args below meth c s₁, BodyLoose p l y (headSpec ws rm) cc maxL ret e s m args below meth c s₁ → c.maxLocals = maxL → Pc args s →
      W p l e (headSpec ws rm).room s m args below meth c s.heap [] 0 0 (MX below Qc args s mc ms free) (entryFrame m args maxL)) : MetX l y ws rm Pc Qc mc ms free := by
  refine MetFree.of_bodyS (code := cc) (maxLocals := maxL) (ret := ret) hy ?_ ?_
  · intro args s m h hn
    obtain ⟨meth, c, h1, h2, h3, h4, h5, h6, -, -⟩ := Cond.code_spec hn (atoms_spec (ws := ws) h _ (by rw [hw]; exact List.mem_cons_self))
    exact ⟨meth, c, h1, h2, h3, h4, h5, h6⟩
  · intro p e s m args below meth c s₁ B hml hP _
    have hh0 : s₁.heap = s.heap := by rw [B.state]; rfl
    obtain ⟨t, a1, o, b1, b2, b3⟩ := body p e s m args below meth c s₁ B hml hP s₁ hh0 (Stand.of_body B)
    exact ⟨t, o, a1, b1, b2, ⟨b3.1, b3.2⟩⟩
/-- the locals at the entry -/
def entL : List Value → List (Option Value)
  | [] => []
  | .long x :: t => some (.long x) :: none :: entL t
  | .double x :: t => some (.double x) :: none :: entL t
  | .int x :: t => some (.int x) :: entL t
  | .float x :: t => some (.float x) :: entL t
  | .null :: t => some .null :: entL t
  | .ref x :: t => some (.ref x) :: entL t
  | .retAddr x :: t => some (.retAddr x) :: entL t
def entryL (vs : List Value) (n : Nat) : List (Option Value) := entL vs ++ List.replicate (n - (entL vs).length) none
theorem entL_one {g : Gm} {v : Value} {t : List Value} (h : v.category ≠ 2) : entL (v :: t) = some v :: entL t := by
  cases v <;> first | rfl | exact absurd rfl h
theorem entL_two {g : Gm} {v : Value} {t : List Value} (h : v.category = 2) : entL (v :: t) = some v :: none :: entL t := by
  cases v <;> first | rfl | cases h
theorem entL_len (g : Gm) : ∀ vs : List Value, (lg_sl (vs.map (tr g))).length = (entL vs).length
  | [] => rfl
  | v :: t => by
    have ih := entL_len g t
    simp only [lg_sl] at ih
    by_cases h : v.category = 2
    · simp only [lg_sl, List.map_cons, List.flatMap_cons, tr_cat, if_pos h, List.length_append, entL_two (g := g) h, List.length_cons, List.length_nil, ih]
      omega
    · simp only [lg_sl, List.map_cons, List.flatMap_cons, tr_cat, if_neg h, List.length_append, entL_one (g := g) h, List.length_cons, List.length_nil, ih]
      omega
theorem entL_mem (g : Gm) : ∀ (vs : List Value) (i0 i : Nat) (v : Value), (entL vs)[i]? = some (some v) → (i0 + i, tr g v) ∈ lv_args i0 (vs.map (tr g))
  | [], _, _, _, h => by simp [entL] at h
  | w :: t, i0, i, v, h => by
    by_cases hc : w.category = 2
    · rw [entL_two (g := g) hc] at h
      simp only [List.map_cons, lv_args, tr_cat, if_pos hc]
      match i, h with
      | 0, h =>
        have hw : w = v := by simpa using h
        subst hw
        exact List.mem_cons_self
      | 1, h => simp at h
      | i + 2, h =>
        have h1 : (entL t)[i]? = some (some v) := by simpa using h
        have h2 := entL_mem g t (i0 + 2) i v h1
        rw [show i0 + 2 + i = i0 + (i + 2) by omega] at h2
        exact List.mem_cons_of_mem _ h2
    · rw [entL_one (g := g) hc] at h
      simp only [List.map_cons, lv_args, tr_cat, if_neg hc]
      match i, h with
      | 0, h =>
        have hw : w = v := by simpa using h
        subst hw
        exact List.mem_cons_self
      | i + 1, h =>
        have h1 : (entL t)[i]? = some (some v) := by simpa using h
        have h2 := entL_mem g t (i0 + 1) i v h1
        rw [show i0 + 1 + i = i0 + (i + 1) by omega] at h2
        exact List.mem_cons_of_mem _ h2
theorem LR.entry {g : Gm} {vs : List Value} {n : Nat} (hn : (entL vs).length ≤ n) : LR g n (entryL vs n) ((lg_sl (vs.map (tr g)) ++ List.replicate (n - (lg_sl (vs.map (tr g))).length) Slot.unset).toArray) := by
  have h := lv_entry (vs.map (tr g)) (n := n) (by rw [entL_len]; exact hn)
  refine ⟨h.1, by simp only [entryL, List.length_append, List.length_replicate]; omega, h.2.1, fun i v hi => ?_⟩
  by_cases hl : i < (entL vs).length
  · rw [entryL, List.getElem?_append_left hl] at hi
    have h1 := h.2.2 _ (entL_mem g vs 0 i v hi)
    rw [Nat.zero_add] at h1
    exact h1
  · rw [entryL, List.getElem?_append_right (by omega), List.getElem?_replicate] at hi
    split at hi <;> cases hi
theorem NW_warm {s U : State} (hW : s.WarmedH U.vm) {w : Cond} (hw : w ∈ NW) (h : va_Nw w s) : va_Nw w U := by
  have h1 := (List.mem_filter.mp hw).2
  cases w <;> first | exact va_Nw.warmM hW h | exact va_Nw.warmD hW h | exact va_Nw.warmC hW h | cases h1
theorem zK.warm {g : Gm} {s U : State} (hW : s.WarmedH U.vm) (h : zK g s) : zK g U :=
  ⟨va_K.moved hW.alike h.1, ⟨va_AO.moved hW.alike h.2.1.1, va_AO.moved hW.alike h.2.1.2.1, va_AO.moved hW.alike h.2.1.2.2⟩, fun w hw => NW_warm hW hw (h.2.2 w hw)⟩
theorem zU.kept {g : Gm} {s U : State} {H H1 : Heap} (hW : s.vm.Alike U.vm) (h : zU g s H) (hz : H.size ≤ H1.size) (hk : ∀ q : Nat, q < H.size → ¬ zA g q → H1[q]? = H[q]?) : zU g U H1 :=
  ⟨va_Z.moved hW (va_Z.kept h.1 hk), va_T.moved hW (va_T.kept h.2.1 hk), va_X.moved hW (va_X.kept h.2.2.1 (hk _ (Nat.lt_of_lt_of_le h.2.2.2.1 h.2.2.2.2.1) (zA_b h))), h.2.2.2.1, Nat.le_trans h.2.2.2.2.1 hz,
    h.2.2.2.2.2.1.elim fun u q => ⟨u, va_Z.moved hW (va_Z.kept q hk)⟩, h.2.2.2.2.2.2.elim fun u q => ⟨u, va_Z.moved hW (va_Z.kept q hk)⟩⟩
/-- what a callee is given -/
def zPc (g : Gm) (h : Hp) (vs : List Value) : Array Value → State → Prop := va_Pc (vs.map (tr g)) (fun U => zK g U ∧ zU g U U.heap ∧ va_P (g_D g) CL (mws g h) U.heap ∧ (h.2.2.2.2 = true → U.heap.size = g_o g + h.2.2.2.1.length))
theorem zPc.blind {g : Gm} {h : Hp} {vs : List Value} : FrameBlind (zPc g h vs) := fun a U gg mk hh =>
  ⟨hh.1, zK.warm (s := U) (U := U.calling gg mk a) (State.WarmedH.refl U) hh.2.1, zU.kept (s := U) (U := U.calling gg mk a) (Vm.Alike.refl U.vm) hh.2.2.1 (Nat.le_refl _) (fun _ _ _ => rfl), hh.2.2.2.1, hh.2.2.2.2⟩
def mWs (M : MI) : List Cond := Cond.code (mY M) (mB M) (mL M) (mR M) :: TT
theorem z_met {g : Gm} {M : MI} {h : Hp} {Q : Rs → Hp → Prop} {vs : List Value} (hX : mX M = []) (hy : plainName (mY M).cls = true) (hM : okM M) (hlen : (entL vs).length ≤ mL M) (hZ : Z g M 0 0 0 (entryL vs (mL M)) [] h Q) :
    MetX (g_l g) (mY M) (mWs M) (mM M) (zPc g h vs) (QX g Q) (mM M).cells (mM M).slots (zA g) := by
  refine MetX.ofW (cc := mB M) (maxL := mL M) (ret := mR M) hy rfl ?_
  intro p e s m args below meth c s₁ B hml hv
  obtain ⟨rfl, hk, hu, hP, hx⟩ := hv
  have hts := atoms_spec (ws := mWs M) B.pre
  have hcx : Cx g M p s m (vs.map (tr g)).toArray meth c := ⟨B.exec, B.bytes, hml, B.returns, B.notSynchronized, (name_of_methodNamed B.named B.method).1, findClass_of_methodNamed B.named, fun w hw => hts w (List.mem_cons_of_mem _ hw), hk, hu, hM, fun _ => B.noHandlers (hts _ List.mem_cons_self)⟩
  rw [lg_entry_eq]
  exact hZ p e s m _ below meth c hcx s.heap [] _ ⟨hP, va_S.rf, LR.entry hlen, fun q => by rw [Nat.add_zero]; exact hx q⟩
/-- a call of a method with such a contract -/
theorem callX {l : Launch} {R : Room} {p : Program} {e : Env} {below : List Frame} {s : State} {sargs : Array Value} {m : MethodId} {meth : Method} {c : Code} {y : MethodName} {ws : List Cond} {rm : Room} {Pc : Array Value → State → Prop} {Qc : Array Value → State → Outcome → State → Prop} {mc ms : Nat} {free : Addr → Prop} {bytes : ByteArray} {maxL : Nat} {ret : Option FieldType}
    (hM : MetX l y ws rm Pc Qc mc ms free) (hblind : FrameBlind Pc) (hrc : rm.cells = mc) (hrs : rm.slots = ms) (hframes : rm.frames + 1 ≤ R.frames) (hlocals : 8 + (maxL + 11) + rm.locals ≤ R.locals)
    (hws : ∀ w ∈ ws, ∀ a' U, s.WarmedH U.vm → w.before a' U = true) (hcode : Cond.code y bytes maxL ret ∈ ws) (hinit : ∀ a' U, s.WarmedH U.vm → (Cond.initialized y.cls).before a' U = true)
    {U : State} {locs : List Loc} {cells slots : Nat} (X : Stand p l e R s m sargs below meth c U locs cells slots) {g : JFrame} {ig : Instr} {len : Nat} (hg : g.method = m) (hsize : g.locals.size = c.maxLocals) (hdg : decode c.code g.pc = .ok (ig, len)) (hW : 2 * g.monitorRoom + (g.stack.map fun v => v.category).sum ≤ 8)
    {mk : MethodId} (hn : U.methodNamed? y = some mk) {a : Array Value} (hcells : cells + mc ≤ R.cells) (hslots : slots + ms ≤ R.slots) (hPc : Pc a U) :
    ∃ (o : Outcome) (t T' : State) (L : List Loc), Stand p l e R s m sargs below meth c T' (locs ++ L) (cells + mc) (slots + ms) ∧ (∀ q ∈ L, free q.base) ∧ T'.heap = t.heap ∧ T'.vm = t.vm ∧ Qc a (U.calling g mk a) o t ∧
      ((∃ v, o = .returned v ∧ Steps p.tables e below (doInvoke e (U.setTop g) [] mk a).1 (T'.setTop { g with pc := g.pc + len, stack := v.toList ++ g.stack })) ∨
        ∃ x, o = .threw x ∧ Steps p.tables e below (doInvoke e (U.setTop g) [] mk a).1 ((T'.setTop g).pushFrame (.throwing x))) := by
  have h1 : (headSpec ws rm).pre.before a U = true := atoms_intro fun w hw => hws w hw a U X.warmed
  obtain ⟨methY, cY, hmY, hcY, -, hlY, -⟩ := Cond.code_spec hn (hws _ hcode a U X.warmed)
  obtain ⟨kY, hkY, -⟩ := className_of_methodNamed hn
  have hinitY : kY.init = .initialized := Cond.initialized_spec (findClass_of_methodNamed hn) hkY (hinit a U X.warmed)
  have h : At U g.method c below := by rw [hg]; exact X.here
  have happ : (headSpec ws rm).appliesLoose y e.platform (U.calling g mk a) = true :=
    Spec.appliesLoose_calling (g := g) h hdg hn hkY hinitY
      (X.room_calling (g := g) (R' := rm) hsize hmY hcY hframes (by rw [hlY]; omega) (by rw [hrc]; exact hcells) (by rw [hrs]; exact hslots)) h1
  obtain ⟨mid, hmid⟩ := h.above
  have hfr : (U.setTop g).frames = (.java g :: mid) ++ below := by rw [State.frames_setTop' g h.top, hmid]; rfl
  obtain ⟨o, s₂, hsteps, -, hend, hq, L, ⟨hW₂, hsame0⟩, hL⟩ := Steps.callFree hM p X.admits X.cas X.clock (acts := []) hfr happ (hblind _ _ _ _ hPc) trivial
  rw [State.frames_setTop' g h.top] at hend
  have hW' : U.WarmedH s₂.vm := hW₂
  cases o with
  | threw x =>
    rw [X.tail] at hend
    obtain ⟨T', X', hWT, hsT, ht⟩ := X.outOfThrown hg hend hW₂ hsame0
    refine ⟨.threw x, s₂, T', L, X', hL, ?_, ?_, hq, Or.inr ⟨x, rfl, ?_⟩⟩
    · rw [ht, Stand.throwing_heap]
    · rw [ht, Stand.throwing_vm]
    · rw [← ht]; exact hsteps
  | returned v =>
    obtain ⟨e2, q2, q3, q4, q5, q6⟩ := id hsame0
    have e3 : s₂ = ({ (U.calling g mk a).setFrames s₂.frames with heap := s₂.heap, slotsUsed := s₂.slotsUsed } : State).setVm s₂.vm := by
      have : s₂ = ({ s₂ with vm := (U.calling g mk a).vm } : State).setVm s₂.vm := rfl
      exact this.trans (congrArg (fun u : State => u.setVm s₂.vm) e2)
    obtain ⟨c₂, i₂, len₂, hc₂, hd₂, hf₂⟩ := hend
    have hcc : c₂ = c := by
      have h1 : s₂.code? g.method = U.code? g.method := by
        rw [State.code?_eq, State.code?_eq, hW'.alike.method?]
      exact Option.some.inj (hc₂.symm.trans (h1.trans h.code))
    subst hcc
    have hlen : len₂ = len := by rw [hdg] at hd₂; cases hd₂; rfl
    subst hlen
    obtain ⟨g₀, hg0⟩ := Option.isSome_iff_exists.mp h.top
    obtain ⟨r, hr⟩ := State.topJava?_eq_some.mp hg0
    have hs₂ : s₂ = (({ U with heap := s₂.heap, slotsUsed := s₂.slotsUsed } : State).setVm s₂.vm).setTop { g with pc := g.pc + len₂, stack := v.toList ++ g.stack } := by
      have hr' : (({ U with heap := s₂.heap, slotsUsed := s₂.slotsUsed } : State).setVm s₂.vm).frames = .java g₀ :: r := hr
      refine e3.trans ?_
      rw [hf₂, State.calling_eq h.top, State.setFrames_setFrames, State.setTop_of_frames _ hr', hr]
      rfl
    have hsame : U.sameButNew ({ U with heap := s₂.heap, slotsUsed := s₂.slotsUsed } : State) L mc ms := by
      refine ⟨?_, q2, q3, q4, q5, q6⟩
      obtain ⟨t, ht, -⟩ := State.frames_cons hr
      show ({ U with heap := s₂.heap, slotsUsed := s₂.slotsUsed } : State) = { U.setFrames U.frames with heap := s₂.heap, slotsUsed := s₂.slotsUsed }
      rw [State.setFrames_self ht]
    subst hg
    refine ⟨.returned v, s₂, (({ U with heap := s₂.heap, slotsUsed := s₂.slotsUsed } : State).setVm s₂.vm), L,
      ⟨X.admits, X.cas, X.clock, X.frames, X.room, X.hears, X.method, X.code, (X.here.setHeapUsed s₂.heap s₂.slotsUsed).setVm hW'.alike, X.tail, State.WarmedH.trans X.warmed hW', X.limits, X.bytes, X.same.trans (hsame.setVm s.vm)⟩,
      hL, rfl, rfl, hq, Or.inl ⟨v, rfl, ?_⟩⟩
    rw [← hs₂]
    exact hsteps
/-- what a method must have to be called -/
def CO (M : MI) : Prop := mX M = [] ∧ plainName (mY M).cls = true ∧ okM M ∧ Cond.code (mY M) (mB M) (mL M) (mR M) ∈ TT ∧ Cond.initialized (mY M).cls ∈ TT ∧ ((mY M).cls ≠ "java/lang/invoke/MethodHandle" ∧ (mY M).cls ≠ "java/lang/invoke/VarHandle")
/-- the room of a call -/
def rmOk (M M' : MI) (c sl : Nat) : Bool := Nat.ble ((mM M').frames + 1) (mM M).frames && (Nat.ble (8 + (mL M' + 11) + (mM M').locals) (mM M).locals && (Nat.ble (c + (mM M').cells) (mM M).cells && Nat.ble (sl + (mM M').slots) (mM M).slots))
theorem TT_at {args a' : Array Value} {s U : State} (hts : ∀ w ∈ TT, w.before args s = true) (hW : s.WarmedH U.vm) : ∀ w ∈ TT, w.before a' U = true := fun w hw => word_at hW (good_of_word (List.mem_filter.mp hw).2) (hts w hw)
theorem mws_size {g : Gm} {h : Hp} {H : Heap} (hP : va_P (g_D g) CL (mws g h) H) (ho : g_o g ≤ H.size) : g_o g + h.2.2.2.1.length ≤ H.size := by
  cases hl : h.2.2.2.1.length with
  | zero => exact ho
  | succ n =>
    have hn : n < h.2.2.2.1.length := by omega
    have h1 := (hP n _ (mws_at (g := g) (List.getElem?_eq_getElem hn))).lt
    simp only at h1
    omega
section ZC
variable {g : Gm} {M : MI} {c sl pc nx tg : Nat} {L : List (Option Value)} {st : List Value} {h : Hp} {Q : Rs → Hp → Prop}
theorem z_callG {M' : MI} {vs : List Value} {R : Rs → Hp → Prop} {ig : Instr} (hO : CO M') (hlen : Nat.ble (entL vs).length (mL M') = true) (hrm : rmOk M M' c sl = true) (hst : Nat.ble (st.map Value.category).sum 8 = true)
    (callee : Z g M' 0 0 0 (entryL vs (mL M')) [] h R) (kx : ∀ r h', R r h' → h'.2.2.2.2 = true → h.2.2.2.2 = true ∧ h'.2.2.2.1.length = h.2.2.2.1.length + (mM M').cells)
    (kr : ∀ v h', R (.inl v) h' → Z g M (c + (mM M').cells) (sl + (mM M').slots) (pc + 3) L (v.toList ++ st) h' Q) (kt : ∀ n h', R (.inr n) h' → mX M = [] ∧ Q (.inr n) h')
    {p : Program} {e : Env} {s : State} {m : MethodId} {args : Array Value} {below : List Frame} {meth : Method} {cd : Code} (hC : Cx g M p s m args meth cd) {locs : List Loc} {ls : Array Slot} {T : State} (hR : Rl g M c h L s T.heap locs ls) (X : Stand p (g_l g) e (mM M) s m args below meth cd T locs c sl)
    {g0 : JFrame} (hdg : decode cd.code pc = .ok (ig, 3))
    (inv : (h.2.2.2.2 = true → T.heap.size = g_o g + h.2.2.2.1.length) → ∃ (vm₁ : Vm) (mk : MethodId), Stand p (g_l g) e (mM M) s m args below meth cd (T.setVm vm₁) locs c sl ∧ s.methodNamed? (mY M') = some mk ∧ ∀ target, (∀ acts, Steps p.tables e below (doInvoke e ((T.setVm vm₁).setTop (F0 m pc ls (st.map (tr g)))) acts mk (vs.map (tr g)).toArray).1 target) → Steps p.tables e below (T.setTop g0) target) :
    ∃ t, Steps p.tables e below (T.setTop g0) t ∧ MX below (QX g Q) args s (mM M).cells (mM M).slots (zA g) t := by
  obtain ⟨hexec, hb, hml, hrt, hlk, hnm, hown, hts, hK, hU, hokM, hnoh⟩ := id hC
  obtain ⟨hP, hS, hL, hx⟩ := hR
  have hbase : g_o g ≤ T.heap.size := Nat.le_trans hU.2.2.2.2.1 hS.1
  have hsz : h.2.2.2.2 = true → T.heap.size = g_o g + h.2.2.2.1.length := fun q => by
    have q1 := hx q
    have q2 := X.heapSize
    have q3 := mws_size hP hbase
    omega
  obtain ⟨vm₁, mk, X₁, hnamed, hstep⟩ := inv hsz
  obtain ⟨hX', hpl, hok', hco, hini, hne⟩ := hO
  simp only [rmOk, Bool.and_eq_true] at hrm
  have hcx := callX (bytes := mB M') (maxL := mL M') (ret := mR M') (z_met hX' hpl hok' (Nat.le_of_ble_eq_true hlen) callee) zPc.blind rfl rfl (Nat.le_of_ble_eq_true hrm.1) (Nat.le_of_ble_eq_true hrm.2.1)
    (fun w hw a' U hW => by
      rcases List.mem_cons.mp hw with rfl | hw
      · exact TT_at hts hW _ hco
      · exact TT_at hts hW w hw)
    List.mem_cons_self (fun a' U hW => TT_at hts hW _ hini) X₁ (g := F0 m pc ls (st.map (tr g))) (ig := ig) (len := 3) rfl (hL.1.trans hml.symm) hdg
    (by
      have q := Nat.le_of_ble_eq_true hst
      have q2 : ((st.map (tr g)).map fun v => v.category) = st.map Value.category := by
        rw [List.map_map]
        exact List.map_congr_left fun v _ => tr_cat g v
      show 2 * 0 + ((st.map (tr g)).map fun v => v.category).sum ≤ 8
      rw [q2]
      omega)
    (X₁.named hnamed) (Nat.le_of_ble_eq_true hrm.2.2.1) (Nat.le_of_ble_eq_true hrm.2.2.2)
    (a := (vs.map (tr g)).toArray) ⟨rfl, zK.warm X₁.warmed hK, zU.kept X₁.warmed.alike hU hS.1 hS.2.1, hP, hsz⟩
  obtain ⟨o, t, T', L', X', hL', eH, eV, ⟨⟨r, h', hRr, hoK, hP'⟩, hF⟩, hout⟩ := hcx
  have hF1 : T.heap.size ≤ T'.heap.size := by rw [eH]; exact hF.1
  have hF2 : ∀ q : Nat, q < T.heap.size → ¬ zA g q → T'.heap[q]? = T.heap[q]? := fun q q1 q2 => by rw [eH]; exact hF.2 q q1 q2
  have hS' : va_S (zA g) s.heap T'.heap (locs ++ L') := ⟨Nat.le_trans hS.1 hF1, fun q q1 q2 => (hF2 q (Nat.lt_of_lt_of_le q1 hS.1) q2).trans (hS.2.1 q q1 q2), fun q hq => by
    rcases List.mem_append.mp hq with q1 | q1
    · exact hS.2.2 q q1
    · exact hL' q q1⟩
  have hx' : h'.2.2.2.2 = true → s.heap.size + (c + (mM M').cells) = g_o g + h'.2.2.2.1.length := fun q => by
    obtain ⟨q0, q1⟩ := kx r h' hRr q
    have q2 := hx q0
    omega
  rcases hout with ⟨v, rfl, hsteps⟩ | ⟨x, rfl, hsteps⟩
  · cases r with
    | inr n => obtain ⟨a, cell, q, -⟩ := hoK; cases q
    | inl v0 =>
      have hv : v = v0.map (tr g) := Outcome.returned.inj hoK
      subst hv
      obtain ⟨tt, hs2, hq2⟩ := kr v0 h' hRr p e s m args below meth cd hC T'.heap (locs ++ L') ls ⟨by rw [eH]; exact hP', hS', hL, hx'⟩ T' rfl X'
      refine ⟨tt, hstep _ (fun acts => by rw [doInvoke_state]; refine hsteps.trans ?_; cases v0 <;> exact hs2), hq2⟩
  · cases r with
    | inl v0 => cases hoK
    | inr n =>
      obtain ⟨a, cell, q, hcell, hst', hcls⟩ := hoK
      cases q
      obtain ⟨hXM, hq⟩ := kt n h' hRr
      have X2 := stand_widen X' (Nat.le_of_ble_eq_true hrm.2.2.1) (Nat.le_of_ble_eq_true hrm.2.2.2)
      have hno := hnoh hXM
      obtain ⟨s1, s2, s3, s4, s5⟩ := X2.leaveThrown x (g := F0 m pc ls (st.map (tr g))) rfl rfl rfl (fun y hy => by
        have : cd.exceptionTable.toList = [] := by simpa using hno
        rw [this] at hy
        cases hy) hlk
      refine ⟨_, hstep _ (fun acts => by rw [doInvoke_state]; exact hsteps.trans s1), .threw x, s2, s3, ⟨⟨.inr n, h', hq, ⟨x, cell, rfl, ?_, hst', ?_⟩, ?_⟩, ?_⟩, locs ++ L', ⟨s4, s5⟩, hS'.2.2⟩
      · show T'.heap[x]? = some cell
        rw [eH]; exact hcell
      · show T'.vm.findClass _ = _
        rw [eV]; exact hcls
      · show va_P _ _ _ T'.heap
        rw [eH]; exact hP'
      · exact hS'.F rfl
theorem z_cv {M' : MI} {ix k ci : Nat} {R : Rs → Hp → Prop} (as : List Value) (hi : fI M pc = some (.invokevirtual ix, 3, nx, tg)) (hl : Cond.methodLink (mY M).cls ix (mY M') ∈ TT) (hO : CO M') (hin : Cond.instanceMethod (mY M') ∈ TT) (hse : Cond.selects (mY M').cls (mY M') (mY M') ∈ TT)
    (hn : (parseMethodDescriptor (mY M').desc).map (fun d => d.parameters.length) = some as.length) (hT : h.2.2.2.1[k]? = some (0, ci)) (hci : ci < 8) (hcc : cC ci = (mY M').cls)
    (hlen : Nat.ble (entL (.ref k :: as)).length (mL M') = true) (hrm : rmOk M M' c sl = true) (hst : Nat.ble (st.map Value.category).sum 8 = true)
    (callee : Z g M' 0 0 0 (entryL (.ref k :: as) (mL M')) [] h R) (kx : ∀ r h', R r h' → h'.2.2.2.2 = true → h.2.2.2.2 = true ∧ h'.2.2.2.1.length = h.2.2.2.1.length + (mM M').cells)
    (kr : ∀ v h', R (.inl v) h' → Z g M (c + (mM M').cells) (sl + (mM M').slots) nx L (v.toList ++ st) h' Q) (kt : ∀ n h', R (.inr n) h' → mX M = [] ∧ Q (.inr n) h') : Z g M c sl pc L (as.reverse ++ .ref k :: st) h Q := by
  intro p e s m args below meth cd hC H locs ls hR T hTH X
  obtain ⟨hd, hnx, -⟩ := fI_ok hC.2.2.2.2.2.2.2.2.2.2.1 hi
  subst hnx
  subst hTH
  obtain ⟨hexec, hb, hml, hrt, hlk, hnm, hown, hts, hK, hU, hokM, hnoh⟩ := id hC
  have hdg : decode cd.code pc = .ok (.invokevirtual ix, 3) := by rw [hb]; exact hd
  refine z_callG hO hlen hrm hst callee kx kr kt hC hR X hdg (fun _ => ?_)
  obtain ⟨cellB, hcB, hoB, hclB⟩ := va_recv hK.1 hR.1 (kc ci hci) (mws_at hT)
  obtain ⟨mk, methM, hnamed, hmethM, hstM, habM⟩ := Cond.instanceMethod_spec (hts _ hin)
  obtain ⟨methM', cM, hmethM', -, -, -, -, -, -, hsigM⟩ := Cond.code_spec hnamed (hts _ hO.2.2.2.1)
  cases hmethM.symm.trans hmethM'
  obtain ⟨c2, r2, m2, q1, q2, q3, q4, kP, hkP, hkPi⟩ := Cond.selects_spec (hts _ hse)
  have hclB' : s.vm.findClass (mY M').cls = some cellB.cls := by rw [← hcc]; exact hclB
  cases hclB'.symm.trans q1
  cases (State.methodFound?_of_named hnamed hO.2.2.2.2.2).symm.trans q2
  cases hnamed.symm.trans q3
  have hselP : selectMethod e.platform s.vm cellB.cls mk = .method mk := by rw [Launch.admits_selectMethod X.admits]; exact q4
  obtain ⟨vm₁, X₁, hstep₁⟩ := X.invokevirtual hexec hown (hts _ hl) hnamed hmethM hstM hkP hkPi hO.2.2.2.2.2 (a := g_o g + k) (cell := cellB) hcB
    (fun z h => by rw [h] at hoB; cases hoB) hselP hmethM habM hkP hkPi (g := F0 m pc ls ((as.reverse ++ .ref k :: st).map (tr g))) rfl (argsL := as.map (tr g)) (rest := st.map (tr g))
    (by rw [hsigM] at hn; rw [List.length_map]; exact (Option.some.inj hn).symm) (by simp [tr]) hdg
  exact ⟨vm₁, mk, X₁, hnamed, hstep₁⟩
theorem z_cs {M' : MI} {ix : Nat} {R : Rs → Hp → Prop} (as : List Value) (hi : fI M pc = some (.invokestatic ix, 3, nx, tg)) (hl : Cond.methodLink (mY M).cls ix (mY M') ∈ TT) (hO : CO M') (hsta : Cond.static (mY M') ∈ TT)
    (hn : (parseMethodDescriptor (mY M').desc).map (fun d => d.parameters.length) = some as.length)
    (hlen : Nat.ble (entL as).length (mL M') = true) (hrm : rmOk M M' c sl = true) (hst : Nat.ble (st.map Value.category).sum 8 = true)
    (callee : Z g M' 0 0 0 (entryL as (mL M')) [] h R) (kx : ∀ r h', R r h' → h'.2.2.2.2 = true → h.2.2.2.2 = true ∧ h'.2.2.2.1.length = h.2.2.2.1.length + (mM M').cells)
    (kr : ∀ v h', R (.inl v) h' → Z g M (c + (mM M').cells) (sl + (mM M').slots) nx L (v.toList ++ st) h' Q) (kt : ∀ n h', R (.inr n) h' → mX M = [] ∧ Q (.inr n) h') : Z g M c sl pc L (as.reverse ++ st) h Q := by
  intro p e s m args below meth cd hC H locs ls hR T hTH X
  obtain ⟨hd, hnx, -⟩ := fI_ok hC.2.2.2.2.2.2.2.2.2.2.1 hi
  subst hnx
  subst hTH
  obtain ⟨hexec, hb, hml, hrt, hlk, hnm, hown, hts, hK, hU, hokM, hnoh⟩ := id hC
  have hdg : decode cd.code pc = .ok (.invokestatic ix, 3) := by rw [hb]; exact hd
  refine z_callG hO hlen hrm hst callee kx kr kt hC hR X hdg (fun _ => ?_)
  obtain ⟨mk, hnamed⟩ := Cond.code_named (hts _ hO.2.2.2.1)
  obtain ⟨methM, cM, hmethM, -, -, -, -, -, -, hsigM⟩ := Cond.code_spec hnamed (hts _ hO.2.2.2.1)
  have hstatic : methM.isStatic = true := Cond.static_spec hnamed hmethM (hts _ hsta)
  obtain ⟨kP, hkP, -⟩ := className_of_methodNamed hnamed
  have hinitP : kP.init = .initialized := Cond.initialized_spec (findClass_of_methodNamed hnamed) hkP (hts _ hO.2.2.2.2.1)
  obtain ⟨vm₁, X₁, hstep₁⟩ := X.invokestatic hexec hown (hts _ hl) hnamed hmethM hstatic hkP hinitP hO.2.2.2.2.2 (g := F0 m pc ls ((as.reverse ++ st).map (tr g))) rfl (argsL := as.map (tr g)) (rest := st.map (tr g))
    (by rw [hsigM] at hn; rw [List.length_map]; exact (Option.some.inj hn).symm) (by simp) hdg
  exact ⟨vm₁, mk, X₁, hnamed, hstep₁⟩
theorem z_ci {M' : MI} {ix k : Nat} {R : Rs → Hp → Prop} (as : List Value) (hi : fI M pc = some (.invokespecial ix, 3, nx, tg)) (hl : Cond.methodLink (mY M).cls ix (mY M') ∈ TT) (hO : CO M') (hin : Cond.instanceMethod (mY M') ∈ TT) (hy1 : (mY M').name = "<init>") (hret : mR M' = none)
    (hn : (parseMethodDescriptor (mY M').desc).map (fun d => d.parameters.length) = some as.length)
    (hlen : Nat.ble (entL (.ref k :: as)).length (mL M') = true) (hrm : rmOk M M' c sl = true) (hst : Nat.ble (st.map Value.category).sum 8 = true)
    (callee : Z g M' 0 0 0 (entryL (.ref k :: as) (mL M')) [] h R) (kx : ∀ r h', R r h' → h'.2.2.2.2 = true → h.2.2.2.2 = true ∧ h'.2.2.2.1.length = h.2.2.2.1.length + (mM M').cells)
    (kr : ∀ v h', R (.inl v) h' → Z g M (c + (mM M').cells) (sl + (mM M').slots) nx L (v.toList ++ st) h' Q) (kt : ∀ n h', R (.inr n) h' → mX M = [] ∧ Q (.inr n) h') : Z g M c sl pc L (as.reverse ++ .ref k :: st) h Q := by
  intro p e s m args below meth cd hC H locs ls hR T hTH X
  obtain ⟨hd, hnx, -⟩ := fI_ok hC.2.2.2.2.2.2.2.2.2.2.1 hi
  subst hnx
  subst hTH
  obtain ⟨hexec, hb, hml, hrt, hlk, hnm, hown, hts, hK, hU, hokM, hnoh⟩ := id hC
  have hdg : decode cd.code pc = .ok (.invokespecial ix, 3) := by rw [hb]; exact hd
  refine z_callG hO hlen hrm hst callee kx kr kt hC hR X hdg (fun _ => ?_)
  have hpl : e.platform.magicAccessors = ({} : Platform).magicAccessors := by rw [X.admits.platform]
  have hco := hts _ hO.2.2.2.1
  rw [hret] at hco
  obtain ⟨mk, methM, cM, kP, vm₁, hnamed, hmethM, hcodeM, -, hlocalsM, -, hkP, -, hW₁, hstep₁⟩ := Steps.initColdArgs (e := e) X.here hexec X.warmed hpl hown hy1 hO.2.2.2.2.2 (hts _ hl) (hts _ hin) hco (f := F0 m pc ls ((as.reverse ++ .ref k :: st).map (tr g))) (a := g_o g + k) (argsL := as.map (tr g)) (rest := st.map (tr g)) rfl
    (fun sig hs => by rw [hs] at hn; rw [List.length_map]; exact (Option.some.inj hn).symm) (by simp [tr]) hdg
  exact ⟨vm₁, mk, X.noted hW₁, hnamed, hstep₁⟩
theorem z_cin {M' : MI} {ix k : Nat} {R : Rs → Hp → Prop} (as : List Value) (hi : fI M pc = some (.invokespecial ix, 3, nx, tg)) {host : String} (hl : ∀ U, zK g U → va_Nw (.methodLinkNest (mY M).cls ix (mY M') host) U) (hO : CO M') (hin : Cond.instanceMethod (mY M') ∈ TT) (hy1 : (mY M').name = "<init>") (hret : mR M' = none)
    (hn : (parseMethodDescriptor (mY M').desc).map (fun d => d.parameters.length) = some as.length)
    (hlen : Nat.ble (entL (.ref k :: as)).length (mL M') = true) (hrm : rmOk M M' c sl = true) (hst : Nat.ble (st.map Value.category).sum 8 = true)
    (callee : Z g M' 0 0 0 (entryL (.ref k :: as) (mL M')) [] h R) (kx : ∀ r h', R r h' → h'.2.2.2.2 = true → h.2.2.2.2 = true ∧ h'.2.2.2.1.length = h.2.2.2.1.length + (mM M').cells)
    (kr : ∀ v h', R (.inl v) h' → Z g M (c + (mM M').cells) (sl + (mM M').slots) nx L (v.toList ++ st) h' Q) (kt : ∀ n h', R (.inr n) h' → mX M = [] ∧ Q (.inr n) h') : Z g M c sl pc L (as.reverse ++ .ref k :: st) h Q := by
  intro p e s m args below meth cd hC H locs ls hR T hTH X
  obtain ⟨hd, hnx, -⟩ := fI_ok hC.2.2.2.2.2.2.2.2.2.2.1 hi
  subst hnx
  subst hTH
  obtain ⟨hexec, hb, hml, hrt, hlk, hnm, hown, hts, hK, hU, hokM, hnoh⟩ := id hC
  have hdg : decode cd.code pc = .ok (.invokespecial ix, 3) := by rw [hb]; exact hd
  refine z_callG hO hlen hrm hst callee kx kr kt hC hR X hdg (fun _ => ?_)
  have hpl : e.platform.magicAccessors = ({} : Platform).magicAccessors := by rw [X.admits.platform]
  have hco := hts _ hO.2.2.2.1
  rw [hret] at hco
  obtain ⟨mk, methM, cM, kP, vm₁, hnamed, hmethM, hcodeM, -, hlocalsM, -, hkP, -, hW₁, hstep₁⟩ := Steps.initColdArgsNest (e := e) X.here hexec X.warmed hpl hown hy1 hO.2.2.2.2.2 (va_Nw.use rfl (hl s hK)) (hts _ hin) hco (f := F0 m pc ls ((as.reverse ++ .ref k :: st).map (tr g))) (a := g_o g + k) (argsL := as.map (tr g)) (rest := st.map (tr g)) rfl
    (fun sig hs => by rw [hs] at hn; rw [List.length_map]; exact (Option.some.inj hn).symm) (by simp [tr]) hdg
  exact ⟨vm₁, mk, X.noted hW₁, hnamed, hstep₁⟩
end ZC
end
section
theorem kc_def : ∀ ci : Nat, ci < 8 → ∀ j, j < cN ci → ∀ o : Nat, defaultValue (cT ci j) = vp_V (mfs o (fun _ => 0) (fun _ => none) 0 (fk ci)) j
  | 0, _ => fun j hj o => by
    have hj : j < 6 := hj
    match j, hj with
    | 0, _ => rfl
    | 1, _ => rfl
    | 2, _ => rfl
    | 3, _ => rfl
    | 4, _ => rfl
    | 5, _ => rfl
    | k + 6, h => exact absurd h (by omega)
  | 1, _ => fun j hj o => by
    have hj : j < 3 := hj
    match j, hj with
    | 0, _ => rfl
    | 1, _ => rfl
    | 2, _ => rfl
    | k + 3, h => exact absurd h (by omega)
  | 2, _ => fun j hj o => by
    have hj : j < 5 := hj
    match j, hj with
    | 0, _ => rfl
    | 1, _ => rfl
    | 2, _ => rfl
    | 3, _ => rfl
    | 4, _ => rfl
    | k + 5, h => exact absurd h (by omega)
  | 3, _ => fun j hj o => by
    have hj : j < 4 := hj
    match j, hj with
    | 0, _ => rfl
    | 1, _ => rfl
    | 2, _ => rfl
    | 3, _ => rfl
    | k + 4, h => exact absurd h (by omega)
  | 4, _ => fun j hj o => by
    have hj : j < 3 := hj
    match j, hj with
    | 0, _ => rfl
    | 1, _ => rfl
    | 2, _ => rfl
    | k + 3, h => exact absurd h (by omega)
  | 5, _ => fun j hj o => by
    have hj : j < 8 := hj
    match j, hj with
    | 0, _ => rfl
    | 1, _ => rfl
    | 2, _ => rfl
    | 3, _ => rfl
    | 4, _ => rfl
    | 5, _ => rfl
    | 6, _ => rfl
    | 7, _ => rfl
    | k + 8, h => exact absurd h (by omega)
  | 6, _ => fun j hj o => by
    have hj : j < 4 := hj
    match j, hj with
    | 0, _ => rfl
    | 1, _ => rfl
    | 2, _ => rfl
    | 3, _ => rfl
    | k + 4, h => exact absurd h (by omega)
  | 7, _ => fun j hj o => by
    have hj : j < 19 := hj
    match j, hj with
    | 0, _ => rfl
    | 1, _ => rfl
    | 2, _ => rfl
    | 3, _ => rfl
    | 4, _ => rfl
    | 5, _ => rfl
    | 6, _ => rfl
    | 7, _ => rfl
    | 8, _ => rfl
    | 9, _ => rfl
    | 10, _ => rfl
    | 11, _ => rfl
    | 12, _ => rfl
    | 13, _ => rfl
    | 14, _ => rfl
    | 15, _ => rfl
    | 16, _ => rfl
    | 17, _ => rfl
    | 18, _ => rfl
    | k + 19, h => exact absurd h (by omega)
  | k + 8, h => absurd h (by omega)
/-! The layer Z: calls into the JDK (max, min, abs, arraycopy, Object's constructor), making objects and arrays -/
section ZM
variable {g : Gm} {M : MI} {c sl pc nx tg : Nat} {L : List (Option Value)} {st : List Value} {h : Hp} {Q : Rs → Hp → Prop}
theorem cats (g : Gm) (st : List Value) : ((st.map (tr g)).map fun v => v.category) = st.map Value.category := by
  rw [List.map_map]
  exact List.map_congr_left fun v _ => tr_cat g v
def libOk (M : MI) (st : List Value) (c sl n : Nat) : Bool := Nat.ble 1 (mM M).frames && (Nat.ble ((st.map Value.category).sum + n) (mM M).locals && (Nat.ble c (mM M).cells && Nat.ble sl (mM M).slots))
theorem z_max {ix : Nat} {x y : Int32} (hi : fI M pc = some (.invokestatic ix, 3, nx, tg)) (hl : Cond.methodLink (mY M).cls ix Lib.Math.max.name ∈ TT) (h1 : Cond.static Lib.Math.max.name ∈ TT) (h2 : Cond.initialized "java/lang/Math" ∈ TT) (h3 : Cond.code Lib.Math.max.name Lib.Math.max.code 2 (some .int) ∈ TT) (hb : libOk M st c sl 13 = true)
    (k : Z g M c sl nx L (.int (if x < y then y else x) :: st) h Q) : Z g M c sl pc L (.int y :: .int x :: st) h Q := by
  intro p e s m args below meth cd hC H locs ls hR
  obtain ⟨hd, hn, ht⟩ := fI_ok hC.2.2.2.2.2.2.2.2.2.2.1 hi
  subst hn
  simp only [libOk, Bool.and_eq_true] at hb
  have hts := hC.2.2.2.2.2.2.2.1
  exact va_mmax hC.1 hC.2.1 (hC.2.2.1.trans hR.2.2.1.1.symm) hC.2.2.2.2.2.2.1 (hts _ hl) (hts _ h1) (hts _ h2) (hts _ h3) (Nat.le_of_ble_eq_true hb.1) (by rw [cats]; exact Nat.le_of_ble_eq_true hb.2.1) (Nat.le_of_ble_eq_true hb.2.2.1) (Nat.le_of_ble_eq_true hb.2.2.2) hd (k p e s m args below meth cd hC H locs ls hR)
theorem z_min {ix : Nat} {x y : Int32} (hi : fI M pc = some (.invokestatic ix, 3, nx, tg)) (hl : Cond.methodLink (mY M).cls ix Lib.Math.min.name ∈ TT) (h1 : Cond.static Lib.Math.min.name ∈ TT) (h2 : Cond.initialized "java/lang/Math" ∈ TT) (h3 : Cond.code Lib.Math.min.name Lib.Math.min.code 2 (some .int) ∈ TT) (hb : libOk M st c sl 13 = true)
    (k : Z g M c sl nx L (.int (if y < x then y else x) :: st) h Q) : Z g M c sl pc L (.int y :: .int x :: st) h Q := by
  intro p e s m args below meth cd hC H locs ls hR
  obtain ⟨hd, hn, ht⟩ := fI_ok hC.2.2.2.2.2.2.2.2.2.2.1 hi
  subst hn
  simp only [libOk, Bool.and_eq_true] at hb
  have hts := hC.2.2.2.2.2.2.2.1
  exact va_mmin hC.1 hC.2.1 (hC.2.2.1.trans hR.2.2.1.1.symm) hC.2.2.2.2.2.2.1 (hts _ hl) (hts _ h1) (hts _ h2) (hts _ h3) (Nat.le_of_ble_eq_true hb.1) (by rw [cats]; exact Nat.le_of_ble_eq_true hb.2.1) (Nat.le_of_ble_eq_true hb.2.2.1) (Nat.le_of_ble_eq_true hb.2.2.2) hd (k p e s m args below meth cd hC H locs ls hR)
theorem z_abs {ix : Nat} {x : Int32} (hi : fI M pc = some (.invokestatic ix, 3, nx, tg)) (hl : Cond.methodLink (mY M).cls ix Lib.Math.abs.name ∈ TT) (h1 : Cond.static Lib.Math.abs.name ∈ TT) (h2 : Cond.initialized "java/lang/Math" ∈ TT) (h3 : Cond.code Lib.Math.abs.name Lib.Math.abs.code 1 (some .int) ∈ TT) (hb : libOk M st c sl 13 = true)
    (k : Z g M c sl nx L (.int (if 0 ≤ x then x else 0 - x) :: st) h Q) : Z g M c sl pc L (.int x :: st) h Q := by
  intro p e s m args below meth cd hC H locs ls hR
  obtain ⟨hd, hn, ht⟩ := fI_ok hC.2.2.2.2.2.2.2.2.2.2.1 hi
  subst hn
  simp only [libOk, Bool.and_eq_true] at hb
  have hts := hC.2.2.2.2.2.2.2.1
  exact va_mabs hC.1 hC.2.1 (hC.2.2.1.trans hR.2.2.1.1.symm) hC.2.2.2.2.2.2.1 (hts _ hl) (hts _ h1) (hts _ h2) (hts _ h3) (Nat.le_of_ble_eq_true hb.1) (by rw [cats]; exact Nat.le_of_ble_eq_true hb.2.1) (Nat.le_of_ble_eq_true hb.2.2.1) (Nat.le_of_ble_eq_true hb.2.2.2) hd (k p e s m args below meth cd hC H locs ls hR)
theorem z_objInit {ix k : Nat} (hi : fI M pc = some (.invokespecial ix, 3, nx, tg)) (hl : Cond.methodLink (mY M).cls ix Lib.objectInit ∈ TT) (h1 : Cond.instanceMethod Lib.objectInit ∈ TT) (h2 : Cond.code Lib.objectInit ⟨#[0xb1]⟩ 1 none ∈ TT) (hb : libOk M st c sl 12 = true)
    (kk : Z g M c sl nx L st h Q) : Z g M c sl pc L (.ref k :: st) h Q := by
  intro p e s m args below meth cd hC H locs ls hR
  obtain ⟨hd, hn, ht⟩ := fI_ok hC.2.2.2.2.2.2.2.2.2.2.1 hi
  subst hn
  simp only [libOk, Bool.and_eq_true] at hb
  have hts := hC.2.2.2.2.2.2.2.1
  refine W.objInit hC.1 hC.2.1 hC.2.2.2.2.2.2.1 (hts _ hl) (hts _ h1) (hts _ h2) rfl (hR.2.2.1.1.trans hC.2.2.1.symm) rfl hd (Nat.le_of_ble_eq_true hb.1) ?_ (kk p e s m args below meth cd hC H locs ls hR)
  show 2 * 0 + ((st.map (tr g)).map fun v => v.category).sum + 12 ≤ _
  rw [cats, Nat.mul_zero, Nat.zero_add]
  exact Nat.le_of_ble_eq_true hb.2.1
theorem z_copyi {ix k0 k1 n0 n1 : Nat} {sp dp n : Int32} (hi : fI M pc = some (.invokestatic ix, 3, nx, tg)) (hl : Cond.methodLink (mY M).cls ix arraycopyName ∈ TT) (w1 : Cond.native arraycopyName ∈ TT) (w2 : Cond.static arraycopyName ∈ TT) (w3 : Cond.initialized "java/lang/System" ∈ TT) (hb : libOk M st c sl (nativeFrameWords "java/lang/System" "arraycopy" 5 + 11) = true)
    (hT0 : h.2.2.2.1[k0]? = some (1, n0)) (hT1 : h.2.2.2.1[k1]? = some (1, n1)) (h1 : ¬ sp < 0) (h2 : ¬ dp < 0) (h3 : ¬ n < 0) (h4 : sp.toNatClampNeg + n.toNatClampNeg ≤ n0) (h5 : dp.toNatClampNeg + n.toNatClampNeg ≤ n1)
    (kk : Z g M c sl nx L st (cpy2 h.1 k0 k1 sp.toNatClampNeg dp.toNatClampNeg n.toNatClampNeg, h.2) Q) : Z g M c sl pc L (.int n :: .int dp :: .ref k1 :: .int sp :: .ref k0 :: st) h Q := by
  intro p e s m args below meth cd hC H locs ls hR
  obtain ⟨hd, hn, ht⟩ := fI_ok hC.2.2.2.2.2.2.2.2.2.2.1 hi
  subst hn
  simp only [libOk, Bool.and_eq_true] at hb
  have hts := hC.2.2.2.2.2.2.2.1
  obtain ⟨hP, hS, hL, hx⟩ := hR
  refine va_copyi hC.1 hC.2.1 (hC.2.2.1.trans hL.1.symm) hC.2.2.2.2.2.2.1 (hts _ hl) (hts _ w1) (hts _ w2) (hts _ w3) hC.2.2.2.2.2.2.2.2.1.1 hP mD hS k0 k1 0 0 (mws_at hT0) (mws_at hT1) rfl rfl rfl h1 h2 h3 h4 h5 (fun i _ => rfl) (Nat.le_of_ble_eq_true hb.1) (by rw [cats]; exact Nat.le_of_ble_eq_true hb.2.1) hd ?_
  intro H1 locs1 hP1 _ hS1
  refine kk p e s m args below meth cd hC H1 locs1 ls ⟨?_, hS1, hL, hx⟩
  rw [mws_set (g := g) (h := h) (h' := (cpy2 h.1 k0 k1 sp.toNatClampNeg dp.toNatClampNeg n.toNatClampNeg, h.2)) rfl hT1 ?_ ?_] at hP1
  · exact hP1
  · show mce g (cpy2 h.1 k0 k1 sp.toNatClampNeg dp.toNatClampNeg n.toNatClampNeg, h.2) k1 (1, n1) = _
    simp only [mce, cpy2_row]
  · intro j' ct' hj'
    refine mce_cg ?_ ?_ ?_ ct' <;> first | rfl | exact cpy2_ne _ _ _ _ _ _ _ hj'
/-! making -/
def rs2 {α : Type} (S : Nat → Nat → α) (k : Nat) (f : Nat → α) : Nat → Nat → α := fun a => if a = k then f else S a
def newH (h : Hp) (ct : Nat × Nat) : Hp := (rs2 h.1 h.2.2.2.1.length (fun _ => 0), rs2 h.2.1 h.2.2.2.1.length (fun _ => 0), rs2 h.2.2.1 h.2.2.2.1.length (fun _ => none), h.2.2.2.1 ++ [ct], h.2.2.2.2)
theorem mws_new (g : Gm) (h : Hp) (ct : Nat × Nat) : mws g (newH h ct) = mws g h ++ [(g_o g + h.2.2.2.1.length, mce g (newH h ct) h.2.2.2.1.length ct)] := by
  apply List.ext_getElem?
  intro i
  by_cases hi : i < h.2.2.2.1.length
  · obtain ⟨ct', hc⟩ : ∃ ct', h.2.2.2.1[i]? = some ct' := ⟨_, List.getElem?_eq_getElem hi⟩
    rw [List.getElem?_append_left (by rw [mws_len]; exact hi), mws_at hc, mws_at (h := newH h ct) (ct := ct') (by show (h.2.2.2.1 ++ [ct])[i]? = _; rw [List.getElem?_append_left hi]; exact hc)]
    have hne : i ≠ h.2.2.2.1.length := Nat.ne_of_lt hi
    rw [mce_cg (h := h) (h' := newH h ct) (by simp [newH, rs2, hne]) (by simp [newH, rs2, hne]) (by simp [newH, rs2, hne])]
  · by_cases he : i = h.2.2.2.1.length
    · subst he
      rw [mws_at (h := newH h ct) (ct := ct) (by show (h.2.2.2.1 ++ [ct])[_]? = _; simp), List.getElem?_append_right (by rw [mws_len]; exact Nat.le_refl _), mws_len, Nat.sub_self]
      rfl
    · rw [List.getElem?_eq_none (by rw [mws_len]; show (h.2.2.2.1 ++ [ct]).length ≤ i; simp; omega), List.getElem?_eq_none (by simp [mws_len]; omega)]
/-- where the next cell comes to lie -/
theorem z_at {p : Program} {e : Env} {s : State} {m : MethodId} {args : Array Value} {below : List Frame} {meth : Method} {cd : Code} (hC : Cx g M p s m args meth cd) {locs : List Loc} {ls : Array Slot} {T : State} (hR : Rl g M c h L s T.heap locs ls) (X : Stand p (g_l g) e (mM M) s m args below meth cd T locs c sl) (hx : h.2.2.2.2 = true) : T.heap.size = g_o g + h.2.2.2.1.length := by
  have q1 := hR.2.2.2 hx
  have q2 := X.heapSize
  have q3 := mws_size hR.1 (Nat.le_trans hC.2.2.2.2.2.2.2.2.2.1.2.2.2.2.1 hR.2.1.1)
  omega
theorem va_P.push1 {D : va_G} {cl : List vw_C} {ws : va_W} {H H1 : Heap} {q : Nat × va_E} (hP : va_P D cl ws H) (o1 : ∀ a : Nat, a < H.size → H1[a]? = H[a]?) (he : va_at D cl q H1) : va_P D cl (ws ++ [q]) H1 := by
  refine (hP.kept fun k x hx => o1 x.1 ((hP k x hx).lt)).app (fun k x hx => ?_)
  have hz : k < 1 := (List.getElem?_eq_some_iff.mp hx).1
  rw [show k = 0 by omega] at hx
  cases hx
  exact he
theorem va_S.grow {A : Nat → Prop} {H0 H H1 : Heap} {locs : List Loc} (hS : va_S A H0 H locs) (z1 : H1.size = H.size + 1) (o1 : ∀ a : Nat, a < H.size → H1[a]? = H[a]?) : va_S A H0 H1 locs :=
  ⟨Nat.le_trans hS.1 (by omega), fun x h1 h2 => (o1 x (Nat.lt_of_lt_of_le h1 hS.1)).trans (hS.2.1 x h1 h2), hS.2.2⟩
theorem z_new {ix ci : Nat} (hi : fI M pc = some (.new ix, 3, nx, tg)) (hci : ci < 8) (hw : Cond.classLink (mY M).cls ix (cC ci) ∈ TT) (h1 : Cond.instantiable (cC ci) (cN ci) ∈ TT) (h2 : Cond.initialized (cC ci) ∈ TT) (hx : h.2.2.2.2 = true) (hc : Nat.ble (c + 1) (mM M).cells = true) (hs : Nat.ble (sl + cN ci) (mM M).slots = true)
    (kk : Z g M (c + 1) (sl + cN ci) nx L (.ref h.2.2.2.1.length :: st) (newH h (0, ci)) Q) : Z g M c sl pc L st h Q := by
  intro p e s m args below meth cd hC H locs ls hR T hTH X
  obtain ⟨hd, hn, -⟩ := fI_ok hC.2.2.2.2.2.2.2.2.2.2.1 hi
  subst hn
  subst hTH
  have hsz := z_at hC hR X hx
  obtain ⟨hP, hS, hL, hxx⟩ := hR
  have hts := hC.2.2.2.2.2.2.2.1
  have hKn := hC.2.2.2.2.2.2.2.2.1.1.1 ci _ (kc ci hci)
  have K : W p (g_l g) e (mM M) s m args below meth cd T.heap locs c sl (MX below (QX g Q) args s (mM M).cells (mM M).slots (zA g)) (F0 m pc ls (st.map (tr g))) := by
    refine W.newcK hC.1 hC.2.1 hC.2.2.2.2.2.2.1 (hts _ hw) (hts _ h1) (hts _ h2) rfl hd (Nat.le_of_ble_eq_true hc) (Nat.le_of_ble_eq_true hs) hKn.2.1 hsz (fun H1 kC hkC e1 z1 o1 => ?_)
    rw [← hsz] at z1 o1
    refine kk p e s m args below meth cd hC H1 locs ls ⟨?_, hS.grow z1 o1, hL, fun q => ?_⟩
    · rw [mws_new]
      refine hP.push1 o1 ⟨_, kc ci hci, ?_⟩
      refine (u_born (cT ci) hts (kc_in ci hci) hKn hkC e1 (kc_ty ci hci)).to (fun j hj => ?_)
      show defaultValue (cT ci j) = vp_V (mfs (g_o g) ((newH h (0, ci)).1 h.2.2.2.1.length) ((newH h (0, ci)).2.2.1 h.2.2.2.1.length) 0 (fk ci)) j
      rw [show (newH h (0, ci)).1 h.2.2.2.1.length = fun _ => 0 by simp [newH, rs2], show (newH h (0, ci)).2.2.1 h.2.2.2.1.length = fun _ => none by simp [newH, rs2]]
      exact kc_def ci hci j hj (g_o g)
    · have q1 := hxx hx
      show s.heap.size + (c + 1) = g_o g + (h.2.2.2.1 ++ [(0, ci)]).length
      rw [List.length_append, List.length_singleton]
      omega
  exact K T rfl X
theorem z_newarr {at0 : ArrayType} {kd N : Nat} {n : Int32} (hi : fI M pc = some (.newarray at0, 2, nx, tg)) (ht0 : (at0, kd) = (.int, 1) ∨ (at0, kd) = (.boolean, 2) ∨ (at0, kd) = (.long, 3)) (hw : Cond.arrayClass (newarray.typeOf at0) ∈ TT) (hx : h.2.2.2.2 = true) (hn0 : ¬ n < 0) (hN : n.toNatClampNeg = N) (hN1 : Nat.ble N 1000 = true) (hc : Nat.ble (c + 1) (mM M).cells = true) (hs : Nat.ble (sl + N) (mM M).slots = true)
    (kk : Z g M (c + 1) (sl + N) nx L (.ref h.2.2.2.1.length :: st) (newH h (kd, N)) Q) : Z g M c sl pc L (.int n :: st) h Q := by
  intro p e s m args below meth cd hC H locs ls hR T hTH X
  obtain ⟨hd, hn, -⟩ := fI_ok hC.2.2.2.2.2.2.2.2.2.2.1 hi
  subst hn
  subst hTH
  have hsz := z_at hC hR X hx
  obtain ⟨hP, hS, hL, hxx⟩ := hR
  have hts := hC.2.2.2.2.2.2.2.1
  have hK := hC.2.2.2.2.2.2.2.2.1.1
  have hN2 := Nat.le_of_ble_eq_true hN1
  have hby : N * componentBytes (newarray.typeOf at0) ≤ 536870912 := by
    rcases ht0 with q | q | q <;> cases q <;> (simp only [newarray.typeOf, componentBytes]; omega)
  have K : W p (g_l g) e (mM M) s m args below meth cd T.heap locs c sl (MX below (QX g Q) args s (mM M).cells (mM M).slots (zA g)) (F0 m pc ls (.int n :: st.map (tr g))) := by
    refine va_newaK hC.1 hC.2.1 (hts _ hw) rfl hd rfl hn0 hN hby (Nat.le_of_ble_eq_true hc) (Nat.le_of_ble_eq_true hs) hsz (fun H1 cA e1 z1 o1 _ hNm => ?_)
    rw [← hsz] at z1 o1
    refine kk p e s m args below meth cd hC H1 locs ls ⟨?_, hS.grow z1 o1, hL, fun q => ?_⟩
    · rw [mws_new]
      refine hP.push1 o1 ?_
      rcases ht0 with q | q | q <;> cases q
      · have hA : cA = g_A g 0 := Option.some.inj (hNm.symm.trans (hK.2 0 _ rfl).2)
        subst hA
        show H1[g_o g + h.2.2.2.1.length]? = some (vp_cell (g_A g 0) (N, .inl ((newH h (1, N)).1 h.2.2.2.1.length)))
        rw [e1, vp_cell_i, show (newH h (1, N)).1 h.2.2.2.1.length = fun _ => 0 by simp [newH, rs2]]
        rfl
      · have hA : cA = g_A g 1 := Option.some.inj (hNm.symm.trans (hK.2 1 _ rfl).2)
        subst hA
        show H1[g_o g + h.2.2.2.1.length]? = some (vp_cell (g_A g 1) (N, .inl ((newH h (2, N)).1 h.2.2.2.1.length)))
        rw [e1, vp_cell_i, show (newH h (2, N)).1 h.2.2.2.1.length = fun _ => 0 by simp [newH, rs2]]
        rfl
      · have hA : cA = g_A g 2 := Option.some.inj (hNm.symm.trans (hK.2 2 _ rfl).2)
        subst hA
        show H1[g_o g + h.2.2.2.1.length]? = some (vp_cell (g_A g 2) (N, .inr (.inl ((newH h (3, N)).2.1 h.2.2.2.1.length))))
        rw [e1, vp_cell_l, show (newH h (3, N)).2.1 h.2.2.2.1.length = fun _ => 0 by simp [newH, rs2]]
        rfl
    · have q1 := hxx hx
      show s.heap.size + (c + 1) = g_o g + (h.2.2.2.1 ++ [(kd, N)]).length
      rw [List.length_append, List.length_singleton]
      omega
  exact K T rfl X
theorem z_anew {ix kd N : Nat} {n : Int32} {C : String} (hi : fI M pc = some (.anewarray ix, 3, nx, tg)) (hk : (kd = 4 ∧ C = R_Action) ∨ (kd = 5 ∧ C = R_Edit) ∨ (kd = 6 ∧ C = R_Item)) (hw : Cond.classLink (mY M).cls ix C ∈ TT) (hx : h.2.2.2.2 = true) (hn0 : ¬ n < 0) (hN : n.toNatClampNeg = N) (hN1 : Nat.ble N 1000 = true) (hc : Nat.ble (c + 1) (mM M).cells = true) (hs : Nat.ble (sl + N) (mM M).slots = true)
    (kk : Z g M (c + 1) (sl + N) nx L (.ref h.2.2.2.1.length :: st) (newH h (kd, N)) Q) : Z g M c sl pc L (.int n :: st) h Q := by
  intro p e s m args below meth cd hC H locs ls hR T hTH X
  obtain ⟨hd, hn, -⟩ := fI_ok hC.2.2.2.2.2.2.2.2.2.2.1 hi
  subst hn
  subst hTH
  subst hN
  have hsz := z_at hC hR X hx
  obtain ⟨hP, hS, hL, hxx⟩ := hR
  have hts := hC.2.2.2.2.2.2.2.1
  have hK := hC.2.2.2.2.2.2.2.2.1.1
  have hAO := hC.2.2.2.2.2.2.2.2.1.2.1
  have hN2 := Nat.le_of_ble_eq_true hN1
  have hov : (Cond.arrayOver (.object C)).before args s = true := by
    rcases hk with ⟨-, rfl⟩ | ⟨-, rfl⟩ | ⟨-, rfl⟩
    · exact va_AO.use hAO.1
    · exact va_AO.use hAO.2.1
    · exact va_AO.use hAO.2.2
  have K : W p (g_l g) e (mM M) s m args below meth cd T.heap locs c sl (MX below (QX g Q) args s (mM M).cells (mM M).slots (zA g)) (F0 m pc ls (.int n :: st.map (tr g))) := by
    refine W.anew hC.1 hC.2.1 hC.2.2.2.2.2.2.1 (hts _ hw) hov rfl hd rfl hn0 (by omega) (Nat.le_of_ble_eq_true hc) (Nat.le_of_ble_eq_true hs) (fun cA kA comp f1 f2 f3 f4 => ?_)
    generalize hH1 : T.heap.push ({ cls := cA, slots := Array.replicate n.toNatClampNeg .null, vm := .none } : Cell) = H1
    have z1 : H1.size = T.heap.size + 1 := by rw [← hH1, Array.size_push]
    have e1 : H1[T.heap.size]? = some (arrV cA n.toNatClampNeg (fun _ => .null)) := by rw [← hH1, Array.getElem?_push_size, ← arrV_new]
    have o1 : ∀ q : Nat, q < T.heap.size → H1[q]? = T.heap[q]? := fun q hq => by rw [← hH1, Array.getElem?_push, if_neg (Nat.ne_of_lt hq)]
    rw [hsz] at e1 ⊢
    refine kk p e s m args below meth cd hC H1 locs ls ⟨?_, hS.grow z1 o1, hL, fun q => ?_⟩
    · rw [mws_new]
      refine hP.push1 o1 ?_
      have hrow : ∀ kd', (newH h (kd', n.toNatClampNeg)).2.2.1 h.2.2.2.1.length = fun _ => none := fun kd' => by simp [newH, rs2]
      rcases hk with ⟨rfl, rfl⟩ | ⟨rfl, rfl⟩ | ⟨rfl, rfl⟩
      · obtain ⟨_, _, _, _, _, hNm⟩ := (hK.2 3 _ rfl).2
        have hA : cA = g_A g 3 := Option.some.inj (f1.symm.trans hNm)
        subst hA
        show H1[g_o g + h.2.2.2.1.length]? = some (vp_cell (g_A g 3) (n.toNatClampNeg, .inr (.inr (.inr (.inr (fun i => ((newH h (4, n.toNatClampNeg)).2.2.1 h.2.2.2.1.length i).map (g_o g + ·)))))))
        rw [e1, vp_cell_q, hrow]
        rfl
      · obtain ⟨_, _, _, _, _, hNm⟩ := (hK.2 4 _ rfl).2
        have hA : cA = g_A g 4 := Option.some.inj (f1.symm.trans hNm)
        subst hA
        show H1[g_o g + h.2.2.2.1.length]? = some (vp_cell (g_A g 4) (n.toNatClampNeg, .inr (.inr (.inr (.inr (fun i => ((newH h (5, n.toNatClampNeg)).2.2.1 h.2.2.2.1.length i).map (g_o g + ·)))))))
        rw [e1, vp_cell_q, hrow]
        rfl
      · obtain ⟨_, _, _, _, _, hNm⟩ := (hK.2 5 _ rfl).2
        have hA : cA = g_A g 5 := Option.some.inj (f1.symm.trans hNm)
        subst hA
        show H1[g_o g + h.2.2.2.1.length]? = some (vp_cell (g_A g 5) (n.toNatClampNeg, .inr (.inr (.inr (.inr (fun i => ((newH h (6, n.toNatClampNeg)).2.2.1 h.2.2.2.1.length i).map (g_o g + ·)))))))
        rw [e1, vp_cell_q, hrow]
        rfl
    · have q1 := hxx hx
      show s.heap.size + (c + 1) = g_o g + (h.2.2.2.1 ++ [(kd, n.toNatClampNeg)]).length
      rw [List.length_append, List.length_singleton]
      omega
  exact K T rfl X
/-- nothing more will be made: the places of new cells need no longer be known -/
theorem z_froz (k : Z g M c sl pc L st (h.1, h.2.1, h.2.2.1, h.2.2.2.1, false) Q) : Z g M c sl pc L st h Q := by
  intro p e s m args below meth cd hC H locs ls hR
  exact k p e s m args below meth cd hC H locs ls ⟨hR.1, hR.2.1, hR.2.2.1, fun q => by cases q⟩
end ZM
/-! calls by kind of answer, where nothing is made: the rest G of the picture stays -/
def Qi (G : Gp) (post : Int32 → Mem → Prop) (ex : Nat → Mem → Prop) : Rs → Hp → Prop := fun r h => (∃ (x : Int32) (S : Mem), r = .inl (some (.int x)) ∧ h = (S, G) ∧ post x S) ∨ ∃ (n : Nat) (S : Mem), r = .inr n ∧ h = (S, G) ∧ ex n S
def Ql (G : Gp) (post : Int64 → Mem → Prop) (ex : Nat → Mem → Prop) : Rs → Hp → Prop := fun r h => (∃ (x : Int64) (S : Mem), r = .inl (some (.long x)) ∧ h = (S, G) ∧ post x S) ∨ ∃ (n : Nat) (S : Mem), r = .inr n ∧ h = (S, G) ∧ ex n S
def Qr (G : Gp) (post : Nat → Mem → Prop) (ex : Nat → Mem → Prop) : Rs → Hp → Prop := fun r h => (∃ (x : Nat) (S : Mem), r = .inl (some (.ref x)) ∧ h = (S, G) ∧ post x S) ∨ ∃ (n : Nat) (S : Mem), r = .inr n ∧ h = (S, G) ∧ ex n S
def Qv (G : Gp) (post : Mem → Prop) (ex : Nat → Mem → Prop) : Rs → Hp → Prop := fun r h => (∃ S : Mem, r = .inl none ∧ h = (S, G) ∧ post S) ∨ ∃ (n : Nat) (S : Mem), r = .inr n ∧ h = (S, G) ∧ ex n S
abbrev noEx : Nat → Mem → Prop := fun _ _ => False
/-- what an instance method, a static method must have to be called -/
def CV (M : MI) (n : Nat) : Prop := CO M ∧ Cond.instanceMethod (mY M) ∈ TT ∧ Cond.selects (mY M).cls (mY M) (mY M) ∈ TT ∧ (parseMethodDescriptor (mY M).desc).map (fun d => d.parameters.length) = some n
def CS (M : MI) (n : Nat) : Prop := CO M ∧ Cond.static (mY M) ∈ TT ∧ (parseMethodDescriptor (mY M).desc).map (fun d => d.parameters.length) = some n
section ZK
variable {g : Gm} {M : MI} {c sl pc nx tg : Nat} {L : List (Option Value)} {st : List Value} {S : Mem} {G : Gp} {Q : Rs → Hp → Prop}
theorem z_cvi {M' : MI} {ix k ci : Nat} {post : Int32 → Mem → Prop} {ex : Nat → Mem → Prop} (as : List Value) (hx : G.2.2.2 = false) (hi : fI M pc = some (.invokevirtual ix, 3, nx, tg)) (hl : Cond.methodLink (mY M).cls ix (mY M') ∈ TT) (hV : CV M' as.length) (hT : G.2.2.1[k]? = some (0, ci)) (hci : ci < 8) (hcc : cC ci = (mY M').cls)
    (hlen : Nat.ble (entL (.ref k :: as)).length (mL M') = true) (hrm : rmOk M M' c sl = true) (hst : Nat.ble (st.map Value.category).sum 8 = true)
    (callee : Z g M' 0 0 0 (entryL (.ref k :: as) (mL M')) [] (S, G) (Qi G post ex)) (kr : ∀ (x : Int32) (S' : Mem), post x S' → Z g M (c + (mM M').cells) (sl + (mM M').slots) nx L (.int x :: st) (S', G) Q) (kt : ∀ (n : Nat) (S' : Mem), ex n S' → mX M = [] ∧ Q (.inr n) (S', G)) : Z g M c sl pc L (as.reverse ++ .ref k :: st) (S, G) Q :=
  z_cv as hi hl hV.1 hV.2.1 hV.2.2.1 hV.2.2.2 hT hci hcc hlen hrm hst callee
    (by
      rintro r h' (⟨x, S', -, rfl, -⟩ | ⟨n, S', -, rfl, -⟩) hq <;> exact absurd (hx.symm.trans hq) (by decide))
    (by
      rintro v h' (⟨x, S', hv, rfl, hp⟩ | ⟨n, S', hv, -, -⟩)
      · cases hv
        exact kr x S' hp
      · cases hv)
    (by
      rintro n h' (⟨x, S', hv, -, -⟩ | ⟨n', S', hv, rfl, hp⟩)
      · cases hv
      · cases hv
        exact kt n S' hp)
theorem z_csi {M' : MI} {ix : Nat} {post : Int32 → Mem → Prop} {ex : Nat → Mem → Prop} (as : List Value) (hx : G.2.2.2 = false) (hi : fI M pc = some (.invokestatic ix, 3, nx, tg)) (hl : Cond.methodLink (mY M).cls ix (mY M') ∈ TT) (hV : CS M' as.length)
    (hlen : Nat.ble (entL as).length (mL M') = true) (hrm : rmOk M M' c sl = true) (hst : Nat.ble (st.map Value.category).sum 8 = true)
    (callee : Z g M' 0 0 0 (entryL as (mL M')) [] (S, G) (Qi G post ex)) (kr : ∀ (x : Int32) (S' : Mem), post x S' → Z g M (c + (mM M').cells) (sl + (mM M').slots) nx L (.int x :: st) (S', G) Q) (kt : ∀ (n : Nat) (S' : Mem), ex n S' → mX M = [] ∧ Q (.inr n) (S', G)) : Z g M c sl pc L (as.reverse ++ st) (S, G) Q :=
  z_cs as hi hl hV.1 hV.2.1 hV.2.2 hlen hrm hst callee
    (by
      rintro r h' (⟨x, S', -, rfl, -⟩ | ⟨n, S', -, rfl, -⟩) hq <;> exact absurd (hx.symm.trans hq) (by decide))
    (by
      rintro v h' (⟨x, S', hv, rfl, hp⟩ | ⟨n, S', hv, -, -⟩)
      · cases hv
        exact kr x S' hp
      · cases hv)
    (by
      rintro n h' (⟨x, S', hv, -, -⟩ | ⟨n', S', hv, rfl, hp⟩)
      · cases hv
      · cases hv
        exact kt n S' hp)
theorem z_cvl {M' : MI} {ix k ci : Nat} {post : Int64 → Mem → Prop} {ex : Nat → Mem → Prop} (as : List Value) (hx : G.2.2.2 = false) (hi : fI M pc = some (.invokevirtual ix, 3, nx, tg)) (hl : Cond.methodLink (mY M).cls ix (mY M') ∈ TT) (hV : CV M' as.length) (hT : G.2.2.1[k]? = some (0, ci)) (hci : ci < 8) (hcc : cC ci = (mY M').cls)
    (hlen : Nat.ble (entL (.ref k :: as)).length (mL M') = true) (hrm : rmOk M M' c sl = true) (hst : Nat.ble (st.map Value.category).sum 8 = true)
    (callee : Z g M' 0 0 0 (entryL (.ref k :: as) (mL M')) [] (S, G) (Ql G post ex)) (kr : ∀ (x : Int64) (S' : Mem), post x S' → Z g M (c + (mM M').cells) (sl + (mM M').slots) nx L (.long x :: st) (S', G) Q) (kt : ∀ (n : Nat) (S' : Mem), ex n S' → mX M = [] ∧ Q (.inr n) (S', G)) : Z g M c sl pc L (as.reverse ++ .ref k :: st) (S, G) Q :=
  z_cv as hi hl hV.1 hV.2.1 hV.2.2.1 hV.2.2.2 hT hci hcc hlen hrm hst callee
    (by
      rintro r h' (⟨x, S', -, rfl, -⟩ | ⟨n, S', -, rfl, -⟩) hq <;> exact absurd (hx.symm.trans hq) (by decide))
    (by
      rintro v h' (⟨x, S', hv, rfl, hp⟩ | ⟨n, S', hv, -, -⟩)
      · cases hv
        exact kr x S' hp
      · cases hv)
    (by
      rintro n h' (⟨x, S', hv, -, -⟩ | ⟨n', S', hv, rfl, hp⟩)
      · cases hv
      · cases hv
        exact kt n S' hp)
theorem z_csl {M' : MI} {ix : Nat} {post : Int64 → Mem → Prop} {ex : Nat → Mem → Prop} (as : List Value) (hx : G.2.2.2 = false) (hi : fI M pc = some (.invokestatic ix, 3, nx, tg)) (hl : Cond.methodLink (mY M).cls ix (mY M') ∈ TT) (hV : CS M' as.length)
    (hlen : Nat.ble (entL as).length (mL M') = true) (hrm : rmOk M M' c sl = true) (hst : Nat.ble (st.map Value.category).sum 8 = true)
    (callee : Z g M' 0 0 0 (entryL as (mL M')) [] (S, G) (Ql G post ex)) (kr : ∀ (x : Int64) (S' : Mem), post x S' → Z g M (c + (mM M').cells) (sl + (mM M').slots) nx L (.long x :: st) (S', G) Q) (kt : ∀ (n : Nat) (S' : Mem), ex n S' → mX M = [] ∧ Q (.inr n) (S', G)) : Z g M c sl pc L (as.reverse ++ st) (S, G) Q :=
  z_cs as hi hl hV.1 hV.2.1 hV.2.2 hlen hrm hst callee
    (by
      rintro r h' (⟨x, S', -, rfl, -⟩ | ⟨n, S', -, rfl, -⟩) hq <;> exact absurd (hx.symm.trans hq) (by decide))
    (by
      rintro v h' (⟨x, S', hv, rfl, hp⟩ | ⟨n, S', hv, -, -⟩)
      · cases hv
        exact kr x S' hp
      · cases hv)
    (by
      rintro n h' (⟨x, S', hv, -, -⟩ | ⟨n', S', hv, rfl, hp⟩)
      · cases hv
      · cases hv
        exact kt n S' hp)
theorem z_cvr {M' : MI} {ix k ci : Nat} {post : Nat → Mem → Prop} {ex : Nat → Mem → Prop} (as : List Value) (hx : G.2.2.2 = false) (hi : fI M pc = some (.invokevirtual ix, 3, nx, tg)) (hl : Cond.methodLink (mY M).cls ix (mY M') ∈ TT) (hV : CV M' as.length) (hT : G.2.2.1[k]? = some (0, ci)) (hci : ci < 8) (hcc : cC ci = (mY M').cls)
    (hlen : Nat.ble (entL (.ref k :: as)).length (mL M') = true) (hrm : rmOk M M' c sl = true) (hst : Nat.ble (st.map Value.category).sum 8 = true)
    (callee : Z g M' 0 0 0 (entryL (.ref k :: as) (mL M')) [] (S, G) (Qr G post ex)) (kr : ∀ (x : Nat) (S' : Mem), post x S' → Z g M (c + (mM M').cells) (sl + (mM M').slots) nx L (.ref x :: st) (S', G) Q) (kt : ∀ (n : Nat) (S' : Mem), ex n S' → mX M = [] ∧ Q (.inr n) (S', G)) : Z g M c sl pc L (as.reverse ++ .ref k :: st) (S, G) Q :=
  z_cv as hi hl hV.1 hV.2.1 hV.2.2.1 hV.2.2.2 hT hci hcc hlen hrm hst callee
    (by
      rintro r h' (⟨x, S', -, rfl, -⟩ | ⟨n, S', -, rfl, -⟩) hq <;> exact absurd (hx.symm.trans hq) (by decide))
    (by
      rintro v h' (⟨x, S', hv, rfl, hp⟩ | ⟨n, S', hv, -, -⟩)
      · cases hv
        exact kr x S' hp
      · cases hv)
    (by
      rintro n h' (⟨x, S', hv, -, -⟩ | ⟨n', S', hv, rfl, hp⟩)
      · cases hv
      · cases hv
        exact kt n S' hp)
theorem z_csr {M' : MI} {ix : Nat} {post : Nat → Mem → Prop} {ex : Nat → Mem → Prop} (as : List Value) (hx : G.2.2.2 = false) (hi : fI M pc = some (.invokestatic ix, 3, nx, tg)) (hl : Cond.methodLink (mY M).cls ix (mY M') ∈ TT) (hV : CS M' as.length)
    (hlen : Nat.ble (entL as).length (mL M') = true) (hrm : rmOk M M' c sl = true) (hst : Nat.ble (st.map Value.category).sum 8 = true)
    (callee : Z g M' 0 0 0 (entryL as (mL M')) [] (S, G) (Qr G post ex)) (kr : ∀ (x : Nat) (S' : Mem), post x S' → Z g M (c + (mM M').cells) (sl + (mM M').slots) nx L (.ref x :: st) (S', G) Q) (kt : ∀ (n : Nat) (S' : Mem), ex n S' → mX M = [] ∧ Q (.inr n) (S', G)) : Z g M c sl pc L (as.reverse ++ st) (S, G) Q :=
  z_cs as hi hl hV.1 hV.2.1 hV.2.2 hlen hrm hst callee
    (by
      rintro r h' (⟨x, S', -, rfl, -⟩ | ⟨n, S', -, rfl, -⟩) hq <;> exact absurd (hx.symm.trans hq) (by decide))
    (by
      rintro v h' (⟨x, S', hv, rfl, hp⟩ | ⟨n, S', hv, -, -⟩)
      · cases hv
        exact kr x S' hp
      · cases hv)
    (by
      rintro n h' (⟨x, S', hv, -, -⟩ | ⟨n', S', hv, rfl, hp⟩)
      · cases hv
      · cases hv
        exact kt n S' hp)
theorem z_cvv {M' : MI} {ix k ci : Nat} {post : Mem → Prop} {ex : Nat → Mem → Prop} (as : List Value) (hx : G.2.2.2 = false) (hi : fI M pc = some (.invokevirtual ix, 3, nx, tg)) (hl : Cond.methodLink (mY M).cls ix (mY M') ∈ TT) (hV : CV M' as.length) (hT : G.2.2.1[k]? = some (0, ci)) (hci : ci < 8) (hcc : cC ci = (mY M').cls)
    (hlen : Nat.ble (entL (.ref k :: as)).length (mL M') = true) (hrm : rmOk M M' c sl = true) (hst : Nat.ble (st.map Value.category).sum 8 = true)
    (callee : Z g M' 0 0 0 (entryL (.ref k :: as) (mL M')) [] (S, G) (Qv G post ex)) (kr : ∀ S' : Mem, post S' → Z g M (c + (mM M').cells) (sl + (mM M').slots) nx L st (S', G) Q) (kt : ∀ (n : Nat) (S' : Mem), ex n S' → mX M = [] ∧ Q (.inr n) (S', G)) : Z g M c sl pc L (as.reverse ++ .ref k :: st) (S, G) Q :=
  z_cv as hi hl hV.1 hV.2.1 hV.2.2.1 hV.2.2.2 hT hci hcc hlen hrm hst callee
    (by
      rintro r h' (⟨S', -, rfl, -⟩ | ⟨n, S', -, rfl, -⟩) hq <;> exact absurd (hx.symm.trans hq) (by decide))
    (by
      rintro v h' (⟨S', hv, rfl, hp⟩ | ⟨n, S', hv, -, -⟩)
      · cases hv
        exact kr S' hp
      · cases hv)
    (by
      rintro n h' (⟨S', hv, -, -⟩ | ⟨n', S', hv, rfl, hp⟩)
      · cases hv
      · cases hv
        exact kt n S' hp)
theorem z_csv {M' : MI} {ix : Nat} {post : Mem → Prop} {ex : Nat → Mem → Prop} (as : List Value) (hx : G.2.2.2 = false) (hi : fI M pc = some (.invokestatic ix, 3, nx, tg)) (hl : Cond.methodLink (mY M).cls ix (mY M') ∈ TT) (hV : CS M' as.length)
    (hlen : Nat.ble (entL as).length (mL M') = true) (hrm : rmOk M M' c sl = true) (hst : Nat.ble (st.map Value.category).sum 8 = true)
    (callee : Z g M' 0 0 0 (entryL as (mL M')) [] (S, G) (Qv G post ex)) (kr : ∀ S' : Mem, post S' → Z g M (c + (mM M').cells) (sl + (mM M').slots) nx L st (S', G) Q) (kt : ∀ (n : Nat) (S' : Mem), ex n S' → mX M = [] ∧ Q (.inr n) (S', G)) : Z g M c sl pc L (as.reverse ++ st) (S, G) Q :=
  z_cs as hi hl hV.1 hV.2.1 hV.2.2 hlen hrm hst callee
    (by
      rintro r h' (⟨S', -, rfl, -⟩ | ⟨n, S', -, rfl, -⟩) hq <;> exact absurd (hx.symm.trans hq) (by decide))
    (by
      rintro v h' (⟨S', hv, rfl, hp⟩ | ⟨n, S', hv, -, -⟩)
      · cases hv
        exact kr S' hp
      · cases hv)
    (by
      rintro n h' (⟨S', hv, -, -⟩ | ⟨n', S', hv, rfl, hp⟩)
      · cases hv
      · cases hv
        exact kt n S' hp)
end ZK
end
section
/-! The lay of the cells that the law makes: the class's object at 0 (148 cells), the reference's at 148 (10 cells), the law's own array at 158 -/
def isI (G : Gp) (k : Nat) : Prop := G.2.2.1[k]? = some (0, 5)
def isE (G : Gp) (k : Nat) : Prop := G.2.2.1[k]? = some (0, 2)
def isA (G : Gp) (k : Nat) : Prop := G.2.2.1[k]? = some (0, 1) ∧ G.2.1 k 2 = some (k + 1) ∧ G.2.2.1[k + 1]? = some (1, 4)
def isIs (G : Gp) (k : Nat) : Prop := G.2.2.1[k]? = some (6, 24) ∧ ∀ j, j < 24 → G.2.1 k j = some (k + 1 + j) ∧ isI G (k + 1 + j)
def isRow (G : Gp) (k : Nat) : Prop := G.2.2.1[k]? = some (4, 24) ∧ ∀ j, j < 24 → G.2.1 k j = some (k + 1 + 2 * j) ∧ isA G (k + 1 + 2 * j)
def isRing (G : Gp) (k : Nat) : Prop := G.2.2.1[k]? = some (5, 32) ∧ ∀ j, j < 32 → G.2.1 k j = some (k + 1 + j) ∧ isE G (k + 1 + j)
def isH (G : Gp) (k : Nat) : Prop := G.2.2.1[k]? = some (0, 3) ∧ G.2.1 k 0 = some (k + 1) ∧ isRing G (k + 1)
def isW (G : Gp) (k : Nat) : Prop := G.2.2.1[k]? = some (0, 6) ∧ G.2.1 k 0 = some (k + 1) ∧ isIs G (k + 1) ∧ G.2.1 k 1 = some (k + 26) ∧ G.2.2.1[k + 26]? = some (1, 12) ∧ G.2.1 k 3 = some (k + 27) ∧ G.2.2.1[k + 27]? = some (1, 12)
def isO (G : Gp) (k : Nat) : Prop := G.2.2.1[k]? = some (0, 4) ∧ G.2.1 k 0 = some (k + 1) ∧ isW G (k + 1) ∧ G.2.1 k 1 = some (k + 29) ∧ G.2.2.1[k + 29]? = some (1, 24) ∧ G.2.1 k 2 = some (k + 30) ∧ G.2.2.1[k + 30]? = some (1, 24)
def isD (G : Gp) : Prop := G.2.2.1[0]? = some (0, 0) ∧ G.2.1 0 0 = some 1 ∧ isRow G 1 ∧ G.2.1 0 1 = some 50 ∧ isA G 50 ∧ G.2.1 0 2 = some 52 ∧ isH G 52 ∧ G.2.1 0 3 = some 86 ∧ isO G 86 ∧ G.2.1 0 4 = some 117 ∧ isO G 117
def isR (G : Gp) : Prop := G.2.2.1[148]? = some (0, 7) ∧ G.2.1 148 2 = some 149 ∧ G.2.2.1[149]? = some (1, 24) ∧ G.2.1 148 3 = some 150 ∧ G.2.2.1[150]? = some (1, 96) ∧ G.2.1 148 4 = some 151 ∧ G.2.2.1[151]? = some (2, 24) ∧ G.2.1 148 5 = some 152 ∧ G.2.2.1[152]? = some (1, 24) ∧ G.2.1 148 6 = some 153 ∧ G.2.2.1[153]? = some (1, 24) ∧ G.2.1 148 8 = some 154 ∧ G.2.2.1[154]? = some (1, 112) ∧ G.2.1 148 10 = some 155 ∧ G.2.2.1[155]? = some (1, 112) ∧ G.2.1 148 11 = some 156 ∧ G.2.2.1[156]? = some (1, 112) ∧ G.2.1 148 16 = some 157 ∧ G.2.2.1[157]? = some (1, 160)
theorem vlt {i : Int32} {n : Nat} (h : vp_in i n) : i.toNatClampNeg < n := Nat.lt_of_not_le fun q => h (Or.inr q)
theorem nar_of {x : Int32} (h : vp_nar .boolean x = x) : narrow .boolean (.int x) = .int x := by
  have h1 : narrow .boolean (.int x) = .int (vp_nar .boolean x) := rfl
  rw [h1, h]
theorem sw_out {d lo hi : Int} {offs : Array Int} {pc t : Nat} {x : Int32} (h : x.toInt < lo ∨ hi < x.toInt) (ht : (pc : Int) + d = (t : Int)) : swT (.tableswitch d lo hi offs) pc x = (t : Int) := by
  simp only [swT, if_pos h, ht]
theorem i32_of {x y : Int32} {n : Int} (h : x.toInt = n) (hy : y.toInt = n) : x = y := Int32.toInt_inj.mp (h.trans hy.symm)
theorem sw_eq {i : Instr} {pc : Nat} {x v : Int32} {t : Int} (h : x = v) (hs : swT i pc v = t) : swT i pc x = t := by
  rw [h]; exact hs
theorem lk_eq {d : Int} {ps : List (Int × Int)} {pc : Nat} {x v : Int32} {t : Int} (h : x = v) (hs : (pc : Int) + Op.lookupswitch.offset ps d v.toInt = t) : (pc : Int) + Op.lookupswitch.offset ps d x.toInt = t := by
  rw [h]; exact hs
theorem i32_ne {x y : Int32} (h : ¬ x = y) : ¬ y.toInt = x.toInt := fun q => h (Int32.toInt_inj.mp q.symm)
theorem lk_out2 {d a1 o1 a2 o2 : Int} {pc t : Nat} {x v1 v2 : Int32} (h1 : ¬ x = v1) (h2 : ¬ x = v2) (e1 : v1.toInt = a1) (e2 : v2.toInt = a2) (ht : (pc : Int) + d = (t : Int)) : (pc : Int) + Op.lookupswitch.offset [(a1, o1), (a2, o2)] d x.toInt = (t : Int) := by
  rw [Op.lookupswitch.offset_cons, if_neg (by rw [← e1]; exact i32_ne h1), Op.lookupswitch.offset_cons, if_neg (by rw [← e2]; exact i32_ne h2), Op.lookupswitch.offset_nil, ht]
theorem sw_0_2 {x : Int32} (h : ¬ (x.toInt < 0 ∨ 2 < x.toInt)) : x = 0 ∨ x = 1 ∨ x = 2 := by
  have h1 : x.toInt = 0 ∨ x.toInt = 1 ∨ x.toInt = 2 := by omega
  rcases h1 with h1 | h1 | h1
  · exact Or.inl (i32_of h1 (by decide))
  · exact Or.inr (Or.inl (i32_of h1 (by decide)))
  · exact Or.inr (Or.inr ((i32_of h1 (by decide))))
theorem sw_0_6 {x : Int32} (h : ¬ (x.toInt < 0 ∨ 6 < x.toInt)) : x = 0 ∨ x = 1 ∨ x = 2 ∨ x = 3 ∨ x = 4 ∨ x = 5 ∨ x = 6 := by
  have h1 : x.toInt = 0 ∨ x.toInt = 1 ∨ x.toInt = 2 ∨ x.toInt = 3 ∨ x.toInt = 4 ∨ x.toInt = 5 ∨ x.toInt = 6 := by omega
  rcases h1 with h1 | h1 | h1 | h1 | h1 | h1 | h1
  · exact Or.inl (i32_of h1 (by decide))
  · exact Or.inr (Or.inl (i32_of h1 (by decide)))
  · exact Or.inr (Or.inr (Or.inl (i32_of h1 (by decide))))
  · exact Or.inr (Or.inr (Or.inr (Or.inl (i32_of h1 (by decide)))))
  · exact Or.inr (Or.inr (Or.inr (Or.inr (Or.inl (i32_of h1 (by decide))))))
  · exact Or.inr (Or.inr (Or.inr (Or.inr (Or.inr (Or.inl (i32_of h1 (by decide)))))))
  · exact Or.inr (Or.inr (Or.inr (Or.inr (Or.inr (Or.inr ((i32_of h1 (by decide))))))))
theorem sw_0_8 {x : Int32} (h : ¬ (x.toInt < 0 ∨ 8 < x.toInt)) : x = 0 ∨ x = 1 ∨ x = 2 ∨ x = 3 ∨ x = 4 ∨ x = 5 ∨ x = 6 ∨ x = 7 ∨ x = 8 := by
  have h1 : x.toInt = 0 ∨ x.toInt = 1 ∨ x.toInt = 2 ∨ x.toInt = 3 ∨ x.toInt = 4 ∨ x.toInt = 5 ∨ x.toInt = 6 ∨ x.toInt = 7 ∨ x.toInt = 8 := by omega
  rcases h1 with h1 | h1 | h1 | h1 | h1 | h1 | h1 | h1 | h1
  · exact Or.inl (i32_of h1 (by decide))
  · exact Or.inr (Or.inl (i32_of h1 (by decide)))
  · exact Or.inr (Or.inr (Or.inl (i32_of h1 (by decide))))
  · exact Or.inr (Or.inr (Or.inr (Or.inl (i32_of h1 (by decide)))))
  · exact Or.inr (Or.inr (Or.inr (Or.inr (Or.inl (i32_of h1 (by decide))))))
  · exact Or.inr (Or.inr (Or.inr (Or.inr (Or.inr (Or.inl (i32_of h1 (by decide)))))))
  · exact Or.inr (Or.inr (Or.inr (Or.inr (Or.inr (Or.inr (Or.inl (i32_of h1 (by decide))))))))
  · exact Or.inr (Or.inr (Or.inr (Or.inr (Or.inr (Or.inr (Or.inr (Or.inl (i32_of h1 (by decide)))))))))
  · exact Or.inr (Or.inr (Or.inr (Or.inr (Or.inr (Or.inr (Or.inr (Or.inr ((i32_of h1 (by decide))))))))))
theorem sw_1_8 {x : Int32} (h : ¬ (x.toInt < 1 ∨ 8 < x.toInt)) : x = 1 ∨ x = 2 ∨ x = 3 ∨ x = 4 ∨ x = 5 ∨ x = 6 ∨ x = 7 ∨ x = 8 := by
  have h1 : x.toInt = 1 ∨ x.toInt = 2 ∨ x.toInt = 3 ∨ x.toInt = 4 ∨ x.toInt = 5 ∨ x.toInt = 6 ∨ x.toInt = 7 ∨ x.toInt = 8 := by omega
  rcases h1 with h1 | h1 | h1 | h1 | h1 | h1 | h1 | h1
  · exact Or.inl (i32_of h1 (by decide))
  · exact Or.inr (Or.inl (i32_of h1 (by decide)))
  · exact Or.inr (Or.inr (Or.inl (i32_of h1 (by decide))))
  · exact Or.inr (Or.inr (Or.inr (Or.inl (i32_of h1 (by decide)))))
  · exact Or.inr (Or.inr (Or.inr (Or.inr (Or.inl (i32_of h1 (by decide))))))
  · exact Or.inr (Or.inr (Or.inr (Or.inr (Or.inr (Or.inl (i32_of h1 (by decide)))))))
  · exact Or.inr (Or.inr (Or.inr (Or.inr (Or.inr (Or.inr (Or.inl (i32_of h1 (by decide))))))))
  · exact Or.inr (Or.inr (Or.inr (Or.inr (Or.inr (Or.inr (Or.inr ((i32_of h1 (by decide)))))))))
theorem sw_1_9 {x : Int32} (h : ¬ (x.toInt < 1 ∨ 9 < x.toInt)) : x = 1 ∨ x = 2 ∨ x = 3 ∨ x = 4 ∨ x = 5 ∨ x = 6 ∨ x = 7 ∨ x = 8 ∨ x = 9 := by
  have h1 : x.toInt = 1 ∨ x.toInt = 2 ∨ x.toInt = 3 ∨ x.toInt = 4 ∨ x.toInt = 5 ∨ x.toInt = 6 ∨ x.toInt = 7 ∨ x.toInt = 8 ∨ x.toInt = 9 := by omega
  rcases h1 with h1 | h1 | h1 | h1 | h1 | h1 | h1 | h1 | h1
  · exact Or.inl (i32_of h1 (by decide))
  · exact Or.inr (Or.inl (i32_of h1 (by decide)))
  · exact Or.inr (Or.inr (Or.inl (i32_of h1 (by decide))))
  · exact Or.inr (Or.inr (Or.inr (Or.inl (i32_of h1 (by decide)))))
  · exact Or.inr (Or.inr (Or.inr (Or.inr (Or.inl (i32_of h1 (by decide))))))
  · exact Or.inr (Or.inr (Or.inr (Or.inr (Or.inr (Or.inl (i32_of h1 (by decide)))))))
  · exact Or.inr (Or.inr (Or.inr (Or.inr (Or.inr (Or.inr (Or.inl (i32_of h1 (by decide))))))))
  · exact Or.inr (Or.inr (Or.inr (Or.inr (Or.inr (Or.inr (Or.inr (Or.inl (i32_of h1 (by decide)))))))))
  · exact Or.inr (Or.inr (Or.inr (Or.inr (Or.inr (Or.inr (Or.inr (Or.inr ((i32_of h1 (by decide))))))))))
theorem sw_2_6 {x : Int32} (h : ¬ (x.toInt < 2 ∨ 6 < x.toInt)) : x = 2 ∨ x = 3 ∨ x = 4 ∨ x = 5 ∨ x = 6 := by
  have h1 : x.toInt = 2 ∨ x.toInt = 3 ∨ x.toInt = 4 ∨ x.toInt = 5 ∨ x.toInt = 6 := by omega
  rcases h1 with h1 | h1 | h1 | h1 | h1
  · exact Or.inl (i32_of h1 (by decide))
  · exact Or.inr (Or.inl (i32_of h1 (by decide)))
  · exact Or.inr (Or.inr (Or.inl (i32_of h1 (by decide))))
  · exact Or.inr (Or.inr (Or.inr (Or.inl (i32_of h1 (by decide)))))
  · exact Or.inr (Or.inr (Or.inr (Or.inr ((i32_of h1 (by decide))))))
theorem sw_3_9 {x : Int32} (h : ¬ (x.toInt < 3 ∨ 9 < x.toInt)) : x = 3 ∨ x = 4 ∨ x = 5 ∨ x = 6 ∨ x = 7 ∨ x = 8 ∨ x = 9 := by
  have h1 : x.toInt = 3 ∨ x.toInt = 4 ∨ x.toInt = 5 ∨ x.toInt = 6 ∨ x.toInt = 7 ∨ x.toInt = 8 ∨ x.toInt = 9 := by omega
  rcases h1 with h1 | h1 | h1 | h1 | h1 | h1 | h1
  · exact Or.inl (i32_of h1 (by decide))
  · exact Or.inr (Or.inl (i32_of h1 (by decide)))
  · exact Or.inr (Or.inr (Or.inl (i32_of h1 (by decide))))
  · exact Or.inr (Or.inr (Or.inr (Or.inl (i32_of h1 (by decide)))))
  · exact Or.inr (Or.inr (Or.inr (Or.inr (Or.inl (i32_of h1 (by decide))))))
  · exact Or.inr (Or.inr (Or.inr (Or.inr (Or.inr (Or.inl (i32_of h1 (by decide)))))))
  · exact Or.inr (Or.inr (Or.inr (Or.inr (Or.inr (Or.inr ((i32_of h1 (by decide))))))))
end
section
set_option maxRecDepth 20000 in
theorem w_1 : (Jvm.Cond.initialized "AmendedDrawing") ∈ TT := tt_mem 1 rfl rfl
set_option maxRecDepth 20000 in
theorem w_2 : (Jvm.Cond.initialized "AmendedDrawing$Action") ∈ TT := tt_mem 2 rfl rfl
set_option maxRecDepth 20000 in
theorem w_3 : (Jvm.Cond.initialized "AmendedDrawing$History") ∈ TT := tt_mem 3 rfl rfl
set_option maxRecDepth 20000 in
theorem w_4 : (Jvm.Cond.initialized "AmendedDrawing$Edit") ∈ TT := tt_mem 4 rfl rfl
set_option maxRecDepth 20000 in
theorem w_5 : (Jvm.Cond.initialized "AmendedDrawing$Outcome") ∈ TT := tt_mem 5 rfl rfl
set_option maxRecDepth 20000 in
theorem w_6 : (Jvm.Cond.initialized "AmendedDrawing$Drawing") ∈ TT := tt_mem 6 rfl rfl
set_option maxRecDepth 20000 in
theorem w_7 : (Jvm.Cond.initialized "AmendedDrawing$Item") ∈ TT := tt_mem 7 rfl rfl
set_option maxRecDepth 20000 in
theorem w_8 : (Jvm.Cond.initialized "AmendedDrawingModel") ∈ TT := tt_mem 8 rfl rfl
set_option maxRecDepth 20000 in
theorem w_33 : (Jvm.Cond.fieldLink "AmendedDrawing$Action" (9 : Nat) "AmendedDrawing$Action" "kind" "I") ∈ TT := tt_mem 33 rfl rfl
set_option maxRecDepth 20000 in
theorem w_34 : (Jvm.Cond.fieldLink "AmendedDrawing$Drawing" (38 : Nat) "AmendedDrawing$Action" "kind" "I") ∈ TT := tt_mem 34 rfl rfl
set_option maxRecDepth 20000 in
theorem w_36 : (Jvm.Cond.fieldLink "AmendedDrawing$Action" (15 : Nat) "AmendedDrawing$Action" "withdrawn" "Z") ∈ TT := tt_mem 36 rfl rfl
set_option maxRecDepth 20000 in
theorem w_37 : (Jvm.Cond.fieldLink "AmendedDrawing$Outcome" (34 : Nat) "AmendedDrawing$Action" "withdrawn" "Z") ∈ TT := tt_mem 37 rfl rfl
set_option maxRecDepth 20000 in
theorem w_38 : (Jvm.Cond.fieldLink "AmendedDrawing" (84 : Nat) "AmendedDrawing$Action" "withdrawn" "Z") ∈ TT := tt_mem 38 rfl rfl
set_option maxRecDepth 20000 in
theorem w_39 : (Jvm.Cond.fieldLink "AmendedDrawing$Action" (19 : Nat) "AmendedDrawing$Action" "arguments" "[I") ∈ TT := tt_mem 39 rfl rfl
set_option maxRecDepth 20000 in
theorem w_40 : (Jvm.Cond.fieldLink "AmendedDrawing$Drawing" (33 : Nat) "AmendedDrawing$Action" "arguments" "[I") ∈ TT := tt_mem 40 rfl rfl
set_option maxRecDepth 20000 in
theorem w_41 : (Jvm.Cond.fieldLink "AmendedDrawing" (100 : Nat) "AmendedDrawing$Action" "arguments" "[I") ∈ TT := tt_mem 41 rfl rfl
set_option maxRecDepth 20000 in
theorem w_63 : (Jvm.Cond.fieldLink "AmendedDrawing$Edit" (7 : Nat) "AmendedDrawing$Edit" "kind" "I") ∈ TT := tt_mem 63 rfl rfl
set_option maxRecDepth 20000 in
theorem w_64 : (Jvm.Cond.fieldLink "AmendedDrawing" (116 : Nat) "AmendedDrawing$Edit" "kind" "I") ∈ TT := tt_mem 64 rfl rfl
set_option maxRecDepth 20000 in
theorem w_65 : (Jvm.Cond.fieldLink "AmendedDrawing$Edit" (13 : Nat) "AmendedDrawing$Edit" "action" "I") ∈ TT := tt_mem 65 rfl rfl
set_option maxRecDepth 20000 in
theorem w_66 : (Jvm.Cond.fieldLink "AmendedDrawing" (155 : Nat) "AmendedDrawing$Edit" "action" "I") ∈ TT := tt_mem 66 rfl rfl
set_option maxRecDepth 20000 in
theorem w_67 : (Jvm.Cond.fieldLink "AmendedDrawing$Edit" (16 : Nat) "AmendedDrawing$Edit" "argument" "I") ∈ TT := tt_mem 67 rfl rfl
set_option maxRecDepth 20000 in
theorem w_68 : (Jvm.Cond.fieldLink "AmendedDrawing" (158 : Nat) "AmendedDrawing$Edit" "argument" "I") ∈ TT := tt_mem 68 rfl rfl
set_option maxRecDepth 20000 in
theorem w_69 : (Jvm.Cond.fieldLink "AmendedDrawing$Edit" (19 : Nat) "AmendedDrawing$Edit" "before" "I") ∈ TT := tt_mem 69 rfl rfl
set_option maxRecDepth 20000 in
theorem w_70 : (Jvm.Cond.fieldLink "AmendedDrawing" (164 : Nat) "AmendedDrawing$Edit" "before" "I") ∈ TT := tt_mem 70 rfl rfl
set_option maxRecDepth 20000 in
theorem w_71 : (Jvm.Cond.fieldLink "AmendedDrawing$Edit" (22 : Nat) "AmendedDrawing$Edit" "after" "I") ∈ TT := tt_mem 71 rfl rfl
set_option maxRecDepth 20000 in
theorem w_72 : (Jvm.Cond.fieldLink "AmendedDrawing" (161 : Nat) "AmendedDrawing$Edit" "after" "I") ∈ TT := tt_mem 72 rfl rfl
set_option maxRecDepth 20000 in
theorem w_84 : (Jvm.Cond.fieldLink "AmendedDrawing$History" (11 : Nat) "AmendedDrawing$History" "ring" "[LAmendedDrawing$Edit;") ∈ TT := tt_mem 84 rfl rfl
set_option maxRecDepth 20000 in
theorem w_85 : (Jvm.Cond.fieldLink "AmendedDrawing$History" (18 : Nat) "AmendedDrawing$History" "first" "I") ∈ TT := tt_mem 85 rfl rfl
set_option maxRecDepth 20000 in
theorem w_86 : (Jvm.Cond.fieldLink "AmendedDrawing$History" (22 : Nat) "AmendedDrawing$History" "done" "I") ∈ TT := tt_mem 86 rfl rfl
set_option maxRecDepth 20000 in
theorem w_88 : (Jvm.Cond.fieldLink "AmendedDrawing$History" (25 : Nat) "AmendedDrawing$History" "undone" "I") ∈ TT := tt_mem 88 rfl rfl
set_option maxRecDepth 20000 in
theorem w_118 : (Jvm.Cond.fieldLink "AmendedDrawing$Item" (15 : Nat) "AmendedDrawing$Item" "there" "Z") ∈ TT := tt_mem 118 rfl rfl
set_option maxRecDepth 20000 in
theorem w_119 : (Jvm.Cond.fieldLink "AmendedDrawing$Drawing" (45 : Nat) "AmendedDrawing$Item" "there" "Z") ∈ TT := tt_mem 119 rfl rfl
set_option maxRecDepth 20000 in
theorem w_120 : (Jvm.Cond.fieldLink "AmendedDrawing$Item" (9 : Nat) "AmendedDrawing$Item" "form" "I") ∈ TT := tt_mem 120 rfl rfl
set_option maxRecDepth 20000 in
theorem w_121 : (Jvm.Cond.fieldLink "AmendedDrawing$Drawing" (80 : Nat) "AmendedDrawing$Item" "form" "I") ∈ TT := tt_mem 121 rfl rfl
set_option maxRecDepth 20000 in
theorem w_122 : (Jvm.Cond.fieldLink "AmendedDrawing$Item" (25 : Nat) "AmendedDrawing$Item" "left" "I") ∈ TT := tt_mem 122 rfl rfl
set_option maxRecDepth 20000 in
theorem w_123 : (Jvm.Cond.fieldLink "AmendedDrawing$Drawing" (151 : Nat) "AmendedDrawing$Item" "left" "I") ∈ TT := tt_mem 123 rfl rfl
set_option maxRecDepth 20000 in
theorem w_124 : (Jvm.Cond.fieldLink "AmendedDrawing$Item" (28 : Nat) "AmendedDrawing$Item" "top" "I") ∈ TT := tt_mem 124 rfl rfl
set_option maxRecDepth 20000 in
theorem w_125 : (Jvm.Cond.fieldLink "AmendedDrawing$Drawing" (154 : Nat) "AmendedDrawing$Item" "top" "I") ∈ TT := tt_mem 125 rfl rfl
set_option maxRecDepth 20000 in
theorem w_126 : (Jvm.Cond.fieldLink "AmendedDrawing$Item" (31 : Nat) "AmendedDrawing$Item" "width" "I") ∈ TT := tt_mem 126 rfl rfl
set_option maxRecDepth 20000 in
theorem w_127 : (Jvm.Cond.fieldLink "AmendedDrawing$Drawing" (157 : Nat) "AmendedDrawing$Item" "width" "I") ∈ TT := tt_mem 127 rfl rfl
set_option maxRecDepth 20000 in
theorem w_128 : (Jvm.Cond.fieldLink "AmendedDrawing$Item" (34 : Nat) "AmendedDrawing$Item" "height" "I") ∈ TT := tt_mem 128 rfl rfl
set_option maxRecDepth 20000 in
theorem w_129 : (Jvm.Cond.fieldLink "AmendedDrawing$Drawing" (160 : Nat) "AmendedDrawing$Item" "height" "I") ∈ TT := tt_mem 129 rfl rfl
set_option maxRecDepth 20000 in
theorem w_130 : (Jvm.Cond.fieldLink "AmendedDrawing$Item" (19 : Nat) "AmendedDrawing$Item" "colour" "I") ∈ TT := tt_mem 130 rfl rfl
set_option maxRecDepth 20000 in
theorem w_131 : (Jvm.Cond.fieldLink "AmendedDrawing$Drawing" (87 : Nat) "AmendedDrawing$Item" "colour" "I") ∈ TT := tt_mem 131 rfl rfl
set_option maxRecDepth 20000 in
theorem w_132 : (Jvm.Cond.fieldLink "AmendedDrawing$Item" (22 : Nat) "AmendedDrawing$Item" "parent" "I") ∈ TT := tt_mem 132 rfl rfl
set_option maxRecDepth 20000 in
theorem w_133 : (Jvm.Cond.fieldLink "AmendedDrawing$Drawing" (90 : Nat) "AmendedDrawing$Item" "parent" "I") ∈ TT := tt_mem 133 rfl rfl
set_option maxRecDepth 20000 in
theorem w_151 : (Jvm.Cond.fieldLink "AmendedDrawing$Drawing" (11 : Nat) "AmendedDrawing$Drawing" "items" "[LAmendedDrawing$Item;") ∈ TT := tt_mem 151 rfl rfl
set_option maxRecDepth 20000 in
theorem w_152 : (Jvm.Cond.fieldLink "AmendedDrawing" (145 : Nat) "AmendedDrawing$Drawing" "items" "[LAmendedDrawing$Item;") ∈ TT := tt_mem 152 rfl rfl
set_option maxRecDepth 20000 in
theorem w_153 : (Jvm.Cond.fieldLink "AmendedDrawing$Drawing" (18 : Nat) "AmendedDrawing$Drawing" "order" "[I") ∈ TT := tt_mem 153 rfl rfl
set_option maxRecDepth 20000 in
theorem w_154 : (Jvm.Cond.fieldLink "AmendedDrawing" (132 : Nat) "AmendedDrawing$Drawing" "order" "[I") ∈ TT := tt_mem 154 rfl rfl
set_option maxRecDepth 20000 in
theorem w_155 : (Jvm.Cond.fieldLink "AmendedDrawing$Drawing" (25 : Nat) "AmendedDrawing$Drawing" "size" "I") ∈ TT := tt_mem 155 rfl rfl
set_option maxRecDepth 20000 in
theorem w_156 : (Jvm.Cond.fieldLink "AmendedDrawing" (129 : Nat) "AmendedDrawing$Drawing" "size" "I") ∈ TT := tt_mem 156 rfl rfl
set_option maxRecDepth 20000 in
theorem w_157 : (Jvm.Cond.fieldLink "AmendedDrawing$Drawing" (22 : Nat) "AmendedDrawing$Drawing" "block" "[I") ∈ TT := tt_mem 157 rfl rfl
set_option maxRecDepth 20000 in
theorem w_167 : (Jvm.Cond.fieldLink "AmendedDrawing$Outcome" (12 : Nat) "AmendedDrawing$Outcome" "drawing" "LAmendedDrawing$Drawing;") ∈ TT := tt_mem 167 rfl rfl
set_option maxRecDepth 20000 in
theorem w_168 : (Jvm.Cond.fieldLink "AmendedDrawing" (52 : Nat) "AmendedDrawing$Outcome" "drawing" "LAmendedDrawing$Drawing;") ∈ TT := tt_mem 168 rfl rfl
set_option maxRecDepth 20000 in
theorem w_169 : (Jvm.Cond.fieldLink "AmendedDrawing$Outcome" (18 : Nat) "AmendedDrawing$Outcome" "effects" "[I") ∈ TT := tt_mem 169 rfl rfl
set_option maxRecDepth 20000 in
theorem w_170 : (Jvm.Cond.fieldLink "AmendedDrawing" (69 : Nat) "AmendedDrawing$Outcome" "effects" "[I") ∈ TT := tt_mem 170 rfl rfl
set_option maxRecDepth 20000 in
theorem w_171 : (Jvm.Cond.fieldLink "AmendedDrawing$Outcome" (22 : Nat) "AmendedDrawing$Outcome" "before" "[I") ∈ TT := tt_mem 171 rfl rfl
set_option maxRecDepth 20000 in
theorem w_172 : (Jvm.Cond.fieldLink "AmendedDrawing" (167 : Nat) "AmendedDrawing$Outcome" "before" "[I") ∈ TT := tt_mem 172 rfl rfl
set_option maxRecDepth 20000 in
theorem w_180 : (Jvm.Cond.fieldLink "AmendedDrawing" (11 : Nat) "AmendedDrawing" "row" "[LAmendedDrawing$Action;") ∈ TT := tt_mem 180 rfl rfl
set_option maxRecDepth 20000 in
theorem w_183 : (Jvm.Cond.fieldLink "AmendedDrawing" (30 : Nat) "AmendedDrawing" "now" "LAmendedDrawing$Outcome;") ∈ TT := tt_mem 183 rfl rfl
set_option maxRecDepth 20000 in
theorem w_185 : (Jvm.Cond.fieldLink "AmendedDrawing" (37 : Nat) "AmendedDrawing" "count" "I") ∈ TT := tt_mem 185 rfl rfl
set_option maxRecDepth 20000 in
theorem w_200 : (Jvm.Cond.instanceMethod ({ cls := "AmendedDrawing", name := "actions", desc := "()I" } : Jvm.MethodName)) ∈ TT := tt_mem 200 rfl rfl
set_option maxRecDepth 20000 in
theorem w_201 : (Jvm.Cond.selects "AmendedDrawing" ({ cls := "AmendedDrawing", name := "actions", desc := "()I" } : Jvm.MethodName) ({ cls := "AmendedDrawing", name := "actions", desc := "()I" } : Jvm.MethodName)) ∈ TT := tt_mem 201 rfl rfl
set_option maxRecDepth 20000 in
theorem w_202 : (Jvm.Cond.code ({ cls := "AmendedDrawing", name := "actions", desc := "()I" } : Jvm.MethodName) prog_1_method_8_code (1 : Nat) (Option.some Jvm.ClassFile.FieldType.int)) ∈ TT := tt_mem 202 rfl rfl
set_option maxRecDepth 20000 in
theorem w_204 : (Jvm.Cond.instanceMethod ({ cls := "AmendedDrawing", name := "objects", desc := "()I" } : Jvm.MethodName)) ∈ TT := tt_mem 204 rfl rfl
set_option maxRecDepth 20000 in
theorem w_205 : (Jvm.Cond.selects "AmendedDrawing" ({ cls := "AmendedDrawing", name := "objects", desc := "()I" } : Jvm.MethodName) ({ cls := "AmendedDrawing", name := "objects", desc := "()I" } : Jvm.MethodName)) ∈ TT := tt_mem 205 rfl rfl
set_option maxRecDepth 20000 in
theorem w_206 : (Jvm.Cond.code ({ cls := "AmendedDrawing", name := "objects", desc := "()I" } : Jvm.MethodName) prog_1_method_13_code (1 : Nat) (Option.some Jvm.ClassFile.FieldType.int)) ∈ TT := tt_mem 206 rfl rfl
set_option maxRecDepth 20000 in
theorem w_208 : (Jvm.Cond.instanceMethod ({ cls := "AmendedDrawing", name := "hit", desc := "(II)I" } : Jvm.MethodName)) ∈ TT := tt_mem 208 rfl rfl
set_option maxRecDepth 20000 in
theorem w_209 : (Jvm.Cond.selects "AmendedDrawing" ({ cls := "AmendedDrawing", name := "hit", desc := "(II)I" } : Jvm.MethodName) ({ cls := "AmendedDrawing", name := "hit", desc := "(II)I" } : Jvm.MethodName)) ∈ TT := tt_mem 209 rfl rfl
set_option maxRecDepth 20000 in
theorem w_210 : (Jvm.Cond.code ({ cls := "AmendedDrawing", name := "hit", desc := "(II)I" } : Jvm.MethodName) prog_1_method_15_code (3 : Nat) (Option.some Jvm.ClassFile.FieldType.int)) ∈ TT := tt_mem 210 rfl rfl
set_option maxRecDepth 20000 in
theorem w_211 : (Jvm.Cond.methodLink "AmendedDrawing" (139 : Nat) ({ cls := "AmendedDrawing$Drawing", name := "topShapeAt", desc := "(II)I" } : Jvm.MethodName)) ∈ TT := tt_mem 211 rfl rfl
set_option maxRecDepth 20000 in
theorem w_212 : (Jvm.Cond.instanceMethod ({ cls := "AmendedDrawing$Drawing", name := "topShapeAt", desc := "(II)I" } : Jvm.MethodName)) ∈ TT := tt_mem 212 rfl rfl
set_option maxRecDepth 20000 in
theorem w_213 : (Jvm.Cond.selects "AmendedDrawing$Drawing" ({ cls := "AmendedDrawing$Drawing", name := "topShapeAt", desc := "(II)I" } : Jvm.MethodName) ({ cls := "AmendedDrawing$Drawing", name := "topShapeAt", desc := "(II)I" } : Jvm.MethodName)) ∈ TT := tt_mem 213 rfl rfl
set_option maxRecDepth 20000 in
theorem w_214 : (Jvm.Cond.code ({ cls := "AmendedDrawing$Drawing", name := "topShapeAt", desc := "(II)I" } : Jvm.MethodName) prog_3_method_5_code (4 : Nat) (Option.some Jvm.ClassFile.FieldType.int)) ∈ TT := tt_mem 214 rfl rfl
set_option maxRecDepth 20000 in
theorem w_215 : (Jvm.Cond.methodLink "AmendedDrawing$Drawing" (93 : Nat) ({ cls := "AmendedDrawing$Item", name := "covers", desc := "(II)Z" } : Jvm.MethodName)) ∈ TT := tt_mem 215 rfl rfl
set_option maxRecDepth 20000 in
theorem w_216 : (Jvm.Cond.instanceMethod ({ cls := "AmendedDrawing$Item", name := "covers", desc := "(II)Z" } : Jvm.MethodName)) ∈ TT := tt_mem 216 rfl rfl
set_option maxRecDepth 20000 in
theorem w_217 : (Jvm.Cond.selects "AmendedDrawing$Item" ({ cls := "AmendedDrawing$Item", name := "covers", desc := "(II)Z" } : Jvm.MethodName) ({ cls := "AmendedDrawing$Item", name := "covers", desc := "(II)Z" } : Jvm.MethodName)) ∈ TT := tt_mem 217 rfl rfl
set_option maxRecDepth 20000 in
theorem w_218 : (Jvm.Cond.code ({ cls := "AmendedDrawing$Item", name := "covers", desc := "(II)Z" } : Jvm.MethodName) prog_6_method_12_code (5 : Nat) (Option.some Jvm.ClassFile.FieldType.boolean)) ∈ TT := tt_mem 218 rfl rfl
set_option maxRecDepth 20000 in
theorem w_219 : (Jvm.Cond.methodLink "AmendedDrawing$Item" (53 : Nat) ({ cls := "AmendedDrawing$Item", name := "isShape", desc := "()Z" } : Jvm.MethodName)) ∈ TT := tt_mem 219 rfl rfl
set_option maxRecDepth 20000 in
theorem w_220 : (Jvm.Cond.instanceMethod ({ cls := "AmendedDrawing$Item", name := "isShape", desc := "()Z" } : Jvm.MethodName)) ∈ TT := tt_mem 220 rfl rfl
set_option maxRecDepth 20000 in
theorem w_221 : (Jvm.Cond.selects "AmendedDrawing$Item" ({ cls := "AmendedDrawing$Item", name := "isShape", desc := "()Z" } : Jvm.MethodName) ({ cls := "AmendedDrawing$Item", name := "isShape", desc := "()Z" } : Jvm.MethodName)) ∈ TT := tt_mem 221 rfl rfl
set_option maxRecDepth 20000 in
theorem w_222 : (Jvm.Cond.code ({ cls := "AmendedDrawing$Item", name := "isShape", desc := "()Z" } : Jvm.MethodName) prog_6_method_2_code (1 : Nat) (Option.some Jvm.ClassFile.FieldType.boolean)) ∈ TT := tt_mem 222 rfl rfl
set_option maxRecDepth 20000 in
theorem w_223 : (Jvm.Cond.methodLink "AmendedDrawing$Item" (57 : Nat) ({ cls := "AmendedDrawing$Item", name := "ellipseReaches", desc := "(JJ)Z" } : Jvm.MethodName)) ∈ TT := tt_mem 223 rfl rfl
set_option maxRecDepth 20000 in
theorem w_225 : (Jvm.Cond.instanceMethod ({ cls := "AmendedDrawing$Item", name := "ellipseReaches", desc := "(JJ)Z" } : Jvm.MethodName)) ∈ TT := tt_mem 225 rfl rfl
set_option maxRecDepth 20000 in
theorem w_226 : (Jvm.Cond.code ({ cls := "AmendedDrawing$Item", name := "ellipseReaches", desc := "(JJ)Z" } : Jvm.MethodName) prog_6_method_13_code (9 : Nat) (Option.some Jvm.ClassFile.FieldType.boolean)) ∈ TT := tt_mem 226 rfl rfl
set_option maxRecDepth 20000 in
theorem w_227 : (Jvm.Cond.methodLink "AmendedDrawing$Item" (61 : Nat) ({ cls := "java/lang/Math", name := "abs", desc := "(I)I" } : Jvm.MethodName)) ∈ TT := tt_mem 227 rfl rfl
set_option maxRecDepth 20000 in
theorem w_231 : (Jvm.Cond.instanceMethod ({ cls := "AmendedDrawing", name := "inside", desc := "(IIIII)I" } : Jvm.MethodName)) ∈ TT := tt_mem 231 rfl rfl
set_option maxRecDepth 20000 in
theorem w_232 : (Jvm.Cond.selects "AmendedDrawing" ({ cls := "AmendedDrawing", name := "inside", desc := "(IIIII)I" } : Jvm.MethodName) ({ cls := "AmendedDrawing", name := "inside", desc := "(IIIII)I" } : Jvm.MethodName)) ∈ TT := tt_mem 232 rfl rfl
set_option maxRecDepth 20000 in
theorem w_233 : (Jvm.Cond.code ({ cls := "AmendedDrawing", name := "inside", desc := "(IIIII)I" } : Jvm.MethodName) prog_1_method_17_code (9 : Nat) (Option.some Jvm.ClassFile.FieldType.int)) ∈ TT := tt_mem 233 rfl rfl
set_option maxRecDepth 20000 in
theorem w_234 : (Jvm.Cond.methodLink "AmendedDrawing" (149 : Nat) ({ cls := "AmendedDrawing$Item", name := "liesIn", desc := "(IIII)Z" } : Jvm.MethodName)) ∈ TT := tt_mem 234 rfl rfl
set_option maxRecDepth 20000 in
theorem w_235 : (Jvm.Cond.instanceMethod ({ cls := "AmendedDrawing$Item", name := "liesIn", desc := "(IIII)Z" } : Jvm.MethodName)) ∈ TT := tt_mem 235 rfl rfl
set_option maxRecDepth 20000 in
theorem w_236 : (Jvm.Cond.selects "AmendedDrawing$Item" ({ cls := "AmendedDrawing$Item", name := "liesIn", desc := "(IIII)Z" } : Jvm.MethodName) ({ cls := "AmendedDrawing$Item", name := "liesIn", desc := "(IIII)Z" } : Jvm.MethodName)) ∈ TT := tt_mem 236 rfl rfl
set_option maxRecDepth 20000 in
theorem w_237 : (Jvm.Cond.code ({ cls := "AmendedDrawing$Item", name := "liesIn", desc := "(IIII)Z" } : Jvm.MethodName) prog_6_method_11_code (5 : Nat) (Option.some Jvm.ClassFile.FieldType.boolean)) ∈ TT := tt_mem 237 rfl rfl
set_option maxRecDepth 20000 in
theorem w_244 : (Jvm.Cond.instanceMethod ({ cls := "AmendedDrawing", name := "commit", desc := "(IIIII)I" } : Jvm.MethodName)) ∈ TT := tt_mem 244 rfl rfl
set_option maxRecDepth 20000 in
theorem w_245 : (Jvm.Cond.selects "AmendedDrawing" ({ cls := "AmendedDrawing", name := "commit", desc := "(IIIII)I" } : Jvm.MethodName) ({ cls := "AmendedDrawing", name := "commit", desc := "(IIIII)I" } : Jvm.MethodName)) ∈ TT := tt_mem 245 rfl rfl
set_option maxRecDepth 20000 in
theorem w_246 : (Jvm.Cond.code ({ cls := "AmendedDrawing", name := "commit", desc := "(IIIII)I" } : Jvm.MethodName) prog_1_method_2_code (7 : Nat) (Option.some Jvm.ClassFile.FieldType.int)) ∈ TT := tt_mem 246 rfl rfl
set_option maxRecDepth 20000 in
theorem w_248 : (Jvm.Cond.instanceMethod ({ cls := "AmendedDrawing$Action", name := "become", desc := "(IIIII)V" } : Jvm.MethodName)) ∈ TT := tt_mem 248 rfl rfl
set_option maxRecDepth 20000 in
theorem w_249 : (Jvm.Cond.selects "AmendedDrawing$Action" ({ cls := "AmendedDrawing$Action", name := "become", desc := "(IIIII)V" } : Jvm.MethodName) ({ cls := "AmendedDrawing$Action", name := "become", desc := "(IIIII)V" } : Jvm.MethodName)) ∈ TT := tt_mem 249 rfl rfl
set_option maxRecDepth 20000 in
theorem w_250 : (Jvm.Cond.code ({ cls := "AmendedDrawing$Action", name := "become", desc := "(IIIII)V" } : Jvm.MethodName) prog_2_method_2_code (6 : Nat) (Option.none : Option Jvm.ClassFile.FieldType)) ∈ TT := tt_mem 250 rfl rfl
set_option maxRecDepth 20000 in
theorem w_251 : (Jvm.Cond.methodLink "AmendedDrawing$Action" (23 : Nat) ({ cls := "AmendedDrawing$Action", name := "sort", desc := "(I)I" } : Jvm.MethodName)) ∈ TT := tt_mem 251 rfl rfl
set_option maxRecDepth 20000 in
theorem w_253 : (Jvm.Cond.instanceMethod ({ cls := "AmendedDrawing$Action", name := "sort", desc := "(I)I" } : Jvm.MethodName)) ∈ TT := tt_mem 253 rfl rfl
set_option maxRecDepth 20000 in
theorem w_254 : (Jvm.Cond.code ({ cls := "AmendedDrawing$Action", name := "sort", desc := "(I)I" } : Jvm.MethodName) prog_2_method_6_code (2 : Nat) (Option.some Jvm.ClassFile.FieldType.int)) ∈ TT := tt_mem 254 rfl rfl
set_option maxRecDepth 20000 in
theorem w_255 : (Jvm.Cond.fieldLink "AmendedDrawing$Action" (49 : Nat) "AmendedDrawing$Action" "SORTS" "[I") ∈ TT := tt_mem 255 rfl rfl
set_option maxRecDepth 20000 in
theorem w_258 : (Jvm.Cond.instanceMethod ({ cls := "AmendedDrawing$Action", name := "isValid", desc := "()Z" } : Jvm.MethodName)) ∈ TT := tt_mem 258 rfl rfl
set_option maxRecDepth 20000 in
theorem w_259 : (Jvm.Cond.selects "AmendedDrawing$Action" ({ cls := "AmendedDrawing$Action", name := "isValid", desc := "()Z" } : Jvm.MethodName) ({ cls := "AmendedDrawing$Action", name := "isValid", desc := "()Z" } : Jvm.MethodName)) ∈ TT := tt_mem 259 rfl rfl
set_option maxRecDepth 20000 in
theorem w_260 : (Jvm.Cond.code ({ cls := "AmendedDrawing$Action", name := "isValid", desc := "()Z" } : Jvm.MethodName) prog_2_method_4_code (2 : Nat) (Option.some Jvm.ClassFile.FieldType.boolean)) ∈ TT := tt_mem 260 rfl rfl
set_option maxRecDepth 20000 in
theorem w_261 : (Jvm.Cond.methodLink "AmendedDrawing$Action" (33 : Nat) ({ cls := "AmendedDrawing$Action", name := "takes", desc := "(II)Z" } : Jvm.MethodName)) ∈ TT := tt_mem 261 rfl rfl
set_option maxRecDepth 20000 in
theorem w_262 : (Jvm.Cond.instanceMethod ({ cls := "AmendedDrawing$Action", name := "takes", desc := "(II)Z" } : Jvm.MethodName)) ∈ TT := tt_mem 262 rfl rfl
set_option maxRecDepth 20000 in
theorem w_263 : (Jvm.Cond.selects "AmendedDrawing$Action" ({ cls := "AmendedDrawing$Action", name := "takes", desc := "(II)Z" } : Jvm.MethodName) ({ cls := "AmendedDrawing$Action", name := "takes", desc := "(II)Z" } : Jvm.MethodName)) ∈ TT := tt_mem 263 rfl rfl
set_option maxRecDepth 20000 in
theorem w_264 : (Jvm.Cond.code ({ cls := "AmendedDrawing$Action", name := "takes", desc := "(II)Z" } : Jvm.MethodName) prog_2_method_5_code (3 : Nat) (Option.some Jvm.ClassFile.FieldType.boolean)) ∈ TT := tt_mem 264 rfl rfl
set_option maxRecDepth 20000 in
theorem w_265 : (Jvm.Cond.methodLink "AmendedDrawing$Action" (37 : Nat) ({ cls := "AmendedDrawing$Action", name := "isWithin", desc := "(III)Z" } : Jvm.MethodName)) ∈ TT := tt_mem 265 rfl rfl
set_option maxRecDepth 20000 in
theorem w_266 : (Jvm.Cond.static ({ cls := "AmendedDrawing$Action", name := "isWithin", desc := "(III)Z" } : Jvm.MethodName)) ∈ TT := tt_mem 266 rfl rfl
set_option maxRecDepth 20000 in
theorem w_267 : (Jvm.Cond.code ({ cls := "AmendedDrawing$Action", name := "isWithin", desc := "(III)Z" } : Jvm.MethodName) prog_2_method_9_code (3 : Nat) (Option.some Jvm.ClassFile.FieldType.boolean)) ∈ TT := tt_mem 267 rfl rfl
set_option maxRecDepth 20000 in
theorem w_268 : (Jvm.Cond.methodLink "AmendedDrawing$Action" (43 : Nat) ({ cls := "AmendedDrawing$Action", name := "widthOf", desc := "(I)I" } : Jvm.MethodName)) ∈ TT := tt_mem 268 rfl rfl
set_option maxRecDepth 20000 in
theorem w_269 : (Jvm.Cond.static ({ cls := "AmendedDrawing$Action", name := "widthOf", desc := "(I)I" } : Jvm.MethodName)) ∈ TT := tt_mem 269 rfl rfl
set_option maxRecDepth 20000 in
theorem w_270 : (Jvm.Cond.code ({ cls := "AmendedDrawing$Action", name := "widthOf", desc := "(I)I" } : Jvm.MethodName) prog_2_method_7_code (1 : Nat) (Option.some Jvm.ClassFile.FieldType.int)) ∈ TT := tt_mem 270 rfl rfl
set_option maxRecDepth 20000 in
theorem w_271 : (Jvm.Cond.methodLink "AmendedDrawing$Action" (46 : Nat) ({ cls := "AmendedDrawing$Action", name := "heightOf", desc := "(I)I" } : Jvm.MethodName)) ∈ TT := tt_mem 271 rfl rfl
set_option maxRecDepth 20000 in
theorem w_272 : (Jvm.Cond.static ({ cls := "AmendedDrawing$Action", name := "heightOf", desc := "(I)I" } : Jvm.MethodName)) ∈ TT := tt_mem 272 rfl rfl
set_option maxRecDepth 20000 in
theorem w_273 : (Jvm.Cond.code ({ cls := "AmendedDrawing$Action", name := "heightOf", desc := "(I)I" } : Jvm.MethodName) prog_2_method_8_code (1 : Nat) (Option.some Jvm.ClassFile.FieldType.int)) ∈ TT := tt_mem 273 rfl rfl
set_option maxRecDepth 20000 in
theorem w_339 : (Jvm.Cond.instanceMethod ({ cls := "AmendedDrawing$Drawing", name := "carryOut", desc := "(LAmendedDrawing$Action;I)Z" } : Jvm.MethodName)) ∈ TT := tt_mem 339 rfl rfl
set_option maxRecDepth 20000 in
theorem w_340 : (Jvm.Cond.selects "AmendedDrawing$Drawing" ({ cls := "AmendedDrawing$Drawing", name := "carryOut", desc := "(LAmendedDrawing$Action;I)Z" } : Jvm.MethodName) ({ cls := "AmendedDrawing$Drawing", name := "carryOut", desc := "(LAmendedDrawing$Action;I)Z" } : Jvm.MethodName)) ∈ TT := tt_mem 340 rfl rfl
set_option maxRecDepth 20000 in
theorem w_341 : (Jvm.Cond.code ({ cls := "AmendedDrawing$Drawing", name := "carryOut", desc := "(LAmendedDrawing$Action;I)Z" } : Jvm.MethodName) prog_3_method_3_code (6 : Nat) (Option.some Jvm.ClassFile.FieldType.boolean)) ∈ TT := tt_mem 341 rfl rfl
set_option maxRecDepth 20000 in
theorem w_342 : (Jvm.Cond.methodLink "AmendedDrawing$Drawing" (41 : Nat) ({ cls := "AmendedDrawing$Drawing", name := "make", desc := "(LAmendedDrawing$Action;I)Z" } : Jvm.MethodName)) ∈ TT := tt_mem 342 rfl rfl
set_option maxRecDepth 20000 in
theorem w_344 : (Jvm.Cond.instanceMethod ({ cls := "AmendedDrawing$Drawing", name := "make", desc := "(LAmendedDrawing$Action;I)Z" } : Jvm.MethodName)) ∈ TT := tt_mem 344 rfl rfl
set_option maxRecDepth 20000 in
theorem w_345 : (Jvm.Cond.code ({ cls := "AmendedDrawing$Drawing", name := "make", desc := "(LAmendedDrawing$Action;I)Z" } : Jvm.MethodName) prog_3_method_7_code (7 : Nat) (Option.some Jvm.ClassFile.FieldType.boolean)) ∈ TT := tt_mem 345 rfl rfl
set_option maxRecDepth 20000 in
theorem w_346 : (Jvm.Cond.methodLink "AmendedDrawing$Drawing" (99 : Nat) ({ cls := "AmendedDrawing$Action", name := "widthOf", desc := "(I)I" } : Jvm.MethodName)) ∈ TT := tt_mem 346 rfl rfl
set_option maxRecDepth 20000 in
theorem w_347 : (Jvm.Cond.methodLink "AmendedDrawing$Drawing" (103 : Nat) ({ cls := "AmendedDrawing$Action", name := "heightOf", desc := "(I)I" } : Jvm.MethodName)) ∈ TT := tt_mem 347 rfl rfl
set_option maxRecDepth 20000 in
theorem w_348 : (Jvm.Cond.methodLink "AmendedDrawing$Drawing" (106 : Nat) ({ cls := "AmendedDrawing$Item", name := "keepsLimits", desc := "(IIII)Z" } : Jvm.MethodName)) ∈ TT := tt_mem 348 rfl rfl
set_option maxRecDepth 20000 in
theorem w_349 : (Jvm.Cond.static ({ cls := "AmendedDrawing$Item", name := "keepsLimits", desc := "(IIII)Z" } : Jvm.MethodName)) ∈ TT := tt_mem 349 rfl rfl
set_option maxRecDepth 20000 in
theorem w_350 : (Jvm.Cond.code ({ cls := "AmendedDrawing$Item", name := "keepsLimits", desc := "(IIII)Z" } : Jvm.MethodName) prog_6_method_14_code (4 : Nat) (Option.some Jvm.ClassFile.FieldType.boolean)) ∈ TT := tt_mem 350 rfl rfl
set_option maxRecDepth 20000 in
theorem w_351 : (Jvm.Cond.methodLink "AmendedDrawing$Drawing" (109 : Nat) ({ cls := "AmendedDrawing$Item", name := "becomeShape", desc := "(III)V" } : Jvm.MethodName)) ∈ TT := tt_mem 351 rfl rfl
set_option maxRecDepth 20000 in
theorem w_352 : (Jvm.Cond.instanceMethod ({ cls := "AmendedDrawing$Item", name := "becomeShape", desc := "(III)V" } : Jvm.MethodName)) ∈ TT := tt_mem 352 rfl rfl
set_option maxRecDepth 20000 in
theorem w_353 : (Jvm.Cond.selects "AmendedDrawing$Item" ({ cls := "AmendedDrawing$Item", name := "becomeShape", desc := "(III)V" } : Jvm.MethodName) ({ cls := "AmendedDrawing$Item", name := "becomeShape", desc := "(III)V" } : Jvm.MethodName)) ∈ TT := tt_mem 353 rfl rfl
set_option maxRecDepth 20000 in
theorem w_354 : (Jvm.Cond.code ({ cls := "AmendedDrawing$Item", name := "becomeShape", desc := "(III)V" } : Jvm.MethodName) prog_6_method_3_code (4 : Nat) (Option.none : Option Jvm.ClassFile.FieldType)) ∈ TT := tt_mem 354 rfl rfl
set_option maxRecDepth 20000 in
theorem w_355 : (Jvm.Cond.methodLink "AmendedDrawing$Drawing" (113 : Nat) ({ cls := "AmendedDrawing$Item", name := "setBox", desc := "(IIII)V" } : Jvm.MethodName)) ∈ TT := tt_mem 355 rfl rfl
set_option maxRecDepth 20000 in
theorem w_356 : (Jvm.Cond.instanceMethod ({ cls := "AmendedDrawing$Item", name := "setBox", desc := "(IIII)V" } : Jvm.MethodName)) ∈ TT := tt_mem 356 rfl rfl
set_option maxRecDepth 20000 in
theorem w_357 : (Jvm.Cond.selects "AmendedDrawing$Item" ({ cls := "AmendedDrawing$Item", name := "setBox", desc := "(IIII)V" } : Jvm.MethodName) ({ cls := "AmendedDrawing$Item", name := "setBox", desc := "(IIII)V" } : Jvm.MethodName)) ∈ TT := tt_mem 357 rfl rfl
set_option maxRecDepth 20000 in
theorem w_358 : (Jvm.Cond.code ({ cls := "AmendedDrawing$Item", name := "setBox", desc := "(IIII)V" } : Jvm.MethodName) prog_6_method_5_code (5 : Nat) (Option.none : Option Jvm.ClassFile.FieldType)) ∈ TT := tt_mem 358 rfl rfl
set_option maxRecDepth 20000 in
theorem w_359 : (Jvm.Cond.methodLink "AmendedDrawing$Drawing" (117 : Nat) ({ cls := "AmendedDrawing$Drawing", name := "insert", desc := "(II)V" } : Jvm.MethodName)) ∈ TT := tt_mem 359 rfl rfl
set_option maxRecDepth 20000 in
theorem w_361 : (Jvm.Cond.instanceMethod ({ cls := "AmendedDrawing$Drawing", name := "insert", desc := "(II)V" } : Jvm.MethodName)) ∈ TT := tt_mem 361 rfl rfl
set_option maxRecDepth 20000 in
theorem w_362 : (Jvm.Cond.code ({ cls := "AmendedDrawing$Drawing", name := "insert", desc := "(II)V" } : Jvm.MethodName) prog_3_method_22_code (3 : Nat) (Option.none : Option Jvm.ClassFile.FieldType)) ∈ TT := tt_mem 362 rfl rfl
set_option maxRecDepth 20000 in
theorem w_363 : (Jvm.Cond.methodLink "AmendedDrawing$Drawing" (181 : Nat) ({ cls := "java/lang/System", name := "arraycopy", desc := "(Ljava/lang/Object;ILjava/lang/Object;II)V" } : Jvm.MethodName)) ∈ TT := tt_mem 363 rfl rfl
set_option maxRecDepth 20000 in
theorem w_366 : (Jvm.Cond.methodLink "AmendedDrawing$Drawing" (49 : Nat) ({ cls := "AmendedDrawing$Drawing", name := "delete", desc := "(I)Z" } : Jvm.MethodName)) ∈ TT := tt_mem 366 rfl rfl
set_option maxRecDepth 20000 in
theorem w_368 : (Jvm.Cond.instanceMethod ({ cls := "AmendedDrawing$Drawing", name := "delete", desc := "(I)Z" } : Jvm.MethodName)) ∈ TT := tt_mem 368 rfl rfl
set_option maxRecDepth 20000 in
theorem w_369 : (Jvm.Cond.code ({ cls := "AmendedDrawing$Drawing", name := "delete", desc := "(I)Z" } : Jvm.MethodName) prog_3_method_8_code (5 : Nat) (Option.some Jvm.ClassFile.FieldType.boolean)) ∈ TT := tt_mem 369 rfl rfl
set_option maxRecDepth 20000 in
theorem w_370 : (Jvm.Cond.methodLink "AmendedDrawing$Drawing" (120 : Nat) ({ cls := "AmendedDrawing$Drawing", name := "placeOf", desc := "(I)I" } : Jvm.MethodName)) ∈ TT := tt_mem 370 rfl rfl
set_option maxRecDepth 20000 in
theorem w_372 : (Jvm.Cond.instanceMethod ({ cls := "AmendedDrawing$Drawing", name := "placeOf", desc := "(I)I" } : Jvm.MethodName)) ∈ TT := tt_mem 372 rfl rfl
set_option maxRecDepth 20000 in
theorem w_373 : (Jvm.Cond.code ({ cls := "AmendedDrawing$Drawing", name := "placeOf", desc := "(I)I" } : Jvm.MethodName) prog_3_method_20_code (3 : Nat) (Option.some Jvm.ClassFile.FieldType.int)) ∈ TT := tt_mem 373 rfl rfl
set_option maxRecDepth 20000 in
theorem w_374 : (Jvm.Cond.methodLink "AmendedDrawing$Drawing" (123 : Nat) ({ cls := "AmendedDrawing$Drawing", name := "endOf", desc := "(I)I" } : Jvm.MethodName)) ∈ TT := tt_mem 374 rfl rfl
set_option maxRecDepth 20000 in
theorem w_376 : (Jvm.Cond.instanceMethod ({ cls := "AmendedDrawing$Drawing", name := "endOf", desc := "(I)I" } : Jvm.MethodName)) ∈ TT := tt_mem 376 rfl rfl
set_option maxRecDepth 20000 in
theorem w_377 : (Jvm.Cond.code ({ cls := "AmendedDrawing$Drawing", name := "endOf", desc := "(I)I" } : Jvm.MethodName) prog_3_method_21_code (3 : Nat) (Option.some Jvm.ClassFile.FieldType.int)) ∈ TT := tt_mem 377 rfl rfl
set_option maxRecDepth 20000 in
theorem w_378 : (Jvm.Cond.methodLink "AmendedDrawing$Drawing" (163 : Nat) ({ cls := "AmendedDrawing$Drawing", name := "isIn", desc := "(II)Z" } : Jvm.MethodName)) ∈ TT := tt_mem 378 rfl rfl
set_option maxRecDepth 20000 in
theorem w_380 : (Jvm.Cond.instanceMethod ({ cls := "AmendedDrawing$Drawing", name := "isIn", desc := "(II)Z" } : Jvm.MethodName)) ∈ TT := tt_mem 380 rfl rfl
set_option maxRecDepth 20000 in
theorem w_381 : (Jvm.Cond.code ({ cls := "AmendedDrawing$Drawing", name := "isIn", desc := "(II)Z" } : Jvm.MethodName) prog_3_method_19_code (5 : Nat) (Option.some Jvm.ClassFile.FieldType.boolean)) ∈ TT := tt_mem 381 rfl rfl
set_option maxRecDepth 20000 in
theorem w_382 : (Jvm.Cond.methodLink "AmendedDrawing$Drawing" (29 : Nat) ({ cls := "AmendedDrawing$Drawing", name := "removeBlock", desc := "(II)V" } : Jvm.MethodName)) ∈ TT := tt_mem 382 rfl rfl
set_option maxRecDepth 20000 in
theorem w_384 : (Jvm.Cond.instanceMethod ({ cls := "AmendedDrawing$Drawing", name := "removeBlock", desc := "(II)V" } : Jvm.MethodName)) ∈ TT := tt_mem 384 rfl rfl
set_option maxRecDepth 20000 in
theorem w_385 : (Jvm.Cond.code ({ cls := "AmendedDrawing$Drawing", name := "removeBlock", desc := "(II)V" } : Jvm.MethodName) prog_3_method_23_code (4 : Nat) (Option.none : Option Jvm.ClassFile.FieldType)) ∈ TT := tt_mem 385 rfl rfl
set_option maxRecDepth 20000 in
theorem w_386 : (Jvm.Cond.methodLink "AmendedDrawing$Drawing" (53 : Nat) ({ cls := "AmendedDrawing$Drawing", name := "move", desc := "(III)Z" } : Jvm.MethodName)) ∈ TT := tt_mem 386 rfl rfl
set_option maxRecDepth 20000 in
theorem w_388 : (Jvm.Cond.instanceMethod ({ cls := "AmendedDrawing$Drawing", name := "move", desc := "(III)Z" } : Jvm.MethodName)) ∈ TT := tt_mem 388 rfl rfl
set_option maxRecDepth 20000 in
theorem w_389 : (Jvm.Cond.code ({ cls := "AmendedDrawing$Drawing", name := "move", desc := "(III)Z" } : Jvm.MethodName) prog_3_method_9_code (5 : Nat) (Option.some Jvm.ClassFile.FieldType.boolean)) ∈ TT := tt_mem 389 rfl rfl
set_option maxRecDepth 20000 in
theorem w_390 : (Jvm.Cond.methodLink "AmendedDrawing$Drawing" (126 : Nat) ({ cls := "AmendedDrawing$Drawing", name := "isShapeIn", desc := "(II)Z" } : Jvm.MethodName)) ∈ TT := tt_mem 390 rfl rfl
set_option maxRecDepth 20000 in
theorem w_392 : (Jvm.Cond.instanceMethod ({ cls := "AmendedDrawing$Drawing", name := "isShapeIn", desc := "(II)Z" } : Jvm.MethodName)) ∈ TT := tt_mem 392 rfl rfl
set_option maxRecDepth 20000 in
theorem w_393 : (Jvm.Cond.code ({ cls := "AmendedDrawing$Drawing", name := "isShapeIn", desc := "(II)Z" } : Jvm.MethodName) prog_3_method_18_code (3 : Nat) (Option.some Jvm.ClassFile.FieldType.boolean)) ∈ TT := tt_mem 393 rfl rfl
set_option maxRecDepth 20000 in
theorem w_394 : (Jvm.Cond.methodLink "AmendedDrawing$Drawing" (147 : Nat) ({ cls := "AmendedDrawing$Item", name := "isShape", desc := "()Z" } : Jvm.MethodName)) ∈ TT := tt_mem 394 rfl rfl
set_option maxRecDepth 20000 in
theorem w_395 : (Jvm.Cond.methodLink "AmendedDrawing$Drawing" (129 : Nat) ({ cls := "AmendedDrawing$Item", name := "canShift", desc := "(II)Z" } : Jvm.MethodName)) ∈ TT := tt_mem 395 rfl rfl
set_option maxRecDepth 20000 in
theorem w_396 : (Jvm.Cond.instanceMethod ({ cls := "AmendedDrawing$Item", name := "canShift", desc := "(II)Z" } : Jvm.MethodName)) ∈ TT := tt_mem 396 rfl rfl
set_option maxRecDepth 20000 in
theorem w_397 : (Jvm.Cond.selects "AmendedDrawing$Item" ({ cls := "AmendedDrawing$Item", name := "canShift", desc := "(II)Z" } : Jvm.MethodName) ({ cls := "AmendedDrawing$Item", name := "canShift", desc := "(II)Z" } : Jvm.MethodName)) ∈ TT := tt_mem 397 rfl rfl
set_option maxRecDepth 20000 in
theorem w_398 : (Jvm.Cond.code ({ cls := "AmendedDrawing$Item", name := "canShift", desc := "(II)Z" } : Jvm.MethodName) prog_6_method_7_code (3 : Nat) (Option.some Jvm.ClassFile.FieldType.boolean)) ∈ TT := tt_mem 398 rfl rfl
set_option maxRecDepth 20000 in
theorem w_399 : (Jvm.Cond.methodLink "AmendedDrawing$Item" (37 : Nat) ({ cls := "AmendedDrawing$Item", name := "keepsLimits", desc := "(IIII)Z" } : Jvm.MethodName)) ∈ TT := tt_mem 399 rfl rfl
set_option maxRecDepth 20000 in
theorem w_400 : (Jvm.Cond.methodLink "AmendedDrawing$Drawing" (132 : Nat) ({ cls := "AmendedDrawing$Item", name := "shift", desc := "(II)V" } : Jvm.MethodName)) ∈ TT := tt_mem 400 rfl rfl
set_option maxRecDepth 20000 in
theorem w_401 : (Jvm.Cond.instanceMethod ({ cls := "AmendedDrawing$Item", name := "shift", desc := "(II)V" } : Jvm.MethodName)) ∈ TT := tt_mem 401 rfl rfl
set_option maxRecDepth 20000 in
theorem w_402 : (Jvm.Cond.selects "AmendedDrawing$Item" ({ cls := "AmendedDrawing$Item", name := "shift", desc := "(II)V" } : Jvm.MethodName) ({ cls := "AmendedDrawing$Item", name := "shift", desc := "(II)V" } : Jvm.MethodName)) ∈ TT := tt_mem 402 rfl rfl
set_option maxRecDepth 20000 in
theorem w_403 : (Jvm.Cond.code ({ cls := "AmendedDrawing$Item", name := "shift", desc := "(II)V" } : Jvm.MethodName) prog_6_method_8_code (3 : Nat) (Option.none : Option Jvm.ClassFile.FieldType)) ∈ TT := tt_mem 403 rfl rfl
set_option maxRecDepth 20000 in
theorem w_404 : (Jvm.Cond.methodLink "AmendedDrawing$Drawing" (57 : Nat) ({ cls := "AmendedDrawing$Drawing", name := "scale", desc := "(III)Z" } : Jvm.MethodName)) ∈ TT := tt_mem 404 rfl rfl
set_option maxRecDepth 20000 in
theorem w_406 : (Jvm.Cond.instanceMethod ({ cls := "AmendedDrawing$Drawing", name := "scale", desc := "(III)Z" } : Jvm.MethodName)) ∈ TT := tt_mem 406 rfl rfl
set_option maxRecDepth 20000 in
theorem w_407 : (Jvm.Cond.code ({ cls := "AmendedDrawing$Drawing", name := "scale", desc := "(III)Z" } : Jvm.MethodName) prog_3_method_10_code (7 : Nat) (Option.some Jvm.ClassFile.FieldType.boolean)) ∈ TT := tt_mem 407 rfl rfl
set_option maxRecDepth 20000 in
theorem w_408 : (Jvm.Cond.methodLink "AmendedDrawing$Drawing" (83 : Nat) ({ cls := "AmendedDrawing$Drawing", name := "edge", desc := "(II)I" } : Jvm.MethodName)) ∈ TT := tt_mem 408 rfl rfl
set_option maxRecDepth 20000 in
theorem w_410 : (Jvm.Cond.instanceMethod ({ cls := "AmendedDrawing$Drawing", name := "edge", desc := "(II)I" } : Jvm.MethodName)) ∈ TT := tt_mem 410 rfl rfl
set_option maxRecDepth 20000 in
theorem w_411 : (Jvm.Cond.code ({ cls := "AmendedDrawing$Drawing", name := "edge", desc := "(II)I" } : Jvm.MethodName) prog_3_method_17_code (7 : Nat) (Option.some Jvm.ClassFile.FieldType.int)) ∈ TT := tt_mem 411 rfl rfl
set_option maxRecDepth 20000 in
theorem w_412 : (Jvm.Cond.constant "AmendedDrawing$Drawing" (168 : Nat) (2147483647 : Int32)) ∈ TT := tt_mem 412 rfl rfl
set_option maxRecDepth 20000 in
theorem w_413 : (Jvm.Cond.constant "AmendedDrawing$Drawing" (169 : Nat) (-2147483648 : Int32)) ∈ TT := tt_mem 413 rfl rfl
set_option maxRecDepth 20000 in
theorem w_414 : (Jvm.Cond.methodLink "AmendedDrawing$Drawing" (170 : Nat) ({ cls := "AmendedDrawing$Item", name := "end", desc := "(I)I" } : Jvm.MethodName)) ∈ TT := tt_mem 414 rfl rfl
set_option maxRecDepth 20000 in
theorem w_415 : (Jvm.Cond.instanceMethod ({ cls := "AmendedDrawing$Item", name := "end", desc := "(I)I" } : Jvm.MethodName)) ∈ TT := tt_mem 415 rfl rfl
set_option maxRecDepth 20000 in
theorem w_416 : (Jvm.Cond.selects "AmendedDrawing$Item" ({ cls := "AmendedDrawing$Item", name := "end", desc := "(I)I" } : Jvm.MethodName) ({ cls := "AmendedDrawing$Item", name := "end", desc := "(I)I" } : Jvm.MethodName)) ∈ TT := tt_mem 416 rfl rfl
set_option maxRecDepth 20000 in
theorem w_417 : (Jvm.Cond.code ({ cls := "AmendedDrawing$Item", name := "end", desc := "(I)I" } : Jvm.MethodName) prog_6_method_6_code (2 : Nat) (Option.some Jvm.ClassFile.FieldType.int)) ∈ TT := tt_mem 417 rfl rfl
set_option maxRecDepth 20000 in
theorem w_418 : (Jvm.Cond.methodLink "AmendedDrawing$Drawing" (173 : Nat) ({ cls := "java/lang/Math", name := "min", desc := "(II)I" } : Jvm.MethodName)) ∈ TT := tt_mem 418 rfl rfl
set_option maxRecDepth 20000 in
theorem w_421 : (Jvm.Cond.methodLink "AmendedDrawing$Drawing" (178 : Nat) ({ cls := "java/lang/Math", name := "max", desc := "(II)I" } : Jvm.MethodName)) ∈ TT := tt_mem 421 rfl rfl
set_option maxRecDepth 20000 in
theorem w_424 : (Jvm.Cond.methodLink "AmendedDrawing$Drawing" (135 : Nat) ({ cls := "AmendedDrawing$Item", name := "canStretch", desc := "(IIII)Z" } : Jvm.MethodName)) ∈ TT := tt_mem 424 rfl rfl
set_option maxRecDepth 20000 in
theorem w_425 : (Jvm.Cond.instanceMethod ({ cls := "AmendedDrawing$Item", name := "canStretch", desc := "(IIII)Z" } : Jvm.MethodName)) ∈ TT := tt_mem 425 rfl rfl
set_option maxRecDepth 20000 in
theorem w_426 : (Jvm.Cond.selects "AmendedDrawing$Item" ({ cls := "AmendedDrawing$Item", name := "canStretch", desc := "(IIII)Z" } : Jvm.MethodName) ({ cls := "AmendedDrawing$Item", name := "canStretch", desc := "(IIII)Z" } : Jvm.MethodName)) ∈ TT := tt_mem 426 rfl rfl
set_option maxRecDepth 20000 in
theorem w_427 : (Jvm.Cond.code ({ cls := "AmendedDrawing$Item", name := "canStretch", desc := "(IIII)Z" } : Jvm.MethodName) prog_6_method_9_code (5 : Nat) (Option.some Jvm.ClassFile.FieldType.boolean)) ∈ TT := tt_mem 427 rfl rfl
set_option maxRecDepth 20000 in
theorem w_428 : (Jvm.Cond.methodLink "AmendedDrawing$Item" (41 : Nat) ({ cls := "AmendedDrawing$Item", name := "scaledPlace", desc := "(IIII)I" } : Jvm.MethodName)) ∈ TT := tt_mem 428 rfl rfl
set_option maxRecDepth 20000 in
theorem w_429 : (Jvm.Cond.static ({ cls := "AmendedDrawing$Item", name := "scaledPlace", desc := "(IIII)I" } : Jvm.MethodName)) ∈ TT := tt_mem 429 rfl rfl
set_option maxRecDepth 20000 in
theorem w_430 : (Jvm.Cond.code ({ cls := "AmendedDrawing$Item", name := "scaledPlace", desc := "(IIII)I" } : Jvm.MethodName) prog_6_method_15_code (4 : Nat) (Option.some Jvm.ClassFile.FieldType.int)) ∈ TT := tt_mem 430 rfl rfl
set_option maxRecDepth 20000 in
theorem w_431 : (Jvm.Cond.methodLink "AmendedDrawing$Item" (45 : Nat) ({ cls := "AmendedDrawing$Item", name := "scaledLength", desc := "(III)I" } : Jvm.MethodName)) ∈ TT := tt_mem 431 rfl rfl
set_option maxRecDepth 20000 in
theorem w_432 : (Jvm.Cond.static ({ cls := "AmendedDrawing$Item", name := "scaledLength", desc := "(III)I" } : Jvm.MethodName)) ∈ TT := tt_mem 432 rfl rfl
set_option maxRecDepth 20000 in
theorem w_433 : (Jvm.Cond.code ({ cls := "AmendedDrawing$Item", name := "scaledLength", desc := "(III)I" } : Jvm.MethodName) prog_6_method_16_code (4 : Nat) (Option.some Jvm.ClassFile.FieldType.int)) ∈ TT := tt_mem 433 rfl rfl
set_option maxRecDepth 20000 in
theorem w_434 : (Jvm.Cond.methodLink "AmendedDrawing$Drawing" (138 : Nat) ({ cls := "AmendedDrawing$Item", name := "stretch", desc := "(IIII)V" } : Jvm.MethodName)) ∈ TT := tt_mem 434 rfl rfl
set_option maxRecDepth 20000 in
theorem w_435 : (Jvm.Cond.instanceMethod ({ cls := "AmendedDrawing$Item", name := "stretch", desc := "(IIII)V" } : Jvm.MethodName)) ∈ TT := tt_mem 435 rfl rfl
set_option maxRecDepth 20000 in
theorem w_436 : (Jvm.Cond.selects "AmendedDrawing$Item" ({ cls := "AmendedDrawing$Item", name := "stretch", desc := "(IIII)V" } : Jvm.MethodName) ({ cls := "AmendedDrawing$Item", name := "stretch", desc := "(IIII)V" } : Jvm.MethodName)) ∈ TT := tt_mem 436 rfl rfl
set_option maxRecDepth 20000 in
theorem w_437 : (Jvm.Cond.code ({ cls := "AmendedDrawing$Item", name := "stretch", desc := "(IIII)V" } : Jvm.MethodName) prog_6_method_10_code (5 : Nat) (Option.none : Option Jvm.ClassFile.FieldType)) ∈ TT := tt_mem 437 rfl rfl
set_option maxRecDepth 20000 in
theorem w_438 : (Jvm.Cond.methodLink "AmendedDrawing$Item" (49 : Nat) ({ cls := "AmendedDrawing$Item", name := "setBox", desc := "(IIII)V" } : Jvm.MethodName)) ∈ TT := tt_mem 438 rfl rfl
set_option maxRecDepth 20000 in
theorem w_439 : (Jvm.Cond.methodLink "AmendedDrawing$Drawing" (60 : Nat) ({ cls := "AmendedDrawing$Drawing", name := "paint", desc := "(II)Z" } : Jvm.MethodName)) ∈ TT := tt_mem 439 rfl rfl
set_option maxRecDepth 20000 in
theorem w_441 : (Jvm.Cond.instanceMethod ({ cls := "AmendedDrawing$Drawing", name := "paint", desc := "(II)Z" } : Jvm.MethodName)) ∈ TT := tt_mem 441 rfl rfl
set_option maxRecDepth 20000 in
theorem w_442 : (Jvm.Cond.code ({ cls := "AmendedDrawing$Drawing", name := "paint", desc := "(II)Z" } : Jvm.MethodName) prog_3_method_11_code (4 : Nat) (Option.some Jvm.ClassFile.FieldType.boolean)) ∈ TT := tt_mem 442 rfl rfl
set_option maxRecDepth 20000 in
theorem w_443 : (Jvm.Cond.methodLink "AmendedDrawing$Drawing" (64 : Nat) ({ cls := "AmendedDrawing$Drawing", name := "raise", desc := "(II)Z" } : Jvm.MethodName)) ∈ TT := tt_mem 443 rfl rfl
set_option maxRecDepth 20000 in
theorem w_445 : (Jvm.Cond.instanceMethod ({ cls := "AmendedDrawing$Drawing", name := "raise", desc := "(II)Z" } : Jvm.MethodName)) ∈ TT := tt_mem 445 rfl rfl
set_option maxRecDepth 20000 in
theorem w_446 : (Jvm.Cond.code ({ cls := "AmendedDrawing$Drawing", name := "raise", desc := "(II)Z" } : Jvm.MethodName) prog_3_method_12_code (6 : Nat) (Option.some Jvm.ClassFile.FieldType.boolean)) ∈ TT := tt_mem 446 rfl rfl
set_option maxRecDepth 20000 in
theorem w_447 : (Jvm.Cond.methodLink "AmendedDrawing$Drawing" (141 : Nat) ({ cls := "AmendedDrawing$Drawing", name := "moveBlock", desc := "(III)V" } : Jvm.MethodName)) ∈ TT := tt_mem 447 rfl rfl
set_option maxRecDepth 20000 in
theorem w_449 : (Jvm.Cond.instanceMethod ({ cls := "AmendedDrawing$Drawing", name := "moveBlock", desc := "(III)V" } : Jvm.MethodName)) ∈ TT := tt_mem 449 rfl rfl
set_option maxRecDepth 20000 in
theorem w_450 : (Jvm.Cond.code ({ cls := "AmendedDrawing$Drawing", name := "moveBlock", desc := "(III)V" } : Jvm.MethodName) prog_3_method_24_code (5 : Nat) (Option.none : Option Jvm.ClassFile.FieldType)) ∈ TT := tt_mem 450 rfl rfl
set_option maxRecDepth 20000 in
theorem w_451 : (Jvm.Cond.methodLink "AmendedDrawing$Drawing" (67 : Nat) ({ cls := "AmendedDrawing$Drawing", name := "group", desc := "(III)Z" } : Jvm.MethodName)) ∈ TT := tt_mem 451 rfl rfl
set_option maxRecDepth 20000 in
theorem w_453 : (Jvm.Cond.instanceMethod ({ cls := "AmendedDrawing$Drawing", name := "group", desc := "(III)Z" } : Jvm.MethodName)) ∈ TT := tt_mem 453 rfl rfl
set_option maxRecDepth 20000 in
theorem w_454 : (Jvm.Cond.code ({ cls := "AmendedDrawing$Drawing", name := "group", desc := "(III)Z" } : Jvm.MethodName) prog_3_method_13_code (6 : Nat) (Option.some Jvm.ClassFile.FieldType.boolean)) ∈ TT := tt_mem 454 rfl rfl
set_option maxRecDepth 20000 in
theorem w_455 : (Jvm.Cond.methodLink "AmendedDrawing$Drawing" (144 : Nat) ({ cls := "AmendedDrawing$Item", name := "becomeGroup", desc := "()V" } : Jvm.MethodName)) ∈ TT := tt_mem 455 rfl rfl
set_option maxRecDepth 20000 in
theorem w_456 : (Jvm.Cond.instanceMethod ({ cls := "AmendedDrawing$Item", name := "becomeGroup", desc := "()V" } : Jvm.MethodName)) ∈ TT := tt_mem 456 rfl rfl
set_option maxRecDepth 20000 in
theorem w_457 : (Jvm.Cond.selects "AmendedDrawing$Item" ({ cls := "AmendedDrawing$Item", name := "becomeGroup", desc := "()V" } : Jvm.MethodName) ({ cls := "AmendedDrawing$Item", name := "becomeGroup", desc := "()V" } : Jvm.MethodName)) ∈ TT := tt_mem 457 rfl rfl
set_option maxRecDepth 20000 in
theorem w_458 : (Jvm.Cond.code ({ cls := "AmendedDrawing$Item", name := "becomeGroup", desc := "()V" } : Jvm.MethodName) prog_6_method_4_code (1 : Nat) (Option.none : Option Jvm.ClassFile.FieldType)) ∈ TT := tt_mem 458 rfl rfl
set_option maxRecDepth 20000 in
theorem w_459 : (Jvm.Cond.methodLink "AmendedDrawing$Drawing" (70 : Nat) ({ cls := "AmendedDrawing$Drawing", name := "ungroup", desc := "(I)Z" } : Jvm.MethodName)) ∈ TT := tt_mem 459 rfl rfl
set_option maxRecDepth 20000 in
theorem w_461 : (Jvm.Cond.instanceMethod ({ cls := "AmendedDrawing$Drawing", name := "ungroup", desc := "(I)Z" } : Jvm.MethodName)) ∈ TT := tt_mem 461 rfl rfl
set_option maxRecDepth 20000 in
theorem w_462 : (Jvm.Cond.code ({ cls := "AmendedDrawing$Drawing", name := "ungroup", desc := "(I)Z" } : Jvm.MethodName) prog_3_method_14_code (6 : Nat) (Option.some Jvm.ClassFile.FieldType.boolean)) ∈ TT := tt_mem 462 rfl rfl
set_option maxRecDepth 20000 in
theorem w_463 : (Jvm.Cond.methodLink "AmendedDrawing$Drawing" (73 : Nat) ({ cls := "AmendedDrawing$Drawing", name := "makeDouble", desc := "(IIII)Z" } : Jvm.MethodName)) ∈ TT := tt_mem 463 rfl rfl
set_option maxRecDepth 20000 in
theorem w_465 : (Jvm.Cond.instanceMethod ({ cls := "AmendedDrawing$Drawing", name := "makeDouble", desc := "(IIII)Z" } : Jvm.MethodName)) ∈ TT := tt_mem 465 rfl rfl
set_option maxRecDepth 20000 in
theorem w_466 : (Jvm.Cond.code ({ cls := "AmendedDrawing$Drawing", name := "makeDouble", desc := "(IIII)Z" } : Jvm.MethodName) prog_3_method_15_code (6 : Nat) (Option.some Jvm.ClassFile.FieldType.boolean)) ∈ TT := tt_mem 466 rfl rfl
set_option maxRecDepth 20000 in
theorem w_467 : (Jvm.Cond.methodLink "AmendedDrawing$Drawing" (77 : Nat) ({ cls := "AmendedDrawing$Drawing", name := "align", desc := "(III)Z" } : Jvm.MethodName)) ∈ TT := tt_mem 467 rfl rfl
set_option maxRecDepth 20000 in
theorem w_469 : (Jvm.Cond.instanceMethod ({ cls := "AmendedDrawing$Drawing", name := "align", desc := "(III)Z" } : Jvm.MethodName)) ∈ TT := tt_mem 469 rfl rfl
set_option maxRecDepth 20000 in
theorem w_470 : (Jvm.Cond.code ({ cls := "AmendedDrawing$Drawing", name := "align", desc := "(III)Z" } : Jvm.MethodName) prog_3_method_16_code (6 : Nat) (Option.some Jvm.ClassFile.FieldType.boolean)) ∈ TT := tt_mem 470 rfl rfl
set_option maxRecDepth 20000 in
theorem w_487 : (Jvm.Cond.instanceMethod ({ cls := "AmendedDrawing$Action", name := "copy", desc := "(LAmendedDrawing$Action;)V" } : Jvm.MethodName)) ∈ TT := tt_mem 487 rfl rfl
set_option maxRecDepth 20000 in
theorem w_488 : (Jvm.Cond.selects "AmendedDrawing$Action" ({ cls := "AmendedDrawing$Action", name := "copy", desc := "(LAmendedDrawing$Action;)V" } : Jvm.MethodName) ({ cls := "AmendedDrawing$Action", name := "copy", desc := "(LAmendedDrawing$Action;)V" } : Jvm.MethodName)) ∈ TT := tt_mem 488 rfl rfl
set_option maxRecDepth 20000 in
theorem w_489 : (Jvm.Cond.code ({ cls := "AmendedDrawing$Action", name := "copy", desc := "(LAmendedDrawing$Action;)V" } : Jvm.MethodName) prog_2_method_3_code (2 : Nat) (Option.none : Option Jvm.ClassFile.FieldType)) ∈ TT := tt_mem 489 rfl rfl
set_option maxRecDepth 20000 in
theorem w_490 : (Jvm.Cond.methodLink "AmendedDrawing$Action" (27 : Nat) ({ cls := "java/lang/System", name := "arraycopy", desc := "(Ljava/lang/Object;ILjava/lang/Object;II)V" } : Jvm.MethodName)) ∈ TT := tt_mem 490 rfl rfl
set_option maxRecDepth 20000 in
theorem w_492 : (Jvm.Cond.instanceMethod ({ cls := "AmendedDrawing$History", name := "add", desc := "()LAmendedDrawing$Edit;" } : Jvm.MethodName)) ∈ TT := tt_mem 492 rfl rfl
set_option maxRecDepth 20000 in
theorem w_493 : (Jvm.Cond.selects "AmendedDrawing$History" ({ cls := "AmendedDrawing$History", name := "add", desc := "()LAmendedDrawing$Edit;" } : Jvm.MethodName) ({ cls := "AmendedDrawing$History", name := "add", desc := "()LAmendedDrawing$Edit;" } : Jvm.MethodName)) ∈ TT := tt_mem 493 rfl rfl
set_option maxRecDepth 20000 in
theorem w_494 : (Jvm.Cond.code ({ cls := "AmendedDrawing$History", name := "add", desc := "()LAmendedDrawing$Edit;" } : Jvm.MethodName) prog_5_method_2_code (1 : Nat) (Option.some (Jvm.ClassFile.FieldType.object "AmendedDrawing$Edit"))) ∈ TT := tt_mem 494 rfl rfl
set_option maxRecDepth 20000 in
theorem w_495 : (Jvm.Cond.methodLink "AmendedDrawing$History" (28 : Nat) ({ cls := "AmendedDrawing$History", name := "at", desc := "(I)LAmendedDrawing$Edit;" } : Jvm.MethodName)) ∈ TT := tt_mem 495 rfl rfl
set_option maxRecDepth 20000 in
theorem w_497 : (Jvm.Cond.instanceMethod ({ cls := "AmendedDrawing$History", name := "at", desc := "(I)LAmendedDrawing$Edit;" } : Jvm.MethodName)) ∈ TT := tt_mem 497 rfl rfl
set_option maxRecDepth 20000 in
theorem w_498 : (Jvm.Cond.code ({ cls := "AmendedDrawing$History", name := "at", desc := "(I)LAmendedDrawing$Edit;" } : Jvm.MethodName) prog_5_method_5_code (2 : Nat) (Option.some (Jvm.ClassFile.FieldType.object "AmendedDrawing$Edit"))) ∈ TT := tt_mem 498 rfl rfl
set_option maxRecDepth 20000 in
theorem w_500 : (Jvm.Cond.instanceMethod ({ cls := "AmendedDrawing$Edit", name := "become", desc := "(IIIII)V" } : Jvm.MethodName)) ∈ TT := tt_mem 500 rfl rfl
set_option maxRecDepth 20000 in
theorem w_501 : (Jvm.Cond.selects "AmendedDrawing$Edit" ({ cls := "AmendedDrawing$Edit", name := "become", desc := "(IIIII)V" } : Jvm.MethodName) ({ cls := "AmendedDrawing$Edit", name := "become", desc := "(IIIII)V" } : Jvm.MethodName)) ∈ TT := tt_mem 501 rfl rfl
set_option maxRecDepth 20000 in
theorem w_502 : (Jvm.Cond.code ({ cls := "AmendedDrawing$Edit", name := "become", desc := "(IIIII)V" } : Jvm.MethodName) prog_4_method_2_code (6 : Nat) (Option.none : Option Jvm.ClassFile.FieldType)) ∈ TT := tt_mem 502 rfl rfl
set_option maxRecDepth 20000 in
theorem w_508 : (Jvm.Cond.instanceMethod ({ cls := "AmendedDrawing", name := "withdraw", desc := "(I)I" } : Jvm.MethodName)) ∈ TT := tt_mem 508 rfl rfl
set_option maxRecDepth 20000 in
theorem w_509 : (Jvm.Cond.selects "AmendedDrawing" ({ cls := "AmendedDrawing", name := "withdraw", desc := "(I)I" } : Jvm.MethodName) ({ cls := "AmendedDrawing", name := "withdraw", desc := "(I)I" } : Jvm.MethodName)) ∈ TT := tt_mem 509 rfl rfl
set_option maxRecDepth 20000 in
theorem w_510 : (Jvm.Cond.code ({ cls := "AmendedDrawing", name := "withdraw", desc := "(I)I" } : Jvm.MethodName) prog_1_method_3_code (2 : Nat) (Option.some Jvm.ClassFile.FieldType.int)) ∈ TT := tt_mem 510 rfl rfl
set_option maxRecDepth 20000 in
theorem w_513 : (Jvm.Cond.instanceMethod ({ cls := "AmendedDrawing", name := "requireAction", desc := "(I)V" } : Jvm.MethodName)) ∈ TT := tt_mem 513 rfl rfl
set_option maxRecDepth 20000 in
theorem w_514 : (Jvm.Cond.code ({ cls := "AmendedDrawing", name := "requireAction", desc := "(I)V" } : Jvm.MethodName) prog_1_method_18_code (2 : Nat) (Option.none : Option Jvm.ClassFile.FieldType)) ∈ TT := tt_mem 514 rfl rfl
set_option maxRecDepth 20000 in
theorem w_531 : (Jvm.Cond.instanceMethod ({ cls := "AmendedDrawing$Outcome", name := "play", desc := "([LAmendedDrawing$Action;II)V" } : Jvm.MethodName)) ∈ TT := tt_mem 531 rfl rfl
set_option maxRecDepth 20000 in
theorem w_532 : (Jvm.Cond.selects "AmendedDrawing$Outcome" ({ cls := "AmendedDrawing$Outcome", name := "play", desc := "([LAmendedDrawing$Action;II)V" } : Jvm.MethodName) ({ cls := "AmendedDrawing$Outcome", name := "play", desc := "([LAmendedDrawing$Action;II)V" } : Jvm.MethodName)) ∈ TT := tt_mem 532 rfl rfl
set_option maxRecDepth 20000 in
theorem w_533 : (Jvm.Cond.code ({ cls := "AmendedDrawing$Outcome", name := "play", desc := "([LAmendedDrawing$Action;II)V" } : Jvm.MethodName) prog_7_method_2_code (6 : Nat) (Option.none : Option Jvm.ClassFile.FieldType)) ∈ TT := tt_mem 533 rfl rfl
set_option maxRecDepth 20000 in
theorem w_534 : (Jvm.Cond.methodLink "AmendedDrawing$Outcome" (25 : Nat) ({ cls := "java/lang/System", name := "arraycopy", desc := "(Ljava/lang/Object;ILjava/lang/Object;II)V" } : Jvm.MethodName)) ∈ TT := tt_mem 534 rfl rfl
set_option maxRecDepth 20000 in
theorem w_535 : (Jvm.Cond.methodLink "AmendedDrawing$Outcome" (31 : Nat) ({ cls := "AmendedDrawing$Drawing", name := "clear", desc := "()V" } : Jvm.MethodName)) ∈ TT := tt_mem 535 rfl rfl
set_option maxRecDepth 20000 in
theorem w_536 : (Jvm.Cond.instanceMethod ({ cls := "AmendedDrawing$Drawing", name := "clear", desc := "()V" } : Jvm.MethodName)) ∈ TT := tt_mem 536 rfl rfl
set_option maxRecDepth 20000 in
theorem w_537 : (Jvm.Cond.selects "AmendedDrawing$Drawing" ({ cls := "AmendedDrawing$Drawing", name := "clear", desc := "()V" } : Jvm.MethodName) ({ cls := "AmendedDrawing$Drawing", name := "clear", desc := "()V" } : Jvm.MethodName)) ∈ TT := tt_mem 537 rfl rfl
set_option maxRecDepth 20000 in
theorem w_538 : (Jvm.Cond.code ({ cls := "AmendedDrawing$Drawing", name := "clear", desc := "()V" } : Jvm.MethodName) prog_3_method_2_code (1 : Nat) (Option.none : Option Jvm.ClassFile.FieldType)) ∈ TT := tt_mem 538 rfl rfl
set_option maxRecDepth 20000 in
theorem w_539 : (Jvm.Cond.methodLink "AmendedDrawing$Outcome" (40 : Nat) ({ cls := "AmendedDrawing$Drawing", name := "carryOut", desc := "(LAmendedDrawing$Action;I)Z" } : Jvm.MethodName)) ∈ TT := tt_mem 539 rfl rfl
set_option maxRecDepth 20000 in
theorem w_542 : (Jvm.Cond.instanceMethod ({ cls := "AmendedDrawing", name := "changedBeside", desc := "(I)I" } : Jvm.MethodName)) ∈ TT := tt_mem 542 rfl rfl
set_option maxRecDepth 20000 in
theorem w_543 : (Jvm.Cond.code ({ cls := "AmendedDrawing", name := "changedBeside", desc := "(I)I" } : Jvm.MethodName) prog_1_method_20_code (4 : Nat) (Option.some Jvm.ClassFile.FieldType.int)) ∈ TT := tt_mem 543 rfl rfl
set_option maxRecDepth 20000 in
theorem w_548 : (Jvm.Cond.instanceMethod ({ cls := "AmendedDrawing", name := "reinstate", desc := "(I)I" } : Jvm.MethodName)) ∈ TT := tt_mem 548 rfl rfl
set_option maxRecDepth 20000 in
theorem w_549 : (Jvm.Cond.selects "AmendedDrawing" ({ cls := "AmendedDrawing", name := "reinstate", desc := "(I)I" } : Jvm.MethodName) ({ cls := "AmendedDrawing", name := "reinstate", desc := "(I)I" } : Jvm.MethodName)) ∈ TT := tt_mem 549 rfl rfl
set_option maxRecDepth 20000 in
theorem w_550 : (Jvm.Cond.code ({ cls := "AmendedDrawing", name := "reinstate", desc := "(I)I" } : Jvm.MethodName) prog_1_method_4_code (2 : Nat) (Option.some Jvm.ClassFile.FieldType.int)) ∈ TT := tt_mem 550 rfl rfl
set_option maxRecDepth 20000 in
theorem w_555 : (Jvm.Cond.instanceMethod ({ cls := "AmendedDrawing", name := "amend", desc := "(III)I" } : Jvm.MethodName)) ∈ TT := tt_mem 555 rfl rfl
set_option maxRecDepth 20000 in
theorem w_556 : (Jvm.Cond.selects "AmendedDrawing" ({ cls := "AmendedDrawing", name := "amend", desc := "(III)I" } : Jvm.MethodName) ({ cls := "AmendedDrawing", name := "amend", desc := "(III)I" } : Jvm.MethodName)) ∈ TT := tt_mem 556 rfl rfl
set_option maxRecDepth 20000 in
theorem w_557 : (Jvm.Cond.code ({ cls := "AmendedDrawing", name := "amend", desc := "(III)I" } : Jvm.MethodName) prog_1_method_5_code (5 : Nat) (Option.some Jvm.ClassFile.FieldType.int)) ∈ TT := tt_mem 557 rfl rfl
set_option maxRecDepth 20000 in
theorem w_564 : (Jvm.Cond.instanceMethod ({ cls := "AmendedDrawing", name := "undo", desc := "()I" } : Jvm.MethodName)) ∈ TT := tt_mem 564 rfl rfl
set_option maxRecDepth 20000 in
theorem w_565 : (Jvm.Cond.selects "AmendedDrawing" ({ cls := "AmendedDrawing", name := "undo", desc := "()I" } : Jvm.MethodName) ({ cls := "AmendedDrawing", name := "undo", desc := "()I" } : Jvm.MethodName)) ∈ TT := tt_mem 565 rfl rfl
set_option maxRecDepth 20000 in
theorem w_566 : (Jvm.Cond.code ({ cls := "AmendedDrawing", name := "undo", desc := "()I" } : Jvm.MethodName) prog_1_method_6_code (2 : Nat) (Option.some Jvm.ClassFile.FieldType.int)) ∈ TT := tt_mem 566 rfl rfl
set_option maxRecDepth 20000 in
theorem w_583 : (Jvm.Cond.instanceMethod ({ cls := "AmendedDrawing$History", name := "stepBack", desc := "()LAmendedDrawing$Edit;" } : Jvm.MethodName)) ∈ TT := tt_mem 583 rfl rfl
set_option maxRecDepth 20000 in
theorem w_584 : (Jvm.Cond.selects "AmendedDrawing$History" ({ cls := "AmendedDrawing$History", name := "stepBack", desc := "()LAmendedDrawing$Edit;" } : Jvm.MethodName) ({ cls := "AmendedDrawing$History", name := "stepBack", desc := "()LAmendedDrawing$Edit;" } : Jvm.MethodName)) ∈ TT := tt_mem 584 rfl rfl
set_option maxRecDepth 20000 in
theorem w_585 : (Jvm.Cond.code ({ cls := "AmendedDrawing$History", name := "stepBack", desc := "()LAmendedDrawing$Edit;" } : Jvm.MethodName) prog_5_method_3_code (1 : Nat) (Option.some (Jvm.ClassFile.FieldType.object "AmendedDrawing$Edit"))) ∈ TT := tt_mem 585 rfl rfl
set_option maxRecDepth 20000 in
theorem w_588 : (Jvm.Cond.instanceMethod ({ cls := "AmendedDrawing", name := "setEdit", desc := "(LAmendedDrawing$Edit;Z)V" } : Jvm.MethodName)) ∈ TT := tt_mem 588 rfl rfl
set_option maxRecDepth 20000 in
theorem w_589 : (Jvm.Cond.code ({ cls := "AmendedDrawing", name := "setEdit", desc := "(LAmendedDrawing$Edit;Z)V" } : Jvm.MethodName) prog_1_method_19_code (4 : Nat) (Option.none : Option Jvm.ClassFile.FieldType)) ∈ TT := tt_mem 589 rfl rfl
set_option maxRecDepth 20000 in
theorem w_594 : (Jvm.Cond.instanceMethod ({ cls := "AmendedDrawing", name := "redo", desc := "()I" } : Jvm.MethodName)) ∈ TT := tt_mem 594 rfl rfl
set_option maxRecDepth 20000 in
theorem w_595 : (Jvm.Cond.selects "AmendedDrawing" ({ cls := "AmendedDrawing", name := "redo", desc := "()I" } : Jvm.MethodName) ({ cls := "AmendedDrawing", name := "redo", desc := "()I" } : Jvm.MethodName)) ∈ TT := tt_mem 595 rfl rfl
set_option maxRecDepth 20000 in
theorem w_596 : (Jvm.Cond.code ({ cls := "AmendedDrawing", name := "redo", desc := "()I" } : Jvm.MethodName) prog_1_method_7_code (2 : Nat) (Option.some Jvm.ClassFile.FieldType.int)) ∈ TT := tt_mem 596 rfl rfl
set_option maxRecDepth 20000 in
theorem w_598 : (Jvm.Cond.instanceMethod ({ cls := "AmendedDrawing$History", name := "stepForward", desc := "()LAmendedDrawing$Edit;" } : Jvm.MethodName)) ∈ TT := tt_mem 598 rfl rfl
set_option maxRecDepth 20000 in
theorem w_599 : (Jvm.Cond.selects "AmendedDrawing$History" ({ cls := "AmendedDrawing$History", name := "stepForward", desc := "()LAmendedDrawing$Edit;" } : Jvm.MethodName) ({ cls := "AmendedDrawing$History", name := "stepForward", desc := "()LAmendedDrawing$Edit;" } : Jvm.MethodName)) ∈ TT := tt_mem 599 rfl rfl
set_option maxRecDepth 20000 in
theorem w_600 : (Jvm.Cond.code ({ cls := "AmendedDrawing$History", name := "stepForward", desc := "()LAmendedDrawing$Edit;" } : Jvm.MethodName) prog_5_method_4_code (1 : Nat) (Option.some (Jvm.ClassFile.FieldType.object "AmendedDrawing$Edit"))) ∈ TT := tt_mem 600 rfl rfl
set_option maxRecDepth 20000 in
theorem w_605 : (Jvm.Cond.instanceMethod ({ cls := "AmendedDrawing", name := "argument", desc := "(II)I" } : Jvm.MethodName)) ∈ TT := tt_mem 605 rfl rfl
set_option maxRecDepth 20000 in
theorem w_606 : (Jvm.Cond.selects "AmendedDrawing" ({ cls := "AmendedDrawing", name := "argument", desc := "(II)I" } : Jvm.MethodName) ({ cls := "AmendedDrawing", name := "argument", desc := "(II)I" } : Jvm.MethodName)) ∈ TT := tt_mem 606 rfl rfl
set_option maxRecDepth 20000 in
theorem w_607 : (Jvm.Cond.code ({ cls := "AmendedDrawing", name := "argument", desc := "(II)I" } : Jvm.MethodName) prog_1_method_9_code (3 : Nat) (Option.some Jvm.ClassFile.FieldType.int)) ∈ TT := tt_mem 607 rfl rfl
set_option maxRecDepth 20000 in
theorem w_612 : (Jvm.Cond.instanceMethod ({ cls := "AmendedDrawing", name := "effect", desc := "(I)I" } : Jvm.MethodName)) ∈ TT := tt_mem 612 rfl rfl
set_option maxRecDepth 20000 in
theorem w_613 : (Jvm.Cond.selects "AmendedDrawing" ({ cls := "AmendedDrawing", name := "effect", desc := "(I)I" } : Jvm.MethodName) ({ cls := "AmendedDrawing", name := "effect", desc := "(I)I" } : Jvm.MethodName)) ∈ TT := tt_mem 613 rfl rfl
set_option maxRecDepth 20000 in
theorem w_614 : (Jvm.Cond.code ({ cls := "AmendedDrawing", name := "effect", desc := "(I)I" } : Jvm.MethodName) prog_1_method_10_code (2 : Nat) (Option.some Jvm.ClassFile.FieldType.int)) ∈ TT := tt_mem 614 rfl rfl
set_option maxRecDepth 20000 in
theorem w_619 : (Jvm.Cond.instanceMethod ({ cls := "AmendedDrawing", name := "needed", desc := "(II)I" } : Jvm.MethodName)) ∈ TT := tt_mem 619 rfl rfl
set_option maxRecDepth 20000 in
theorem w_620 : (Jvm.Cond.selects "AmendedDrawing" ({ cls := "AmendedDrawing", name := "needed", desc := "(II)I" } : Jvm.MethodName) ({ cls := "AmendedDrawing", name := "needed", desc := "(II)I" } : Jvm.MethodName)) ∈ TT := tt_mem 620 rfl rfl
set_option maxRecDepth 20000 in
theorem w_621 : (Jvm.Cond.code ({ cls := "AmendedDrawing", name := "needed", desc := "(II)I" } : Jvm.MethodName) prog_1_method_11_code (5 : Nat) (Option.some Jvm.ClassFile.FieldType.int)) ∈ TT := tt_mem 621 rfl rfl
set_option maxRecDepth 20000 in
theorem w_626 : (Jvm.Cond.instanceMethod ({ cls := "AmendedDrawing", name := "needs", desc := "(II)I" } : Jvm.MethodName)) ∈ TT := tt_mem 626 rfl rfl
set_option maxRecDepth 20000 in
theorem w_627 : (Jvm.Cond.selects "AmendedDrawing" ({ cls := "AmendedDrawing", name := "needs", desc := "(II)I" } : Jvm.MethodName) ({ cls := "AmendedDrawing", name := "needs", desc := "(II)I" } : Jvm.MethodName)) ∈ TT := tt_mem 627 rfl rfl
set_option maxRecDepth 20000 in
theorem w_628 : (Jvm.Cond.code ({ cls := "AmendedDrawing", name := "needs", desc := "(II)I" } : Jvm.MethodName) prog_1_method_12_code (5 : Nat) (Option.some Jvm.ClassFile.FieldType.int)) ∈ TT := tt_mem 628 rfl rfl
set_option maxRecDepth 20000 in
theorem w_633 : (Jvm.Cond.instanceMethod ({ cls := "AmendedDrawing", name := "object", desc := "(II)I" } : Jvm.MethodName)) ∈ TT := tt_mem 633 rfl rfl
set_option maxRecDepth 20000 in
theorem w_634 : (Jvm.Cond.selects "AmendedDrawing" ({ cls := "AmendedDrawing", name := "object", desc := "(II)I" } : Jvm.MethodName) ({ cls := "AmendedDrawing", name := "object", desc := "(II)I" } : Jvm.MethodName)) ∈ TT := tt_mem 634 rfl rfl
set_option maxRecDepth 20000 in
theorem w_635 : (Jvm.Cond.code ({ cls := "AmendedDrawing", name := "object", desc := "(II)I" } : Jvm.MethodName) prog_1_method_14_code (3 : Nat) (Option.some Jvm.ClassFile.FieldType.int)) ∈ TT := tt_mem 635 rfl rfl
set_option maxRecDepth 20000 in
theorem w_637 : (Jvm.Cond.instanceMethod ({ cls := "AmendedDrawing$Drawing", name := "tell", desc := "(II)I" } : Jvm.MethodName)) ∈ TT := tt_mem 637 rfl rfl
set_option maxRecDepth 20000 in
theorem w_638 : (Jvm.Cond.selects "AmendedDrawing$Drawing" ({ cls := "AmendedDrawing$Drawing", name := "tell", desc := "(II)I" } : Jvm.MethodName) ({ cls := "AmendedDrawing$Drawing", name := "tell", desc := "(II)I" } : Jvm.MethodName)) ∈ TT := tt_mem 638 rfl rfl
set_option maxRecDepth 20000 in
theorem w_639 : (Jvm.Cond.code ({ cls := "AmendedDrawing$Drawing", name := "tell", desc := "(II)I" } : Jvm.MethodName) prog_3_method_4_code (4 : Nat) (Option.some Jvm.ClassFile.FieldType.int)) ∈ TT := tt_mem 639 rfl rfl
set_option maxRecDepth 20000 in
theorem w_644 : (Jvm.Cond.instanceMethod ({ cls := "AmendedDrawing", name := "shown", desc := "(IIII)I" } : Jvm.MethodName)) ∈ TT := tt_mem 644 rfl rfl
set_option maxRecDepth 20000 in
theorem w_645 : (Jvm.Cond.selects "AmendedDrawing" ({ cls := "AmendedDrawing", name := "shown", desc := "(IIII)I" } : Jvm.MethodName) ({ cls := "AmendedDrawing", name := "shown", desc := "(IIII)I" } : Jvm.MethodName)) ∈ TT := tt_mem 645 rfl rfl
set_option maxRecDepth 20000 in
theorem w_646 : (Jvm.Cond.code ({ cls := "AmendedDrawing", name := "shown", desc := "(IIII)I" } : Jvm.MethodName) prog_1_method_16_code (8 : Nat) (Option.some Jvm.ClassFile.FieldType.int)) ∈ TT := tt_mem 646 rfl rfl
set_option maxRecDepth 20000 in
theorem w_648 : (Jvm.Cond.instanceMethod ({ cls := "AmendedDrawing$Drawing", name := "colourAt", desc := "(II)I" } : Jvm.MethodName)) ∈ TT := tt_mem 648 rfl rfl
set_option maxRecDepth 20000 in
theorem w_649 : (Jvm.Cond.selects "AmendedDrawing$Drawing" ({ cls := "AmendedDrawing$Drawing", name := "colourAt", desc := "(II)I" } : Jvm.MethodName) ({ cls := "AmendedDrawing$Drawing", name := "colourAt", desc := "(II)I" } : Jvm.MethodName)) ∈ TT := tt_mem 649 rfl rfl
set_option maxRecDepth 20000 in
theorem w_650 : (Jvm.Cond.code ({ cls := "AmendedDrawing$Drawing", name := "colourAt", desc := "(II)I" } : Jvm.MethodName) prog_3_method_6_code (4 : Nat) (Option.some Jvm.ClassFile.FieldType.int)) ∈ TT := tt_mem 650 rfl rfl
set_option maxRecDepth 20000 in
theorem w_651 : (Jvm.Cond.methodLink "AmendedDrawing$Drawing" (96 : Nat) ({ cls := "AmendedDrawing$Drawing", name := "topShapeAt", desc := "(II)I" } : Jvm.MethodName)) ∈ TT := tt_mem 651 rfl rfl
set_option maxRecDepth 20000 in
theorem w_658 : (Jvm.Cond.fieldLink "AmendedDrawingModel" (42 : Nat) "AmendedDrawingModel" "thrown" "I") ∈ TT := tt_mem 658 rfl rfl
set_option maxRecDepth 20000 in
theorem w_659 : (Jvm.Cond.fieldLink "AmendedDrawingModel" (38 : Nat) "AmendedDrawingModel" "count" "I") ∈ TT := tt_mem 659 rfl rfl
set_option maxRecDepth 20000 in
theorem w_660 : (Jvm.Cond.fieldLink "AmendedDrawingModel" (7 : Nat) "AmendedDrawingModel" "kinds" "[I") ∈ TT := tt_mem 660 rfl rfl
set_option maxRecDepth 20000 in
theorem w_661 : (Jvm.Cond.fieldLink "AmendedDrawingModel" (13 : Nat) "AmendedDrawingModel" "args" "[I") ∈ TT := tt_mem 661 rfl rfl
set_option maxRecDepth 20000 in
theorem w_662 : (Jvm.Cond.fieldLink "AmendedDrawingModel" (16 : Nat) "AmendedDrawingModel" "withdrawn" "[Z") ∈ TT := tt_mem 662 rfl rfl
set_option maxRecDepth 20000 in
theorem w_663 : (Jvm.Cond.fieldLink "AmendedDrawingModel" (20 : Nat) "AmendedDrawingModel" "effects" "[I") ∈ TT := tt_mem 663 rfl rfl
set_option maxRecDepth 20000 in
theorem w_664 : (Jvm.Cond.fieldLink "AmendedDrawingModel" (23 : Nat) "AmendedDrawingModel" "base" "[I") ∈ TT := tt_mem 664 rfl rfl
set_option maxRecDepth 20000 in
theorem w_665 : (Jvm.Cond.fieldLink "AmendedDrawingModel" (45 : Nat) "AmendedDrawingModel" "n" "I") ∈ TT := tt_mem 665 rfl rfl
set_option maxRecDepth 20000 in
theorem w_666 : (Jvm.Cond.fieldLink "AmendedDrawingModel" (26 : Nat) "AmendedDrawingModel" "row" "[I") ∈ TT := tt_mem 666 rfl rfl
set_option maxRecDepth 20000 in
theorem w_667 : (Jvm.Cond.fieldLink "AmendedDrawingModel" (144 : Nat) "AmendedDrawingModel" "keptMany" "I") ∈ TT := tt_mem 667 rfl rfl
set_option maxRecDepth 20000 in
theorem w_668 : (Jvm.Cond.fieldLink "AmendedDrawingModel" (29 : Nat) "AmendedDrawingModel" "kept" "[I") ∈ TT := tt_mem 668 rfl rfl
set_option maxRecDepth 20000 in
theorem w_669 : (Jvm.Cond.fieldLink "AmendedDrawingModel" (32 : Nat) "AmendedDrawingModel" "moved" "[I") ∈ TT := tt_mem 669 rfl rfl
set_option maxRecDepth 20000 in
theorem w_670 : (Jvm.Cond.fieldLink "AmendedDrawingModel" (71 : Nat) "AmendedDrawingModel" "boxLeft" "I") ∈ TT := tt_mem 670 rfl rfl
set_option maxRecDepth 20000 in
theorem w_671 : (Jvm.Cond.fieldLink "AmendedDrawingModel" (74 : Nat) "AmendedDrawingModel" "boxTop" "I") ∈ TT := tt_mem 671 rfl rfl
set_option maxRecDepth 20000 in
theorem w_672 : (Jvm.Cond.fieldLink "AmendedDrawingModel" (78 : Nat) "AmendedDrawingModel" "boxRight" "I") ∈ TT := tt_mem 672 rfl rfl
set_option maxRecDepth 20000 in
theorem w_673 : (Jvm.Cond.fieldLink "AmendedDrawingModel" (81 : Nat) "AmendedDrawingModel" "boxLow" "I") ∈ TT := tt_mem 673 rfl rfl
set_option maxRecDepth 20000 in
theorem w_674 : (Jvm.Cond.fieldLink "AmendedDrawingModel" (35 : Nat) "AmendedDrawingModel" "edits" "[I") ∈ TT := tt_mem 674 rfl rfl
set_option maxRecDepth 20000 in
theorem w_675 : (Jvm.Cond.fieldLink "AmendedDrawingModel" (161 : Nat) "AmendedDrawingModel" "known" "I") ∈ TT := tt_mem 675 rfl rfl
set_option maxRecDepth 20000 in
theorem w_676 : (Jvm.Cond.fieldLink "AmendedDrawingModel" (158 : Nat) "AmendedDrawingModel" "done" "I") ∈ TT := tt_mem 676 rfl rfl
set_option maxRecDepth 20000 in
theorem w_718 : (Jvm.Cond.instanceMethod ({ cls := "AmendedDrawingModel", name := "thrown", desc := "()I" } : Jvm.MethodName)) ∈ TT := tt_mem 718 rfl rfl
set_option maxRecDepth 20000 in
theorem w_719 : (Jvm.Cond.selects "AmendedDrawingModel" ({ cls := "AmendedDrawingModel", name := "thrown", desc := "()I" } : Jvm.MethodName) ({ cls := "AmendedDrawingModel", name := "thrown", desc := "()I" } : Jvm.MethodName)) ∈ TT := tt_mem 719 rfl rfl
set_option maxRecDepth 20000 in
theorem w_720 : (Jvm.Cond.code ({ cls := "AmendedDrawingModel", name := "thrown", desc := "()I" } : Jvm.MethodName) prog_9_method_2_code (1 : Nat) (Option.some Jvm.ClassFile.FieldType.int)) ∈ TT := tt_mem 720 rfl rfl
set_option maxRecDepth 20000 in
theorem w_722 : (Jvm.Cond.instanceMethod ({ cls := "AmendedDrawingModel", name := "commit", desc := "(IIIII)I" } : Jvm.MethodName)) ∈ TT := tt_mem 722 rfl rfl
set_option maxRecDepth 20000 in
theorem w_723 : (Jvm.Cond.selects "AmendedDrawingModel" ({ cls := "AmendedDrawingModel", name := "commit", desc := "(IIIII)I" } : Jvm.MethodName) ({ cls := "AmendedDrawingModel", name := "commit", desc := "(IIIII)I" } : Jvm.MethodName)) ∈ TT := tt_mem 723 rfl rfl
set_option maxRecDepth 20000 in
theorem w_724 : (Jvm.Cond.code ({ cls := "AmendedDrawingModel", name := "commit", desc := "(IIIII)I" } : Jvm.MethodName) prog_9_method_36_code (12 : Nat) (Option.some Jvm.ClassFile.FieldType.int)) ∈ TT := tt_mem 724 rfl rfl
set_option maxRecDepth 20000 in
theorem w_725 : (Jvm.Cond.methodLink "AmendedDrawingModel" (164 : Nat) ({ cls := "AmendedDrawingModel", name := "argumentsOf", desc := "(I)I" } : Jvm.MethodName)) ∈ TT := tt_mem 725 rfl rfl
set_option maxRecDepth 20000 in
theorem w_726 : (Jvm.Cond.static ({ cls := "AmendedDrawingModel", name := "argumentsOf", desc := "(I)I" } : Jvm.MethodName)) ∈ TT := tt_mem 726 rfl rfl
set_option maxRecDepth 20000 in
theorem w_727 : (Jvm.Cond.code ({ cls := "AmendedDrawingModel", name := "argumentsOf", desc := "(I)I" } : Jvm.MethodName) prog_9_method_32_code (1 : Nat) (Option.some Jvm.ClassFile.FieldType.int)) ∈ TT := tt_mem 727 rfl rfl
set_option maxRecDepth 20000 in
theorem w_728 : (Jvm.Cond.methodLink "AmendedDrawingModel" (167 : Nat) ({ cls := "AmendedDrawingModel", name := "isArgument", desc := "(III)Z" } : Jvm.MethodName)) ∈ TT := tt_mem 728 rfl rfl
set_option maxRecDepth 20000 in
theorem w_729 : (Jvm.Cond.static ({ cls := "AmendedDrawingModel", name := "isArgument", desc := "(III)Z" } : Jvm.MethodName)) ∈ TT := tt_mem 729 rfl rfl
set_option maxRecDepth 20000 in
theorem w_730 : (Jvm.Cond.code ({ cls := "AmendedDrawingModel", name := "isArgument", desc := "(III)Z" } : Jvm.MethodName) prog_9_method_34_code (3 : Nat) (Option.some Jvm.ClassFile.FieldType.boolean)) ∈ TT := tt_mem 730 rfl rfl
set_option maxRecDepth 20000 in
theorem w_731 : (Jvm.Cond.methodLink "AmendedDrawingModel" (154 : Nat) ({ cls := "AmendedDrawingModel", name := "isBetween", desc := "(III)Z" } : Jvm.MethodName)) ∈ TT := tt_mem 731 rfl rfl
set_option maxRecDepth 20000 in
theorem w_732 : (Jvm.Cond.static ({ cls := "AmendedDrawingModel", name := "isBetween", desc := "(III)Z" } : Jvm.MethodName)) ∈ TT := tt_mem 732 rfl rfl
set_option maxRecDepth 20000 in
theorem w_733 : (Jvm.Cond.code ({ cls := "AmendedDrawingModel", name := "isBetween", desc := "(III)Z" } : Jvm.MethodName) prog_9_method_33_code (3 : Nat) (Option.some Jvm.ClassFile.FieldType.boolean)) ∈ TT := tt_mem 733 rfl rfl
set_option maxRecDepth 20000 in
theorem w_734 : (Jvm.Cond.methodLink "AmendedDrawingModel" (88 : Nat) ({ cls := "AmendedDrawingModel", name := "arg", desc := "(II)I" } : Jvm.MethodName)) ∈ TT := tt_mem 734 rfl rfl
set_option maxRecDepth 20000 in
theorem w_736 : (Jvm.Cond.instanceMethod ({ cls := "AmendedDrawingModel", name := "arg", desc := "(II)I" } : Jvm.MethodName)) ∈ TT := tt_mem 736 rfl rfl
set_option maxRecDepth 20000 in
theorem w_737 : (Jvm.Cond.code ({ cls := "AmendedDrawingModel", name := "arg", desc := "(II)I" } : Jvm.MethodName) prog_9_method_16_code (3 : Nat) (Option.some Jvm.ClassFile.FieldType.int)) ∈ TT := tt_mem 737 rfl rfl
set_option maxRecDepth 20000 in
theorem w_738 : (Jvm.Cond.methodLink "AmendedDrawingModel" (170 : Nat) ({ cls := "AmendedDrawingModel", name := "lay4", desc := "(IIIII)V" } : Jvm.MethodName)) ∈ TT := tt_mem 738 rfl rfl
set_option maxRecDepth 20000 in
theorem w_740 : (Jvm.Cond.instanceMethod ({ cls := "AmendedDrawingModel", name := "lay4", desc := "(IIIII)V" } : Jvm.MethodName)) ∈ TT := tt_mem 740 rfl rfl
set_option maxRecDepth 20000 in
theorem w_741 : (Jvm.Cond.code ({ cls := "AmendedDrawingModel", name := "lay4", desc := "(IIIII)V" } : Jvm.MethodName) prog_9_method_37_code (6 : Nat) (Option.none : Option Jvm.ClassFile.FieldType)) ∈ TT := tt_mem 741 rfl rfl
set_option maxRecDepth 20000 in
theorem w_742 : (Jvm.Cond.methodLink "AmendedDrawingModel" (174 : Nat) ({ cls := "AmendedDrawingModel", name := "goThrough", desc := "(I)V" } : Jvm.MethodName)) ∈ TT := tt_mem 742 rfl rfl
set_option maxRecDepth 20000 in
theorem w_744 : (Jvm.Cond.instanceMethod ({ cls := "AmendedDrawingModel", name := "goThrough", desc := "(I)V" } : Jvm.MethodName)) ∈ TT := tt_mem 744 rfl rfl
set_option maxRecDepth 20000 in
theorem w_745 : (Jvm.Cond.code ({ cls := "AmendedDrawingModel", name := "goThrough", desc := "(I)V" } : Jvm.MethodName) prog_9_method_29_code (5 : Nat) (Option.none : Option Jvm.ClassFile.FieldType)) ∈ TT := tt_mem 745 rfl rfl
set_option maxRecDepth 20000 in
theorem w_746 : (Jvm.Cond.methodLink "AmendedDrawingModel" (141 : Nat) ({ cls := "AmendedDrawingModel", name := "fits", desc := "(I)Z" } : Jvm.MethodName)) ∈ TT := tt_mem 746 rfl rfl
set_option maxRecDepth 20000 in
theorem w_748 : (Jvm.Cond.instanceMethod ({ cls := "AmendedDrawingModel", name := "fits", desc := "(I)Z" } : Jvm.MethodName)) ∈ TT := tt_mem 748 rfl rfl
set_option maxRecDepth 20000 in
theorem w_749 : (Jvm.Cond.code ({ cls := "AmendedDrawingModel", name := "fits", desc := "(I)Z" } : Jvm.MethodName) prog_9_method_27_code (5 : Nat) (Option.some Jvm.ClassFile.FieldType.boolean)) ∈ TT := tt_mem 749 rfl rfl
set_option maxRecDepth 20000 in
theorem w_750 : (Jvm.Cond.methodLink "AmendedDrawingModel" (52 : Nat) ({ cls := "AmendedDrawingModel", name := "find", desc := "(I)I" } : Jvm.MethodName)) ∈ TT := tt_mem 750 rfl rfl
set_option maxRecDepth 20000 in
theorem w_752 : (Jvm.Cond.instanceMethod ({ cls := "AmendedDrawingModel", name := "find", desc := "(I)I" } : Jvm.MethodName)) ∈ TT := tt_mem 752 rfl rfl
set_option maxRecDepth 20000 in
theorem w_753 : (Jvm.Cond.code ({ cls := "AmendedDrawingModel", name := "find", desc := "(I)I" } : Jvm.MethodName) prog_9_method_5_code (4 : Nat) (Option.some Jvm.ClassFile.FieldType.int)) ∈ TT := tt_mem 753 rfl rfl
set_option maxRecDepth 20000 in
theorem w_754 : (Jvm.Cond.methodLink "AmendedDrawingModel" (48 : Nat) ({ cls := "AmendedDrawingModel", name := "of", desc := "(II)I" } : Jvm.MethodName)) ∈ TT := tt_mem 754 rfl rfl
set_option maxRecDepth 20000 in
theorem w_756 : (Jvm.Cond.instanceMethod ({ cls := "AmendedDrawingModel", name := "of", desc := "(II)I" } : Jvm.MethodName)) ∈ TT := tt_mem 756 rfl rfl
set_option maxRecDepth 20000 in
theorem w_757 : (Jvm.Cond.code ({ cls := "AmendedDrawingModel", name := "of", desc := "(II)I" } : Jvm.MethodName) prog_9_method_3_code (3 : Nat) (Option.some Jvm.ClassFile.FieldType.int)) ∈ TT := tt_mem 757 rfl rfl
set_option maxRecDepth 20000 in
theorem w_758 : (Jvm.Cond.methodLink "AmendedDrawingModel" (111 : Nat) ({ cls := "AmendedDrawingModel", name := "isAlone", desc := "(I)Z" } : Jvm.MethodName)) ∈ TT := tt_mem 758 rfl rfl
set_option maxRecDepth 20000 in
theorem w_760 : (Jvm.Cond.instanceMethod ({ cls := "AmendedDrawingModel", name := "isAlone", desc := "(I)Z" } : Jvm.MethodName)) ∈ TT := tt_mem 760 rfl rfl
set_option maxRecDepth 20000 in
theorem w_761 : (Jvm.Cond.code ({ cls := "AmendedDrawingModel", name := "isAlone", desc := "(I)Z" } : Jvm.MethodName) prog_9_method_26_code (2 : Nat) (Option.some Jvm.ClassFile.FieldType.boolean)) ∈ TT := tt_mem 761 rfl rfl
set_option maxRecDepth 20000 in
theorem w_762 : (Jvm.Cond.methodLink "AmendedDrawingModel" (56 : Nat) ({ cls := "AmendedDrawingModel", name := "isIn", desc := "(II)Z" } : Jvm.MethodName)) ∈ TT := tt_mem 762 rfl rfl
set_option maxRecDepth 20000 in
theorem w_764 : (Jvm.Cond.instanceMethod ({ cls := "AmendedDrawingModel", name := "isIn", desc := "(II)Z" } : Jvm.MethodName)) ∈ TT := tt_mem 764 rfl rfl
set_option maxRecDepth 20000 in
theorem w_765 : (Jvm.Cond.code ({ cls := "AmendedDrawingModel", name := "isIn", desc := "(II)Z" } : Jvm.MethodName) prog_9_method_6_code (4 : Nat) (Option.some Jvm.ClassFile.FieldType.boolean)) ∈ TT := tt_mem 765 rfl rfl
set_option maxRecDepth 20000 in
theorem w_766 : (Jvm.Cond.methodLink "AmendedDrawingModel" (147 : Nat) ({ cls := "AmendedDrawingModel", name := "act", desc := "(I)V" } : Jvm.MethodName)) ∈ TT := tt_mem 766 rfl rfl
set_option maxRecDepth 20000 in
theorem w_768 : (Jvm.Cond.instanceMethod ({ cls := "AmendedDrawingModel", name := "act", desc := "(I)V" } : Jvm.MethodName)) ∈ TT := tt_mem 768 rfl rfl
set_option maxRecDepth 20000 in
theorem w_769 : (Jvm.Cond.code ({ cls := "AmendedDrawingModel", name := "act", desc := "(I)V" } : Jvm.MethodName) prog_9_method_28_code (6 : Nat) (Option.none : Option Jvm.ClassFile.FieldType)) ∈ TT := tt_mem 769 rfl rfl
set_option maxRecDepth 20000 in
theorem w_770 : (Jvm.Cond.methodLink "AmendedDrawingModel" (115 : Nat) ({ cls := "AmendedDrawingModel", name := "make", desc := "(I)V" } : Jvm.MethodName)) ∈ TT := tt_mem 770 rfl rfl
set_option maxRecDepth 20000 in
theorem w_772 : (Jvm.Cond.instanceMethod ({ cls := "AmendedDrawingModel", name := "make", desc := "(I)V" } : Jvm.MethodName)) ∈ TT := tt_mem 772 rfl rfl
set_option maxRecDepth 20000 in
theorem w_773 : (Jvm.Cond.code ({ cls := "AmendedDrawingModel", name := "make", desc := "(I)V" } : Jvm.MethodName) prog_9_method_17_code (3 : Nat) (Option.none : Option Jvm.ClassFile.FieldType)) ∈ TT := tt_mem 773 rfl rfl
set_option maxRecDepth 20000 in
theorem w_774 : (Jvm.Cond.methodLink "AmendedDrawingModel" (84 : Nat) ({ cls := "AmendedDrawingModel", name := "put", desc := "(III)V" } : Jvm.MethodName)) ∈ TT := tt_mem 774 rfl rfl
set_option maxRecDepth 20000 in
theorem w_776 : (Jvm.Cond.instanceMethod ({ cls := "AmendedDrawingModel", name := "put", desc := "(III)V" } : Jvm.MethodName)) ∈ TT := tt_mem 776 rfl rfl
set_option maxRecDepth 20000 in
theorem w_777 : (Jvm.Cond.code ({ cls := "AmendedDrawingModel", name := "put", desc := "(III)V" } : Jvm.MethodName) prog_9_method_4_code (4 : Nat) (Option.none : Option Jvm.ClassFile.FieldType)) ∈ TT := tt_mem 777 rfl rfl
set_option maxRecDepth 20000 in
theorem w_778 : (Jvm.Cond.methodLink "AmendedDrawingModel" (119 : Nat) ({ cls := "AmendedDrawingModel", name := "delete", desc := "(I)V" } : Jvm.MethodName)) ∈ TT := tt_mem 778 rfl rfl
set_option maxRecDepth 20000 in
theorem w_780 : (Jvm.Cond.instanceMethod ({ cls := "AmendedDrawingModel", name := "delete", desc := "(I)V" } : Jvm.MethodName)) ∈ TT := tt_mem 780 rfl rfl
set_option maxRecDepth 20000 in
theorem w_781 : (Jvm.Cond.code ({ cls := "AmendedDrawingModel", name := "delete", desc := "(I)V" } : Jvm.MethodName) prog_9_method_18_code (5 : Nat) (Option.none : Option Jvm.ClassFile.FieldType)) ∈ TT := tt_mem 781 rfl rfl
set_option maxRecDepth 20000 in
theorem w_782 : (Jvm.Cond.methodLink "AmendedDrawingModel" (91 : Nat) ({ cls := "AmendedDrawingModel", name := "behind", desc := "(I)I" } : Jvm.MethodName)) ∈ TT := tt_mem 782 rfl rfl
set_option maxRecDepth 20000 in
theorem w_784 : (Jvm.Cond.instanceMethod ({ cls := "AmendedDrawingModel", name := "behind", desc := "(I)I" } : Jvm.MethodName)) ∈ TT := tt_mem 784 rfl rfl
set_option maxRecDepth 20000 in
theorem w_785 : (Jvm.Cond.code ({ cls := "AmendedDrawingModel", name := "behind", desc := "(I)I" } : Jvm.MethodName) prog_9_method_7_code (3 : Nat) (Option.some Jvm.ClassFile.FieldType.int)) ∈ TT := tt_mem 785 rfl rfl
set_option maxRecDepth 20000 in
theorem w_786 : (Jvm.Cond.methodLink "AmendedDrawingModel" (64 : Nat) ({ cls := "AmendedDrawingModel", name := "takeOut", desc := "(II)V" } : Jvm.MethodName)) ∈ TT := tt_mem 786 rfl rfl
set_option maxRecDepth 20000 in
theorem w_788 : (Jvm.Cond.instanceMethod ({ cls := "AmendedDrawingModel", name := "takeOut", desc := "(II)V" } : Jvm.MethodName)) ∈ TT := tt_mem 788 rfl rfl
set_option maxRecDepth 20000 in
theorem w_789 : (Jvm.Cond.code ({ cls := "AmendedDrawingModel", name := "takeOut", desc := "(II)V" } : Jvm.MethodName) prog_9_method_9_code (4 : Nat) (Option.none : Option Jvm.ClassFile.FieldType)) ∈ TT := tt_mem 789 rfl rfl
set_option maxRecDepth 20000 in
theorem w_790 : (Jvm.Cond.methodLink "AmendedDrawingModel" (60 : Nat) ({ cls := "AmendedDrawingModel", name := "copyCells", desc := "(II)V" } : Jvm.MethodName)) ∈ TT := tt_mem 790 rfl rfl
set_option maxRecDepth 20000 in
theorem w_792 : (Jvm.Cond.instanceMethod ({ cls := "AmendedDrawingModel", name := "copyCells", desc := "(II)V" } : Jvm.MethodName)) ∈ TT := tt_mem 792 rfl rfl
set_option maxRecDepth 20000 in
theorem w_793 : (Jvm.Cond.code ({ cls := "AmendedDrawingModel", name := "copyCells", desc := "(II)V" } : Jvm.MethodName) prog_9_method_8_code (4 : Nat) (Option.none : Option Jvm.ClassFile.FieldType)) ∈ TT := tt_mem 793 rfl rfl
set_option maxRecDepth 20000 in
theorem w_794 : (Jvm.Cond.methodLink "AmendedDrawingModel" (107 : Nat) ({ cls := "AmendedDrawingModel", name := "shift", desc := "(IIII)V" } : Jvm.MethodName)) ∈ TT := tt_mem 794 rfl rfl
set_option maxRecDepth 20000 in
theorem w_796 : (Jvm.Cond.instanceMethod ({ cls := "AmendedDrawingModel", name := "shift", desc := "(IIII)V" } : Jvm.MethodName)) ∈ TT := tt_mem 796 rfl rfl
set_option maxRecDepth 20000 in
theorem w_797 : (Jvm.Cond.code ({ cls := "AmendedDrawingModel", name := "shift", desc := "(IIII)V" } : Jvm.MethodName) prog_9_method_14_code (6 : Nat) (Option.none : Option Jvm.ClassFile.FieldType)) ∈ TT := tt_mem 797 rfl rfl
set_option maxRecDepth 20000 in
theorem w_798 : (Jvm.Cond.methodLink "AmendedDrawingModel" (122 : Nat) ({ cls := "AmendedDrawingModel", name := "scale", desc := "(IIII)V" } : Jvm.MethodName)) ∈ TT := tt_mem 798 rfl rfl
set_option maxRecDepth 20000 in
theorem w_800 : (Jvm.Cond.instanceMethod ({ cls := "AmendedDrawingModel", name := "scale", desc := "(IIII)V" } : Jvm.MethodName)) ∈ TT := tt_mem 800 rfl rfl
set_option maxRecDepth 20000 in
theorem w_801 : (Jvm.Cond.code ({ cls := "AmendedDrawingModel", name := "scale", desc := "(IIII)V" } : Jvm.MethodName) prog_9_method_20_code (8 : Nat) (Option.none : Option Jvm.ClassFile.FieldType)) ∈ TT := tt_mem 801 rfl rfl
set_option maxRecDepth 20000 in
theorem w_802 : (Jvm.Cond.methodLink "AmendedDrawingModel" (94 : Nat) ({ cls := "AmendedDrawingModel", name := "findBox", desc := "(II)V" } : Jvm.MethodName)) ∈ TT := tt_mem 802 rfl rfl
set_option maxRecDepth 20000 in
theorem w_804 : (Jvm.Cond.instanceMethod ({ cls := "AmendedDrawingModel", name := "findBox", desc := "(II)V" } : Jvm.MethodName)) ∈ TT := tt_mem 804 rfl rfl
set_option maxRecDepth 20000 in
theorem w_805 : (Jvm.Cond.code ({ cls := "AmendedDrawingModel", name := "findBox", desc := "(II)V" } : Jvm.MethodName) prog_9_method_13_code (6 : Nat) (Option.none : Option Jvm.ClassFile.FieldType)) ∈ TT := tt_mem 805 rfl rfl
set_option maxRecDepth 20000 in
theorem w_806 : (Jvm.Cond.constant "AmendedDrawingModel" (70 : Nat) (100000 : Int32)) ∈ TT := tt_mem 806 rfl rfl
set_option maxRecDepth 20000 in
theorem w_807 : (Jvm.Cond.constant "AmendedDrawingModel" (77 : Nat) (-100000 : Int32)) ∈ TT := tt_mem 807 rfl rfl
set_option maxRecDepth 20000 in
theorem w_808 : (Jvm.Cond.methodLink "AmendedDrawingModel" (97 : Nat) ({ cls := "AmendedDrawingModel", name := "scaled", desc := "(III)I" } : Jvm.MethodName)) ∈ TT := tt_mem 808 rfl rfl
set_option maxRecDepth 20000 in
theorem w_809 : (Jvm.Cond.static ({ cls := "AmendedDrawingModel", name := "scaled", desc := "(III)I" } : Jvm.MethodName)) ∈ TT := tt_mem 809 rfl rfl
set_option maxRecDepth 20000 in
theorem w_810 : (Jvm.Cond.code ({ cls := "AmendedDrawingModel", name := "scaled", desc := "(III)I" } : Jvm.MethodName) prog_9_method_19_code (3 : Nat) (Option.some Jvm.ClassFile.FieldType.int)) ∈ TT := tt_mem 810 rfl rfl
set_option maxRecDepth 20000 in
theorem w_811 : (Jvm.Cond.methodLink "AmendedDrawingModel" (125 : Nat) ({ cls := "AmendedDrawingModel", name := "raise", desc := "(IZ)V" } : Jvm.MethodName)) ∈ TT := tt_mem 811 rfl rfl
set_option maxRecDepth 20000 in
theorem w_813 : (Jvm.Cond.instanceMethod ({ cls := "AmendedDrawingModel", name := "raise", desc := "(IZ)V" } : Jvm.MethodName)) ∈ TT := tt_mem 813 rfl rfl
set_option maxRecDepth 20000 in
theorem w_814 : (Jvm.Cond.code ({ cls := "AmendedDrawingModel", name := "raise", desc := "(IZ)V" } : Jvm.MethodName) prog_9_method_21_code (6 : Nat) (Option.none : Option Jvm.ClassFile.FieldType)) ∈ TT := tt_mem 814 rfl rfl
set_option maxRecDepth 20000 in
theorem w_815 : (Jvm.Cond.methodLink "AmendedDrawingModel" (101 : Nat) ({ cls := "AmendedDrawingModel", name := "lift", desc := "(II)V" } : Jvm.MethodName)) ∈ TT := tt_mem 815 rfl rfl
set_option maxRecDepth 20000 in
theorem w_817 : (Jvm.Cond.instanceMethod ({ cls := "AmendedDrawingModel", name := "lift", desc := "(II)V" } : Jvm.MethodName)) ∈ TT := tt_mem 817 rfl rfl
set_option maxRecDepth 20000 in
theorem w_818 : (Jvm.Cond.code ({ cls := "AmendedDrawingModel", name := "lift", desc := "(II)V" } : Jvm.MethodName) prog_9_method_11_code (4 : Nat) (Option.none : Option Jvm.ClassFile.FieldType)) ∈ TT := tt_mem 818 rfl rfl
set_option maxRecDepth 20000 in
theorem w_819 : (Jvm.Cond.methodLink "AmendedDrawingModel" (104 : Nat) ({ cls := "AmendedDrawingModel", name := "lay", desc := "(II)V" } : Jvm.MethodName)) ∈ TT := tt_mem 819 rfl rfl
set_option maxRecDepth 20000 in
theorem w_821 : (Jvm.Cond.instanceMethod ({ cls := "AmendedDrawingModel", name := "lay", desc := "(II)V" } : Jvm.MethodName)) ∈ TT := tt_mem 821 rfl rfl
set_option maxRecDepth 20000 in
theorem w_822 : (Jvm.Cond.code ({ cls := "AmendedDrawingModel", name := "lay", desc := "(II)V" } : Jvm.MethodName) prog_9_method_12_code (4 : Nat) (Option.none : Option Jvm.ClassFile.FieldType)) ∈ TT := tt_mem 822 rfl rfl
set_option maxRecDepth 20000 in
theorem w_823 : (Jvm.Cond.methodLink "AmendedDrawingModel" (67 : Nat) ({ cls := "AmendedDrawingModel", name := "makeRoom", desc := "(II)V" } : Jvm.MethodName)) ∈ TT := tt_mem 823 rfl rfl
set_option maxRecDepth 20000 in
theorem w_825 : (Jvm.Cond.instanceMethod ({ cls := "AmendedDrawingModel", name := "makeRoom", desc := "(II)V" } : Jvm.MethodName)) ∈ TT := tt_mem 825 rfl rfl
set_option maxRecDepth 20000 in
theorem w_826 : (Jvm.Cond.code ({ cls := "AmendedDrawingModel", name := "makeRoom", desc := "(II)V" } : Jvm.MethodName) prog_9_method_10_code (4 : Nat) (Option.none : Option Jvm.ClassFile.FieldType)) ∈ TT := tt_mem 826 rfl rfl
set_option maxRecDepth 20000 in
theorem w_827 : (Jvm.Cond.methodLink "AmendedDrawingModel" (129 : Nat) ({ cls := "AmendedDrawingModel", name := "group", desc := "(III)V" } : Jvm.MethodName)) ∈ TT := tt_mem 827 rfl rfl
set_option maxRecDepth 20000 in
theorem w_829 : (Jvm.Cond.instanceMethod ({ cls := "AmendedDrawingModel", name := "group", desc := "(III)V" } : Jvm.MethodName)) ∈ TT := tt_mem 829 rfl rfl
set_option maxRecDepth 20000 in
theorem w_830 : (Jvm.Cond.code ({ cls := "AmendedDrawingModel", name := "group", desc := "(III)V" } : Jvm.MethodName) prog_9_method_22_code (9 : Nat) (Option.none : Option Jvm.ClassFile.FieldType)) ∈ TT := tt_mem 830 rfl rfl
set_option maxRecDepth 20000 in
theorem w_831 : (Jvm.Cond.methodLink "AmendedDrawingModel" (132 : Nat) ({ cls := "AmendedDrawingModel", name := "ungroup", desc := "(I)V" } : Jvm.MethodName)) ∈ TT := tt_mem 831 rfl rfl
set_option maxRecDepth 20000 in
theorem w_833 : (Jvm.Cond.instanceMethod ({ cls := "AmendedDrawingModel", name := "ungroup", desc := "(I)V" } : Jvm.MethodName)) ∈ TT := tt_mem 833 rfl rfl
set_option maxRecDepth 20000 in
theorem w_834 : (Jvm.Cond.code ({ cls := "AmendedDrawingModel", name := "ungroup", desc := "(I)V" } : Jvm.MethodName) prog_9_method_23_code (5 : Nat) (Option.none : Option Jvm.ClassFile.FieldType)) ∈ TT := tt_mem 834 rfl rfl
set_option maxRecDepth 20000 in
theorem w_835 : (Jvm.Cond.methodLink "AmendedDrawingModel" (135 : Nat) ({ cls := "AmendedDrawingModel", name := "twice", desc := "(IIII)V" } : Jvm.MethodName)) ∈ TT := tt_mem 835 rfl rfl
set_option maxRecDepth 20000 in
theorem w_837 : (Jvm.Cond.instanceMethod ({ cls := "AmendedDrawingModel", name := "twice", desc := "(IIII)V" } : Jvm.MethodName)) ∈ TT := tt_mem 837 rfl rfl
set_option maxRecDepth 20000 in
theorem w_838 : (Jvm.Cond.code ({ cls := "AmendedDrawingModel", name := "twice", desc := "(IIII)V" } : Jvm.MethodName) prog_9_method_24_code (5 : Nat) (Option.none : Option Jvm.ClassFile.FieldType)) ∈ TT := tt_mem 838 rfl rfl
set_option maxRecDepth 20000 in
theorem w_839 : (Jvm.Cond.methodLink "AmendedDrawingModel" (138 : Nat) ({ cls := "AmendedDrawingModel", name := "align", desc := "(III)V" } : Jvm.MethodName)) ∈ TT := tt_mem 839 rfl rfl
set_option maxRecDepth 20000 in
theorem w_841 : (Jvm.Cond.instanceMethod ({ cls := "AmendedDrawingModel", name := "align", desc := "(III)V" } : Jvm.MethodName)) ∈ TT := tt_mem 841 rfl rfl
set_option maxRecDepth 20000 in
theorem w_842 : (Jvm.Cond.code ({ cls := "AmendedDrawingModel", name := "align", desc := "(III)V" } : Jvm.MethodName) prog_9_method_25_code (10 : Nat) (Option.none : Option Jvm.ClassFile.FieldType)) ∈ TT := tt_mem 842 rfl rfl
set_option maxRecDepth 20000 in
theorem w_843 : (Jvm.Cond.methodLink "AmendedDrawingModel" (150 : Nat) ({ cls := "AmendedDrawingModel", name := "holdLimits", desc := "()Z" } : Jvm.MethodName)) ∈ TT := tt_mem 843 rfl rfl
set_option maxRecDepth 20000 in
theorem w_845 : (Jvm.Cond.instanceMethod ({ cls := "AmendedDrawingModel", name := "holdLimits", desc := "()Z" } : Jvm.MethodName)) ∈ TT := tt_mem 845 rfl rfl
set_option maxRecDepth 20000 in
theorem w_846 : (Jvm.Cond.code ({ cls := "AmendedDrawingModel", name := "holdLimits", desc := "()Z" } : Jvm.MethodName) prog_9_method_15_code (3 : Nat) (Option.some Jvm.ClassFile.FieldType.boolean)) ∈ TT := tt_mem 846 rfl rfl
set_option maxRecDepth 20000 in
theorem w_847 : (Jvm.Cond.methodLink "AmendedDrawingModel" (177 : Nat) ({ cls := "AmendedDrawingModel", name := "note", desc := "(IIIII)V" } : Jvm.MethodName)) ∈ TT := tt_mem 847 rfl rfl
set_option maxRecDepth 20000 in
theorem w_849 : (Jvm.Cond.instanceMethod ({ cls := "AmendedDrawingModel", name := "note", desc := "(IIIII)V" } : Jvm.MethodName)) ∈ TT := tt_mem 849 rfl rfl
set_option maxRecDepth 20000 in
theorem w_850 : (Jvm.Cond.code ({ cls := "AmendedDrawingModel", name := "note", desc := "(IIIII)V" } : Jvm.MethodName) prog_9_method_35_code (7 : Nat) (Option.none : Option Jvm.ClassFile.FieldType)) ∈ TT := tt_mem 850 rfl rfl
set_option maxRecDepth 20000 in
theorem w_852 : (Jvm.Cond.instanceMethod ({ cls := "AmendedDrawingModel", name := "withdraw", desc := "(I)I" } : Jvm.MethodName)) ∈ TT := tt_mem 852 rfl rfl
set_option maxRecDepth 20000 in
theorem w_853 : (Jvm.Cond.selects "AmendedDrawingModel" ({ cls := "AmendedDrawingModel", name := "withdraw", desc := "(I)I" } : Jvm.MethodName) ({ cls := "AmendedDrawingModel", name := "withdraw", desc := "(I)I" } : Jvm.MethodName)) ∈ TT := tt_mem 853 rfl rfl
set_option maxRecDepth 20000 in
theorem w_854 : (Jvm.Cond.code ({ cls := "AmendedDrawingModel", name := "withdraw", desc := "(I)I" } : Jvm.MethodName) prog_9_method_40_code (2 : Nat) (Option.some Jvm.ClassFile.FieldType.int)) ∈ TT := tt_mem 854 rfl rfl
set_option maxRecDepth 20000 in
theorem w_855 : (Jvm.Cond.methodLink "AmendedDrawingModel" (189 : Nat) ({ cls := "AmendedDrawingModel", name := "turn", desc := "(IZ)I" } : Jvm.MethodName)) ∈ TT := tt_mem 855 rfl rfl
set_option maxRecDepth 20000 in
theorem w_857 : (Jvm.Cond.instanceMethod ({ cls := "AmendedDrawingModel", name := "turn", desc := "(IZ)I" } : Jvm.MethodName)) ∈ TT := tt_mem 857 rfl rfl
set_option maxRecDepth 20000 in
theorem w_858 : (Jvm.Cond.code ({ cls := "AmendedDrawingModel", name := "turn", desc := "(IZ)I" } : Jvm.MethodName) prog_9_method_39_code (3 : Nat) (Option.some Jvm.ClassFile.FieldType.int)) ∈ TT := tt_mem 858 rfl rfl
set_option maxRecDepth 20000 in
theorem w_859 : (Jvm.Cond.methodLink "AmendedDrawingModel" (180 : Nat) ({ cls := "AmendedDrawingModel", name := "isAction", desc := "(I)Z" } : Jvm.MethodName)) ∈ TT := tt_mem 859 rfl rfl
set_option maxRecDepth 20000 in
theorem w_861 : (Jvm.Cond.instanceMethod ({ cls := "AmendedDrawingModel", name := "isAction", desc := "(I)Z" } : Jvm.MethodName)) ∈ TT := tt_mem 861 rfl rfl
set_option maxRecDepth 20000 in
theorem w_862 : (Jvm.Cond.code ({ cls := "AmendedDrawingModel", name := "isAction", desc := "(I)Z" } : Jvm.MethodName) prog_9_method_38_code (2 : Nat) (Option.some Jvm.ClassFile.FieldType.boolean)) ∈ TT := tt_mem 862 rfl rfl
set_option maxRecDepth 20000 in
theorem w_863 : (Jvm.Cond.methodLink "AmendedDrawingModel" (183 : Nat) ({ cls := "AmendedDrawingModel", name := "remember", desc := "()V" } : Jvm.MethodName)) ∈ TT := tt_mem 863 rfl rfl
set_option maxRecDepth 20000 in
theorem w_865 : (Jvm.Cond.instanceMethod ({ cls := "AmendedDrawingModel", name := "remember", desc := "()V" } : Jvm.MethodName)) ∈ TT := tt_mem 865 rfl rfl
set_option maxRecDepth 20000 in
theorem w_866 : (Jvm.Cond.code ({ cls := "AmendedDrawingModel", name := "remember", desc := "()V" } : Jvm.MethodName) prog_9_method_30_code (2 : Nat) (Option.none : Option Jvm.ClassFile.FieldType)) ∈ TT := tt_mem 866 rfl rfl
set_option maxRecDepth 20000 in
theorem w_867 : (Jvm.Cond.methodLink "AmendedDrawingModel" (186 : Nat) ({ cls := "AmendedDrawingModel", name := "others", desc := "(I)I" } : Jvm.MethodName)) ∈ TT := tt_mem 867 rfl rfl
set_option maxRecDepth 20000 in
theorem w_869 : (Jvm.Cond.instanceMethod ({ cls := "AmendedDrawingModel", name := "others", desc := "(I)I" } : Jvm.MethodName)) ∈ TT := tt_mem 869 rfl rfl
set_option maxRecDepth 20000 in
theorem w_870 : (Jvm.Cond.code ({ cls := "AmendedDrawingModel", name := "others", desc := "(I)I" } : Jvm.MethodName) prog_9_method_31_code (4 : Nat) (Option.some Jvm.ClassFile.FieldType.int)) ∈ TT := tt_mem 870 rfl rfl
set_option maxRecDepth 20000 in
theorem w_872 : (Jvm.Cond.instanceMethod ({ cls := "AmendedDrawingModel", name := "reinstate", desc := "(I)I" } : Jvm.MethodName)) ∈ TT := tt_mem 872 rfl rfl
set_option maxRecDepth 20000 in
theorem w_873 : (Jvm.Cond.selects "AmendedDrawingModel" ({ cls := "AmendedDrawingModel", name := "reinstate", desc := "(I)I" } : Jvm.MethodName) ({ cls := "AmendedDrawingModel", name := "reinstate", desc := "(I)I" } : Jvm.MethodName)) ∈ TT := tt_mem 873 rfl rfl
set_option maxRecDepth 20000 in
theorem w_874 : (Jvm.Cond.code ({ cls := "AmendedDrawingModel", name := "reinstate", desc := "(I)I" } : Jvm.MethodName) prog_9_method_41_code (2 : Nat) (Option.some Jvm.ClassFile.FieldType.int)) ∈ TT := tt_mem 874 rfl rfl
set_option maxRecDepth 20000 in
theorem w_876 : (Jvm.Cond.instanceMethod ({ cls := "AmendedDrawingModel", name := "amend", desc := "(III)I" } : Jvm.MethodName)) ∈ TT := tt_mem 876 rfl rfl
set_option maxRecDepth 20000 in
theorem w_877 : (Jvm.Cond.selects "AmendedDrawingModel" ({ cls := "AmendedDrawingModel", name := "amend", desc := "(III)I" } : Jvm.MethodName) ({ cls := "AmendedDrawingModel", name := "amend", desc := "(III)I" } : Jvm.MethodName)) ∈ TT := tt_mem 877 rfl rfl
set_option maxRecDepth 20000 in
theorem w_878 : (Jvm.Cond.code ({ cls := "AmendedDrawingModel", name := "amend", desc := "(III)I" } : Jvm.MethodName) prog_9_method_42_code (6 : Nat) (Option.some Jvm.ClassFile.FieldType.int)) ∈ TT := tt_mem 878 rfl rfl
set_option maxRecDepth 20000 in
theorem w_880 : (Jvm.Cond.instanceMethod ({ cls := "AmendedDrawingModel", name := "undo", desc := "()I" } : Jvm.MethodName)) ∈ TT := tt_mem 880 rfl rfl
set_option maxRecDepth 20000 in
theorem w_881 : (Jvm.Cond.selects "AmendedDrawingModel" ({ cls := "AmendedDrawingModel", name := "undo", desc := "()I" } : Jvm.MethodName) ({ cls := "AmendedDrawingModel", name := "undo", desc := "()I" } : Jvm.MethodName)) ∈ TT := tt_mem 881 rfl rfl
set_option maxRecDepth 20000 in
theorem w_882 : (Jvm.Cond.code ({ cls := "AmendedDrawingModel", name := "undo", desc := "()I" } : Jvm.MethodName) prog_9_method_44_code (1 : Nat) (Option.some Jvm.ClassFile.FieldType.int)) ∈ TT := tt_mem 882 rfl rfl
set_option maxRecDepth 20000 in
theorem w_883 : (Jvm.Cond.methodLink "AmendedDrawingModel" (193 : Nat) ({ cls := "AmendedDrawingModel", name := "carry", desc := "(IZ)I" } : Jvm.MethodName)) ∈ TT := tt_mem 883 rfl rfl
set_option maxRecDepth 20000 in
theorem w_885 : (Jvm.Cond.instanceMethod ({ cls := "AmendedDrawingModel", name := "carry", desc := "(IZ)I" } : Jvm.MethodName)) ∈ TT := tt_mem 885 rfl rfl
set_option maxRecDepth 20000 in
theorem w_886 : (Jvm.Cond.code ({ cls := "AmendedDrawingModel", name := "carry", desc := "(IZ)I" } : Jvm.MethodName) prog_9_method_43_code (5 : Nat) (Option.some Jvm.ClassFile.FieldType.int)) ∈ TT := tt_mem 886 rfl rfl
set_option maxRecDepth 20000 in
theorem w_888 : (Jvm.Cond.instanceMethod ({ cls := "AmendedDrawingModel", name := "redo", desc := "()I" } : Jvm.MethodName)) ∈ TT := tt_mem 888 rfl rfl
set_option maxRecDepth 20000 in
theorem w_889 : (Jvm.Cond.selects "AmendedDrawingModel" ({ cls := "AmendedDrawingModel", name := "redo", desc := "()I" } : Jvm.MethodName) ({ cls := "AmendedDrawingModel", name := "redo", desc := "()I" } : Jvm.MethodName)) ∈ TT := tt_mem 889 rfl rfl
set_option maxRecDepth 20000 in
theorem w_890 : (Jvm.Cond.code ({ cls := "AmendedDrawingModel", name := "redo", desc := "()I" } : Jvm.MethodName) prog_9_method_45_code (1 : Nat) (Option.some Jvm.ClassFile.FieldType.int)) ∈ TT := tt_mem 890 rfl rfl
set_option maxRecDepth 20000 in
theorem w_892 : (Jvm.Cond.instanceMethod ({ cls := "AmendedDrawingModel", name := "actions", desc := "()I" } : Jvm.MethodName)) ∈ TT := tt_mem 892 rfl rfl
set_option maxRecDepth 20000 in
theorem w_893 : (Jvm.Cond.selects "AmendedDrawingModel" ({ cls := "AmendedDrawingModel", name := "actions", desc := "()I" } : Jvm.MethodName) ({ cls := "AmendedDrawingModel", name := "actions", desc := "()I" } : Jvm.MethodName)) ∈ TT := tt_mem 893 rfl rfl
set_option maxRecDepth 20000 in
theorem w_894 : (Jvm.Cond.code ({ cls := "AmendedDrawingModel", name := "actions", desc := "()I" } : Jvm.MethodName) prog_9_method_46_code (1 : Nat) (Option.some Jvm.ClassFile.FieldType.int)) ∈ TT := tt_mem 894 rfl rfl
set_option maxRecDepth 20000 in
theorem w_896 : (Jvm.Cond.instanceMethod ({ cls := "AmendedDrawingModel", name := "argument", desc := "(II)I" } : Jvm.MethodName)) ∈ TT := tt_mem 896 rfl rfl
set_option maxRecDepth 20000 in
theorem w_897 : (Jvm.Cond.selects "AmendedDrawingModel" ({ cls := "AmendedDrawingModel", name := "argument", desc := "(II)I" } : Jvm.MethodName) ({ cls := "AmendedDrawingModel", name := "argument", desc := "(II)I" } : Jvm.MethodName)) ∈ TT := tt_mem 897 rfl rfl
set_option maxRecDepth 20000 in
theorem w_898 : (Jvm.Cond.code ({ cls := "AmendedDrawingModel", name := "argument", desc := "(II)I" } : Jvm.MethodName) prog_9_method_47_code (3 : Nat) (Option.some Jvm.ClassFile.FieldType.int)) ∈ TT := tt_mem 898 rfl rfl
set_option maxRecDepth 20000 in
theorem w_900 : (Jvm.Cond.instanceMethod ({ cls := "AmendedDrawingModel", name := "effect", desc := "(I)I" } : Jvm.MethodName)) ∈ TT := tt_mem 900 rfl rfl
set_option maxRecDepth 20000 in
theorem w_901 : (Jvm.Cond.selects "AmendedDrawingModel" ({ cls := "AmendedDrawingModel", name := "effect", desc := "(I)I" } : Jvm.MethodName) ({ cls := "AmendedDrawingModel", name := "effect", desc := "(I)I" } : Jvm.MethodName)) ∈ TT := tt_mem 901 rfl rfl
set_option maxRecDepth 20000 in
theorem w_902 : (Jvm.Cond.code ({ cls := "AmendedDrawingModel", name := "effect", desc := "(I)I" } : Jvm.MethodName) prog_9_method_48_code (2 : Nat) (Option.some Jvm.ClassFile.FieldType.int)) ∈ TT := tt_mem 902 rfl rfl
set_option maxRecDepth 20000 in
theorem w_904 : (Jvm.Cond.instanceMethod ({ cls := "AmendedDrawingModel", name := "needed", desc := "(II)I" } : Jvm.MethodName)) ∈ TT := tt_mem 904 rfl rfl
set_option maxRecDepth 20000 in
theorem w_905 : (Jvm.Cond.selects "AmendedDrawingModel" ({ cls := "AmendedDrawingModel", name := "needed", desc := "(II)I" } : Jvm.MethodName) ({ cls := "AmendedDrawingModel", name := "needed", desc := "(II)I" } : Jvm.MethodName)) ∈ TT := tt_mem 905 rfl rfl
set_option maxRecDepth 20000 in
theorem w_906 : (Jvm.Cond.code ({ cls := "AmendedDrawingModel", name := "needed", desc := "(II)I" } : Jvm.MethodName) prog_9_method_49_code (6 : Nat) (Option.some Jvm.ClassFile.FieldType.int)) ∈ TT := tt_mem 906 rfl rfl
set_option maxRecDepth 20000 in
theorem w_908 : (Jvm.Cond.instanceMethod ({ cls := "AmendedDrawingModel", name := "needs", desc := "(II)I" } : Jvm.MethodName)) ∈ TT := tt_mem 908 rfl rfl
set_option maxRecDepth 20000 in
theorem w_909 : (Jvm.Cond.selects "AmendedDrawingModel" ({ cls := "AmendedDrawingModel", name := "needs", desc := "(II)I" } : Jvm.MethodName) ({ cls := "AmendedDrawingModel", name := "needs", desc := "(II)I" } : Jvm.MethodName)) ∈ TT := tt_mem 909 rfl rfl
set_option maxRecDepth 20000 in
theorem w_910 : (Jvm.Cond.code ({ cls := "AmendedDrawingModel", name := "needs", desc := "(II)I" } : Jvm.MethodName) prog_9_method_50_code (7 : Nat) (Option.some Jvm.ClassFile.FieldType.int)) ∈ TT := tt_mem 910 rfl rfl
set_option maxRecDepth 20000 in
theorem w_912 : (Jvm.Cond.instanceMethod ({ cls := "AmendedDrawingModel", name := "objects", desc := "()I" } : Jvm.MethodName)) ∈ TT := tt_mem 912 rfl rfl
set_option maxRecDepth 20000 in
theorem w_913 : (Jvm.Cond.selects "AmendedDrawingModel" ({ cls := "AmendedDrawingModel", name := "objects", desc := "()I" } : Jvm.MethodName) ({ cls := "AmendedDrawingModel", name := "objects", desc := "()I" } : Jvm.MethodName)) ∈ TT := tt_mem 913 rfl rfl
set_option maxRecDepth 20000 in
theorem w_914 : (Jvm.Cond.code ({ cls := "AmendedDrawingModel", name := "objects", desc := "()I" } : Jvm.MethodName) prog_9_method_51_code (1 : Nat) (Option.some Jvm.ClassFile.FieldType.int)) ∈ TT := tt_mem 914 rfl rfl
set_option maxRecDepth 20000 in
theorem w_916 : (Jvm.Cond.instanceMethod ({ cls := "AmendedDrawingModel", name := "object", desc := "(II)I" } : Jvm.MethodName)) ∈ TT := tt_mem 916 rfl rfl
set_option maxRecDepth 20000 in
theorem w_917 : (Jvm.Cond.selects "AmendedDrawingModel" ({ cls := "AmendedDrawingModel", name := "object", desc := "(II)I" } : Jvm.MethodName) ({ cls := "AmendedDrawingModel", name := "object", desc := "(II)I" } : Jvm.MethodName)) ∈ TT := tt_mem 917 rfl rfl
set_option maxRecDepth 20000 in
theorem w_918 : (Jvm.Cond.code ({ cls := "AmendedDrawingModel", name := "object", desc := "(II)I" } : Jvm.MethodName) prog_9_method_52_code (3 : Nat) (Option.some Jvm.ClassFile.FieldType.int)) ∈ TT := tt_mem 918 rfl rfl
set_option maxRecDepth 20000 in
theorem w_920 : (Jvm.Cond.instanceMethod ({ cls := "AmendedDrawingModel", name := "hit", desc := "(II)I" } : Jvm.MethodName)) ∈ TT := tt_mem 920 rfl rfl
set_option maxRecDepth 20000 in
theorem w_921 : (Jvm.Cond.selects "AmendedDrawingModel" ({ cls := "AmendedDrawingModel", name := "hit", desc := "(II)I" } : Jvm.MethodName) ({ cls := "AmendedDrawingModel", name := "hit", desc := "(II)I" } : Jvm.MethodName)) ∈ TT := tt_mem 921 rfl rfl
set_option maxRecDepth 20000 in
theorem w_922 : (Jvm.Cond.code ({ cls := "AmendedDrawingModel", name := "hit", desc := "(II)I" } : Jvm.MethodName) prog_9_method_56_code (4 : Nat) (Option.some Jvm.ClassFile.FieldType.int)) ∈ TT := tt_mem 922 rfl rfl
set_option maxRecDepth 20000 in
theorem w_923 : (Jvm.Cond.methodLink "AmendedDrawingModel" (205 : Nat) ({ cls := "AmendedDrawingModel", name := "covering", desc := "(II)I" } : Jvm.MethodName)) ∈ TT := tt_mem 923 rfl rfl
set_option maxRecDepth 20000 in
theorem w_925 : (Jvm.Cond.instanceMethod ({ cls := "AmendedDrawingModel", name := "covering", desc := "(II)I" } : Jvm.MethodName)) ∈ TT := tt_mem 925 rfl rfl
set_option maxRecDepth 20000 in
theorem w_926 : (Jvm.Cond.code ({ cls := "AmendedDrawingModel", name := "covering", desc := "(II)I" } : Jvm.MethodName) prog_9_method_55_code (5 : Nat) (Option.some Jvm.ClassFile.FieldType.int)) ∈ TT := tt_mem 926 rfl rfl
set_option maxRecDepth 20000 in
theorem w_927 : (Jvm.Cond.methodLink "AmendedDrawingModel" (202 : Nat) ({ cls := "AmendedDrawingModel", name := "covers", desc := "(III)Z" } : Jvm.MethodName)) ∈ TT := tt_mem 927 rfl rfl
set_option maxRecDepth 20000 in
theorem w_929 : (Jvm.Cond.instanceMethod ({ cls := "AmendedDrawingModel", name := "covers", desc := "(III)Z" } : Jvm.MethodName)) ∈ TT := tt_mem 929 rfl rfl
set_option maxRecDepth 20000 in
theorem w_930 : (Jvm.Cond.code ({ cls := "AmendedDrawingModel", name := "covers", desc := "(III)Z" } : Jvm.MethodName) prog_9_method_54_code (12 : Nat) (Option.some Jvm.ClassFile.FieldType.boolean)) ∈ TT := tt_mem 930 rfl rfl
set_option maxRecDepth 20000 in
theorem w_931 : (Jvm.Cond.constantLong "AmendedDrawingModel" (196 : Nat) (2 : Int64)) ∈ TT := tt_mem 931 rfl rfl
set_option maxRecDepth 20000 in
theorem w_932 : (Jvm.Cond.methodLink "AmendedDrawingModel" (198 : Nat) ({ cls := "AmendedDrawingModel", name := "size", desc := "(J)J" } : Jvm.MethodName)) ∈ TT := tt_mem 932 rfl rfl
set_option maxRecDepth 20000 in
theorem w_933 : (Jvm.Cond.static ({ cls := "AmendedDrawingModel", name := "size", desc := "(J)J" } : Jvm.MethodName)) ∈ TT := tt_mem 933 rfl rfl
set_option maxRecDepth 20000 in
theorem w_934 : (Jvm.Cond.code ({ cls := "AmendedDrawingModel", name := "size", desc := "(J)J" } : Jvm.MethodName) prog_9_method_53_code (2 : Nat) (Option.some Jvm.ClassFile.FieldType.long)) ∈ TT := tt_mem 934 rfl rfl
set_option maxRecDepth 20000 in
theorem w_936 : (Jvm.Cond.instanceMethod ({ cls := "AmendedDrawingModel", name := "shown", desc := "(IIII)I" } : Jvm.MethodName)) ∈ TT := tt_mem 936 rfl rfl
set_option maxRecDepth 20000 in
theorem w_937 : (Jvm.Cond.selects "AmendedDrawingModel" ({ cls := "AmendedDrawingModel", name := "shown", desc := "(IIII)I" } : Jvm.MethodName) ({ cls := "AmendedDrawingModel", name := "shown", desc := "(IIII)I" } : Jvm.MethodName)) ∈ TT := tt_mem 937 rfl rfl
set_option maxRecDepth 20000 in
theorem w_938 : (Jvm.Cond.code ({ cls := "AmendedDrawingModel", name := "shown", desc := "(IIII)I" } : Jvm.MethodName) prog_9_method_57_code (8 : Nat) (Option.some Jvm.ClassFile.FieldType.int)) ∈ TT := tt_mem 938 rfl rfl
set_option maxRecDepth 20000 in
theorem w_940 : (Jvm.Cond.instanceMethod ({ cls := "AmendedDrawingModel", name := "inside", desc := "(IIIII)I" } : Jvm.MethodName)) ∈ TT := tt_mem 940 rfl rfl
set_option maxRecDepth 20000 in
theorem w_941 : (Jvm.Cond.selects "AmendedDrawingModel" ({ cls := "AmendedDrawingModel", name := "inside", desc := "(IIIII)I" } : Jvm.MethodName) ({ cls := "AmendedDrawingModel", name := "inside", desc := "(IIIII)I" } : Jvm.MethodName)) ∈ TT := tt_mem 941 rfl rfl
set_option maxRecDepth 20000 in
theorem w_942 : (Jvm.Cond.code ({ cls := "AmendedDrawingModel", name := "inside", desc := "(IIIII)I" } : Jvm.MethodName) prog_9_method_58_code (9 : Nat) (Option.some Jvm.ClassFile.FieldType.int)) ∈ TT := tt_mem 942 rfl rfl
set_option maxRecDepth 20000 in
theorem w_max1 : Cond.static Lib.Math.max.name ∈ TT := tt_mem 422 rfl rfl
set_option maxRecDepth 20000 in
theorem w_max3 : Cond.code Lib.Math.max.name Lib.Math.max.code 2 (some .int) ∈ TT := tt_mem 423 rfl rfl
set_option maxRecDepth 20000 in
theorem w_min1 : Cond.static Lib.Math.min.name ∈ TT := tt_mem 419 rfl rfl
set_option maxRecDepth 20000 in
theorem w_min3 : Cond.code Lib.Math.min.name Lib.Math.min.code 2 (some .int) ∈ TT := tt_mem 420 rfl rfl
set_option maxRecDepth 20000 in
theorem w_abs1 : Cond.static Lib.Math.abs.name ∈ TT := tt_mem 228 rfl rfl
set_option maxRecDepth 20000 in
theorem w_abs3 : Cond.code Lib.Math.abs.name Lib.Math.abs.code 1 (some .int) ∈ TT := tt_mem 229 rfl rfl
set_option maxRecDepth 20000 in
theorem w_math : Cond.initialized "java/lang/Math" ∈ TT := tt_mem 14 rfl rfl
set_option maxRecDepth 20000 in
theorem w_cp1 : Cond.native arraycopyName ∈ TT := tt_mem 365 rfl rfl
set_option maxRecDepth 20000 in
theorem w_cp2 : Cond.static arraycopyName ∈ TT := tt_mem 364 rfl rfl
set_option maxRecDepth 20000 in
theorem w_cp3 : Cond.initialized "java/lang/System" ∈ TT := tt_mem 13 rfl rfl
end
section
def T_r_thrown : List Row := [(0, .aload_n 0, 1, 1, 0), (1, .getfield 42, 3, 4, 0), (4, .ireturn, 1, 5, 0)]
abbrev M_r_thrown : MI := (⟨"AmendedDrawingModel", "thrown", "()I"⟩, prog_9_method_2_code, 1, some (.int), { frames := 0, cells := 0, slots := 0, locals := 0 }, [], T_r_thrown)
set_option maxRecDepth 100000 in
theorem ok_r_thrown : okM M_r_thrown := by unfold okM; decide +kernel
set_option maxRecDepth 100000 in
theorem co_r_thrown : CO M_r_thrown := ⟨rfl, by decide +kernel, ok_r_thrown, w_720, w_8, by decide⟩
theorem cv_r_thrown : CV M_r_thrown 0 := ⟨co_r_thrown, w_718, w_719, by decide +kernel⟩
def T_r_of : List Row := [(0, .aload_n 0, 1, 1, 0), (1, .getfield 26, 3, 4, 0), (4, .bipush 8, 2, 6, 0), (6, .iload_n 1, 1, 7, 0), (7, .imul, 1, 8, 0), (8, .iload_n 2, 1, 9, 0), (9, .iadd, 1, 10, 0), (10, .iaload, 1, 11, 0), (11, .ireturn, 1, 12, 0)]
abbrev M_r_of : MI := (⟨"AmendedDrawingModel", "of", "(II)I"⟩, prog_9_method_3_code, 3, some (.int), { frames := 0, cells := 0, slots := 0, locals := 0 }, [], T_r_of)
set_option maxRecDepth 100000 in
theorem ok_r_of : okM M_r_of := by unfold okM; decide +kernel
set_option maxRecDepth 100000 in
theorem co_r_of : CO M_r_of := ⟨rfl, by decide +kernel, ok_r_of, w_757, w_8, by decide⟩
theorem cv_r_of : CV M_r_of 2 := ⟨co_r_of, w_756, (tt_sel 30 rfl rfl), by decide +kernel⟩
def T_r_put : List Row := [(0, .aload_n 0, 1, 1, 0), (1, .getfield 26, 3, 4, 0), (4, .bipush 8, 2, 6, 0), (6, .iload_n 1, 1, 7, 0), (7, .imul, 1, 8, 0), (8, .iload_n 2, 1, 9, 0), (9, .iadd, 1, 10, 0), (10, .iload_n 3, 1, 11, 0), (11, .iastore, 1, 12, 0), (12, .return_, 1, 13, 0)]
abbrev M_r_put : MI := (⟨"AmendedDrawingModel", "put", "(III)V"⟩, prog_9_method_4_code, 4, none, { frames := 0, cells := 0, slots := 0, locals := 0 }, [], T_r_put)
set_option maxRecDepth 100000 in
theorem ok_r_put : okM M_r_put := by unfold okM; decide +kernel
set_option maxRecDepth 100000 in
theorem co_r_put : CO M_r_put := ⟨rfl, by decide +kernel, ok_r_put, w_777, w_8, by decide⟩
theorem cv_r_put : CV M_r_put 3 := ⟨co_r_put, w_776, (tt_sel 35 rfl rfl), by decide +kernel⟩
def T_r_find : List Row := [(0, .iconst (-1), 1, 1, 0), (1, .istore_n 2, 1, 2, 0), (2, .iconst 0, 1, 3, 0), (3, .istore_n 3, 1, 4, 0), (4, .iload_n 3, 1, 5, 0), (5, .aload_n 0, 1, 6, 0), (6, .getfield 45, 3, 9, 0), (9, .if_icmp .ge 25, 3, 12, 34), (12, .aload_n 0, 1, 13, 0), (13, .iload_n 3, 1, 14, 0), (14, .iconst 0, 1, 15, 0), (15, .invokevirtual 48, 3, 18, 0), (18, .iload_n 1, 1, 19, 0), (19, .if_icmp .ne 7, 3, 22, 26), (22, .iload_n 3, 1, 23, 0), (23, .goto 4, 3, 26, 27), (26, .iload_n 2, 1, 27, 0), (27, .istore_n 2, 1, 28, 0), (28, .iinc 3 1, 3, 31, 0), (31, .goto (-27), 3, 34, 4), (34, .iload_n 2, 1, 35, 0), (35, .ireturn, 1, 36, 0)]
abbrev M_r_find : MI := (⟨"AmendedDrawingModel", "find", "(I)I"⟩, prog_9_method_5_code, 4, some (.int), { frames := 1, cells := 0, slots := 0, locals := 22 }, [], T_r_find)
set_option maxRecDepth 100000 in
theorem ok_r_find : okM M_r_find := by unfold okM; decide +kernel
set_option maxRecDepth 100000 in
theorem co_r_find : CO M_r_find := ⟨rfl, by decide +kernel, ok_r_find, w_753, w_8, by decide⟩
theorem cv_r_find : CV M_r_find 1 := ⟨co_r_find, w_752, (tt_sel 29 rfl rfl), by decide +kernel⟩
def T_r_isIn : List Row := [(0, .iload_n 1, 1, 1, 0), (1, .istore_n 3, 1, 2, 0), (2, .iload_n 3, 1, 3, 0), (3, .ifCond .lt 42, 3, 6, 45), (6, .aload_n 0, 1, 7, 0), (7, .iload_n 3, 1, 8, 0), (8, .iconst 0, 1, 9, 0), (9, .invokevirtual 48, 3, 12, 0), (12, .iload_n 2, 1, 13, 0), (13, .if_icmp .eq 32, 3, 16, 45), (16, .aload_n 0, 1, 17, 0), (17, .iload_n 3, 1, 18, 0), (18, .bipush 7, 2, 20, 0), (20, .invokevirtual 48, 3, 23, 0), (23, .ifCond .ge 7, 3, 26, 30), (26, .iconst (-1), 1, 27, 0), (27, .goto 14, 3, 30, 41), (30, .aload_n 0, 1, 31, 0), (31, .aload_n 0, 1, 32, 0), (32, .iload_n 3, 1, 33, 0), (33, .bipush 7, 2, 35, 0), (35, .invokevirtual 48, 3, 38, 0), (38, .invokevirtual 52, 3, 41, 0), (41, .istore_n 3, 1, 42, 0), (42, .goto (-40), 3, 45, 2), (45, .iload_n 3, 1, 46, 0), (46, .ifCond .lt 7, 3, 49, 53), (49, .iconst 1, 1, 50, 0), (50, .goto 4, 3, 53, 54), (53, .iconst 0, 1, 54, 0), (54, .ireturn, 1, 55, 0)]
abbrev M_r_isIn : MI := (⟨"AmendedDrawingModel", "isIn", "(II)Z"⟩, prog_9_method_6_code, 4, some (.boolean), { frames := 2, cells := 0, slots := 0, locals := 45 }, [], T_r_isIn)
set_option maxRecDepth 100000 in
theorem ok_r_isIn : okM M_r_isIn := by unfold okM; decide +kernel
set_option maxRecDepth 100000 in
theorem co_r_isIn : CO M_r_isIn := ⟨rfl, by decide +kernel, ok_r_isIn, w_765, w_8, by decide⟩
theorem cv_r_isIn : CV M_r_isIn 2 := ⟨co_r_isIn, w_764, (tt_sel 32 rfl rfl), by decide +kernel⟩
def T_r_behind : List Row := [(0, .iload_n 1, 1, 1, 0), (1, .iconst 1, 1, 2, 0), (2, .iadd, 1, 3, 0), (3, .istore_n 2, 1, 4, 0), (4, .iload_n 2, 1, 5, 0), (5, .aload_n 0, 1, 6, 0), (6, .getfield 45, 3, 9, 0), (9, .if_icmp .ge 23, 3, 12, 32), (12, .aload_n 0, 1, 13, 0), (13, .iload_n 2, 1, 14, 0), (14, .aload_n 0, 1, 15, 0), (15, .iload_n 1, 1, 16, 0), (16, .iconst 0, 1, 17, 0), (17, .invokevirtual 48, 3, 20, 0), (20, .invokevirtual 56, 3, 23, 0), (23, .ifCond .eq 9, 3, 26, 32), (26, .iinc 2 1, 3, 29, 0), (29, .goto (-25), 3, 32, 4), (32, .iload_n 2, 1, 33, 0), (33, .ireturn, 1, 34, 0)]
abbrev M_r_behind : MI := (⟨"AmendedDrawingModel", "behind", "(I)I"⟩, prog_9_method_7_code, 3, some (.int), { frames := 3, cells := 0, slots := 0, locals := 68 }, [], T_r_behind)
set_option maxRecDepth 100000 in
theorem ok_r_behind : okM M_r_behind := by unfold okM; decide +kernel
set_option maxRecDepth 100000 in
theorem co_r_behind : CO M_r_behind := ⟨rfl, by decide +kernel, ok_r_behind, w_785, w_8, by decide⟩
theorem cv_r_behind : CV M_r_behind 1 := ⟨co_r_behind, w_784, (tt_sel 37 rfl rfl), by decide +kernel⟩
def T_r_copyCells : List Row := [(0, .iconst 0, 1, 1, 0), (1, .istore_n 3, 1, 2, 0), (2, .iload_n 3, 1, 3, 0), (3, .bipush 8, 2, 5, 0), (5, .if_icmp .ge 31, 3, 8, 36), (8, .aload_n 0, 1, 9, 0), (9, .getfield 26, 3, 12, 0), (12, .bipush 8, 2, 14, 0), (14, .iload_n 2, 1, 15, 0), (15, .imul, 1, 16, 0), (16, .iload_n 3, 1, 17, 0), (17, .iadd, 1, 18, 0), (18, .aload_n 0, 1, 19, 0), (19, .getfield 26, 3, 22, 0), (22, .bipush 8, 2, 24, 0), (24, .iload_n 1, 1, 25, 0), (25, .imul, 1, 26, 0), (26, .iload_n 3, 1, 27, 0), (27, .iadd, 1, 28, 0), (28, .iaload, 1, 29, 0), (29, .iastore, 1, 30, 0), (30, .iinc 3 1, 3, 33, 0), (33, .goto (-31), 3, 36, 2), (36, .return_, 1, 37, 0)]
abbrev M_r_copyCells : MI := (⟨"AmendedDrawingModel", "copyCells", "(II)V"⟩, prog_9_method_8_code, 4, none, { frames := 0, cells := 0, slots := 0, locals := 0 }, [], T_r_copyCells)
set_option maxRecDepth 100000 in
theorem ok_r_copyCells : okM M_r_copyCells := by unfold okM; decide +kernel
set_option maxRecDepth 100000 in
theorem co_r_copyCells : CO M_r_copyCells := ⟨rfl, by decide +kernel, ok_r_copyCells, w_793, w_8, by decide⟩
theorem cv_r_copyCells : CV M_r_copyCells 2 := ⟨co_r_copyCells, w_792, (tt_sel 39 rfl rfl), by decide +kernel⟩
def T_r_takeOut : List Row := [(0, .iload_n 2, 1, 1, 0), (1, .istore_n 3, 1, 2, 0), (2, .iload_n 3, 1, 3, 0), (3, .aload_n 0, 1, 4, 0), (4, .getfield 45, 3, 7, 0), (7, .if_icmp .ge 19, 3, 10, 26), (10, .aload_n 0, 1, 11, 0), (11, .iload_n 3, 1, 12, 0), (12, .iload_n 3, 1, 13, 0), (13, .iload_n 2, 1, 14, 0), (14, .iload_n 1, 1, 15, 0), (15, .isub, 1, 16, 0), (16, .isub, 1, 17, 0), (17, .invokevirtual 60, 3, 20, 0), (20, .iinc 3 1, 3, 23, 0), (23, .goto (-21), 3, 26, 2), (26, .aload_n 0, 1, 27, 0), (27, .aload_n 0, 1, 28, 0), (28, .getfield 45, 3, 31, 0), (31, .iload_n 2, 1, 32, 0), (32, .iload_n 1, 1, 33, 0), (33, .isub, 1, 34, 0), (34, .isub, 1, 35, 0), (35, .putfield 45, 3, 38, 0), (38, .return_, 1, 39, 0)]
abbrev M_r_takeOut : MI := (⟨"AmendedDrawingModel", "takeOut", "(II)V"⟩, prog_9_method_9_code, 4, none, { frames := 1, cells := 0, slots := 0, locals := 23 }, [], T_r_takeOut)
set_option maxRecDepth 100000 in
theorem ok_r_takeOut : okM M_r_takeOut := by unfold okM; decide +kernel
set_option maxRecDepth 100000 in
theorem co_r_takeOut : CO M_r_takeOut := ⟨rfl, by decide +kernel, ok_r_takeOut, w_789, w_8, by decide⟩
theorem cv_r_takeOut : CV M_r_takeOut 2 := ⟨co_r_takeOut, w_788, (tt_sel 38 rfl rfl), by decide +kernel⟩
def T_r_makeRoom : List Row := [(0, .aload_n 0, 1, 1, 0), (1, .getfield 45, 3, 4, 0), (4, .iconst 1, 1, 5, 0), (5, .isub, 1, 6, 0), (6, .istore_n 3, 1, 7, 0), (7, .iload_n 3, 1, 8, 0), (8, .iload_n 1, 1, 9, 0), (9, .if_icmp .lt 17, 3, 12, 26), (12, .aload_n 0, 1, 13, 0), (13, .iload_n 3, 1, 14, 0), (14, .iload_n 3, 1, 15, 0), (15, .iload_n 2, 1, 16, 0), (16, .iadd, 1, 17, 0), (17, .invokevirtual 60, 3, 20, 0), (20, .iinc 3 (-1), 3, 23, 0), (23, .goto (-16), 3, 26, 7), (26, .aload_n 0, 1, 27, 0), (27, .aload_n 0, 1, 28, 0), (28, .getfield 45, 3, 31, 0), (31, .iload_n 2, 1, 32, 0), (32, .iadd, 1, 33, 0), (33, .putfield 45, 3, 36, 0), (36, .return_, 1, 37, 0)]
abbrev M_r_makeRoom : MI := (⟨"AmendedDrawingModel", "makeRoom", "(II)V"⟩, prog_9_method_10_code, 4, none, { frames := 1, cells := 0, slots := 0, locals := 23 }, [], T_r_makeRoom)
set_option maxRecDepth 100000 in
theorem ok_r_makeRoom : okM M_r_makeRoom := by unfold okM; decide +kernel
set_option maxRecDepth 100000 in
theorem co_r_makeRoom : CO M_r_makeRoom := ⟨rfl, by decide +kernel, ok_r_makeRoom, w_826, w_8, by decide⟩
theorem cv_r_makeRoom : CV M_r_makeRoom 2 := ⟨co_r_makeRoom, w_825, (tt_sel 46 rfl rfl), by decide +kernel⟩
def T_r_lift : List Row := [(0, .bipush 8, 2, 2, 0), (2, .iload_n 1, 1, 3, 0), (3, .imul, 1, 4, 0), (4, .istore_n 3, 1, 5, 0), (5, .iload_n 3, 1, 6, 0), (6, .bipush 8, 2, 8, 0), (8, .iload_n 2, 1, 9, 0), (9, .imul, 1, 10, 0), (10, .if_icmp .ge 26, 3, 13, 36), (13, .aload_n 0, 1, 14, 0), (14, .getfield 32, 3, 17, 0), (17, .iload_n 3, 1, 18, 0), (18, .bipush 8, 2, 20, 0), (20, .iload_n 1, 1, 21, 0), (21, .imul, 1, 22, 0), (22, .isub, 1, 23, 0), (23, .aload_n 0, 1, 24, 0), (24, .getfield 26, 3, 27, 0), (27, .iload_n 3, 1, 28, 0), (28, .iaload, 1, 29, 0), (29, .iastore, 1, 30, 0), (30, .iinc 3 1, 3, 33, 0), (33, .goto (-28), 3, 36, 5), (36, .aload_n 0, 1, 37, 0), (37, .iload_n 1, 1, 38, 0), (38, .iload_n 2, 1, 39, 0), (39, .invokevirtual 64, 3, 42, 0), (42, .return_, 1, 43, 0)]
abbrev M_r_lift : MI := (⟨"AmendedDrawingModel", "lift", "(II)V"⟩, prog_9_method_11_code, 4, none, { frames := 2, cells := 0, slots := 0, locals := 46 }, [], T_r_lift)
set_option maxRecDepth 100000 in
theorem ok_r_lift : okM M_r_lift := by unfold okM; decide +kernel
set_option maxRecDepth 100000 in
theorem co_r_lift : CO M_r_lift := ⟨rfl, by decide +kernel, ok_r_lift, w_818, w_8, by decide⟩
theorem cv_r_lift : CV M_r_lift 2 := ⟨co_r_lift, w_817, (tt_sel 44 rfl rfl), by decide +kernel⟩
def T_r_lay : List Row := [(0, .aload_n 0, 1, 1, 0), (1, .iload_n 1, 1, 2, 0), (2, .iload_n 2, 1, 3, 0), (3, .invokevirtual 67, 3, 6, 0), (6, .iconst 0, 1, 7, 0), (7, .istore_n 3, 1, 8, 0), (8, .iload_n 3, 1, 9, 0), (9, .bipush 8, 2, 11, 0), (11, .iload_n 2, 1, 12, 0), (12, .imul, 1, 13, 0), (13, .if_icmp .ge 26, 3, 16, 39), (16, .aload_n 0, 1, 17, 0), (17, .getfield 26, 3, 20, 0), (20, .bipush 8, 2, 22, 0), (22, .iload_n 1, 1, 23, 0), (23, .imul, 1, 24, 0), (24, .iload_n 3, 1, 25, 0), (25, .iadd, 1, 26, 0), (26, .aload_n 0, 1, 27, 0), (27, .getfield 32, 3, 30, 0), (30, .iload_n 3, 1, 31, 0), (31, .iaload, 1, 32, 0), (32, .iastore, 1, 33, 0), (33, .iinc 3 1, 3, 36, 0), (36, .goto (-28), 3, 39, 8), (39, .return_, 1, 40, 0)]
abbrev M_r_lay : MI := (⟨"AmendedDrawingModel", "lay", "(II)V"⟩, prog_9_method_12_code, 4, none, { frames := 2, cells := 0, slots := 0, locals := 46 }, [], T_r_lay)
set_option maxRecDepth 100000 in
theorem ok_r_lay : okM M_r_lay := by unfold okM; decide +kernel
set_option maxRecDepth 100000 in
theorem co_r_lay : CO M_r_lay := ⟨rfl, by decide +kernel, ok_r_lay, w_822, w_8, by decide⟩
theorem cv_r_lay : CV M_r_lay 2 := ⟨co_r_lay, w_821, (tt_sel 45 rfl rfl), by decide +kernel⟩
def T_r_findBox : List Row := [(0, .aload_n 0, 1, 1, 0), (1, .ldc 70, 2, 3, 0), (3, .putfield 71, 3, 6, 0), (6, .aload_n 0, 1, 7, 0), (7, .ldc 70, 2, 9, 0), (9, .putfield 74, 3, 12, 0), (12, .aload_n 0, 1, 13, 0), (13, .ldc 77, 2, 15, 0), (15, .putfield 78, 3, 18, 0), (18, .aload_n 0, 1, 19, 0), (19, .ldc 77, 2, 21, 0), (21, .putfield 81, 3, 24, 0), (24, .iload_n 1, 1, 25, 0), (25, .istore_n 3, 1, 26, 0), (26, .iload_n 3, 1, 27, 0), (27, .iload_n 2, 1, 28, 0), (28, .if_icmp .ge 153, 3, 31, 181), (31, .aload_n 0, 1, 32, 0), (32, .iload_n 3, 1, 33, 0), (33, .iconst 1, 1, 34, 0), (34, .invokevirtual 48, 3, 37, 0), (37, .iconst 3, 1, 38, 0), (38, .if_icmp .eq 137, 3, 41, 175), (41, .aload_n 0, 1, 42, 0), (42, .iload_n 3, 1, 43, 0), (43, .iconst 2, 1, 44, 0), (44, .invokevirtual 48, 3, 47, 0), (47, .aload_n 0, 1, 48, 0), (48, .iload_n 3, 1, 49, 0), (49, .iconst 4, 1, 50, 0), (50, .invokevirtual 48, 3, 53, 0), (53, .iadd, 1, 54, 0), (54, .istore 4, 2, 56, 0), (56, .aload_n 0, 1, 57, 0), (57, .iload_n 3, 1, 58, 0), (58, .iconst 3, 1, 59, 0), (59, .invokevirtual 48, 3, 62, 0), (62, .aload_n 0, 1, 63, 0), (63, .iload_n 3, 1, 64, 0), (64, .iconst 5, 1, 65, 0), (65, .invokevirtual 48, 3, 68, 0), (68, .iadd, 1, 69, 0), (69, .istore 5, 2, 71, 0), (71, .aload_n 0, 1, 72, 0), (72, .aload_n 0, 1, 73, 0), (73, .iload_n 3, 1, 74, 0), (74, .iconst 2, 1, 75, 0), (75, .invokevirtual 48, 3, 78, 0), (78, .aload_n 0, 1, 79, 0), (79, .getfield 71, 3, 82, 0), (82, .if_icmp .ge 12, 3, 85, 94), (85, .aload_n 0, 1, 86, 0), (86, .iload_n 3, 1, 87, 0), (87, .iconst 2, 1, 88, 0), (88, .invokevirtual 48, 3, 91, 0), (91, .goto 7, 3, 94, 98), (94, .aload_n 0, 1, 95, 0), (95, .getfield 71, 3, 98, 0), (98, .putfield 71, 3, 101, 0), (101, .aload_n 0, 1, 102, 0), (102, .aload_n 0, 1, 103, 0), (103, .iload_n 3, 1, 104, 0), (104, .iconst 3, 1, 105, 0), (105, .invokevirtual 48, 3, 108, 0), (108, .aload_n 0, 1, 109, 0), (109, .getfield 74, 3, 112, 0), (112, .if_icmp .ge 12, 3, 115, 124), (115, .aload_n 0, 1, 116, 0), (116, .iload_n 3, 1, 117, 0), (117, .iconst 3, 1, 118, 0), (118, .invokevirtual 48, 3, 121, 0), (121, .goto 7, 3, 124, 128), (124, .aload_n 0, 1, 125, 0), (125, .getfield 74, 3, 128, 0), (128, .putfield 74, 3, 131, 0), (131, .aload_n 0, 1, 132, 0), (132, .iload 4, 2, 134, 0), (134, .aload_n 0, 1, 135, 0), (135, .getfield 78, 3, 138, 0), (138, .if_icmp .le 8, 3, 141, 146), (141, .iload 4, 2, 143, 0), (143, .goto 7, 3, 146, 150), (146, .aload_n 0, 1, 147, 0), (147, .getfield 78, 3, 150, 0), (150, .putfield 78, 3, 153, 0), (153, .aload_n 0, 1, 154, 0), (154, .iload 5, 2, 156, 0), (156, .aload_n 0, 1, 157, 0), (157, .getfield 81, 3, 160, 0), (160, .if_icmp .le 8, 3, 163, 168), (163, .iload 5, 2, 165, 0), (165, .goto 7, 3, 168, 172), (168, .aload_n 0, 1, 169, 0), (169, .getfield 81, 3, 172, 0), (172, .putfield 81, 3, 175, 0), (175, .iinc 3 1, 3, 178, 0), (178, .goto (-152), 3, 181, 26), (181, .return_, 1, 182, 0)]
abbrev M_r_findBox : MI := (⟨"AmendedDrawingModel", "findBox", "(II)V"⟩, prog_9_method_13_code, 6, none, { frames := 1, cells := 0, slots := 0, locals := 22 }, [], T_r_findBox)
set_option maxRecDepth 100000 in
theorem ok_r_findBox : okM M_r_findBox := by unfold okM; decide +kernel
set_option maxRecDepth 100000 in
theorem co_r_findBox : CO M_r_findBox := ⟨rfl, by decide +kernel, ok_r_findBox, w_805, w_8, by decide⟩
theorem cv_r_findBox : CV M_r_findBox 2 := ⟨co_r_findBox, w_804, (tt_sel 42 rfl rfl), by decide +kernel⟩
def T_r_shift : List Row := [(0, .iload_n 1, 1, 1, 0), (1, .istore 5, 2, 3, 0), (3, .iload 5, 2, 5, 0), (5, .iload_n 2, 1, 6, 0), (6, .if_icmp .ge 42, 3, 9, 48), (9, .aload_n 0, 1, 10, 0), (10, .iload 5, 2, 12, 0), (12, .iconst 2, 1, 13, 0), (13, .aload_n 0, 1, 14, 0), (14, .iload 5, 2, 16, 0), (16, .iconst 2, 1, 17, 0), (17, .invokevirtual 48, 3, 20, 0), (20, .iload_n 3, 1, 21, 0), (21, .iadd, 1, 22, 0), (22, .invokevirtual 84, 3, 25, 0), (25, .aload_n 0, 1, 26, 0), (26, .iload 5, 2, 28, 0), (28, .iconst 3, 1, 29, 0), (29, .aload_n 0, 1, 30, 0), (30, .iload 5, 2, 32, 0), (32, .iconst 3, 1, 33, 0), (33, .invokevirtual 48, 3, 36, 0), (36, .iload 4, 2, 38, 0), (38, .iadd, 1, 39, 0), (39, .invokevirtual 84, 3, 42, 0), (42, .iinc 5 1, 3, 45, 0), (45, .goto (-42), 3, 48, 3), (48, .return_, 1, 49, 0)]
abbrev M_r_shift : MI := (⟨"AmendedDrawingModel", "shift", "(IIII)V"⟩, prog_9_method_14_code, 6, none, { frames := 1, cells := 0, slots := 0, locals := 23 }, [], T_r_shift)
set_option maxRecDepth 100000 in
theorem ok_r_shift : okM M_r_shift := by unfold okM; decide +kernel
set_option maxRecDepth 100000 in
theorem co_r_shift : CO M_r_shift := ⟨rfl, by decide +kernel, ok_r_shift, w_797, w_8, by decide⟩
theorem cv_r_shift : CV M_r_shift 4 := ⟨co_r_shift, w_796, (tt_sel 40 rfl rfl), by decide +kernel⟩
def T_r_holdLimits : List Row := [(0, .aload_n 0, 1, 1, 0), (1, .getfield 45, 3, 4, 0), (4, .bipush 12, 2, 6, 0), (6, .if_icmp .gt 7, 3, 9, 13), (9, .iconst 1, 1, 10, 0), (10, .goto 4, 3, 13, 14), (13, .iconst 0, 1, 14, 0), (14, .istore_n 1, 1, 15, 0), (15, .iconst 0, 1, 16, 0), (16, .istore_n 2, 1, 17, 0), (17, .iload_n 2, 1, 18, 0), (18, .aload_n 0, 1, 19, 0), (19, .getfield 45, 3, 22, 0), (22, .if_icmp .ge 91, 3, 25, 113), (25, .aload_n 0, 1, 26, 0), (26, .iload_n 2, 1, 27, 0), (27, .iconst 1, 1, 28, 0), (28, .invokevirtual 48, 3, 31, 0), (31, .iconst 3, 1, 32, 0), (32, .if_icmp .eq 75, 3, 35, 107), (35, .iload_n 1, 1, 36, 0), (36, .ifCond .eq 69, 3, 39, 105), (39, .aload_n 0, 1, 40, 0), (40, .iload_n 2, 1, 41, 0), (41, .iconst 2, 1, 42, 0), (42, .invokevirtual 48, 3, 45, 0), (45, .sipush (-200), 3, 48, 0), (48, .if_icmp .lt 57, 3, 51, 105), (51, .aload_n 0, 1, 52, 0), (52, .iload_n 2, 1, 53, 0), (53, .iconst 3, 1, 54, 0), (54, .invokevirtual 48, 3, 57, 0), (57, .sipush (-200), 3, 60, 0), (60, .if_icmp .lt 45, 3, 63, 105), (63, .aload_n 0, 1, 64, 0), (64, .iload_n 2, 1, 65, 0), (65, .iconst 2, 1, 66, 0), (66, .invokevirtual 48, 3, 69, 0), (69, .aload_n 0, 1, 70, 0), (70, .iload_n 2, 1, 71, 0), (71, .iconst 4, 1, 72, 0), (72, .invokevirtual 48, 3, 75, 0), (75, .iadd, 1, 76, 0), (76, .sipush 200, 3, 79, 0), (79, .if_icmp .gt 26, 3, 82, 105), (82, .aload_n 0, 1, 83, 0), (83, .iload_n 2, 1, 84, 0), (84, .iconst 3, 1, 85, 0), (85, .invokevirtual 48, 3, 88, 0), (88, .aload_n 0, 1, 89, 0), (89, .iload_n 2, 1, 90, 0), (90, .iconst 5, 1, 91, 0), (91, .invokevirtual 48, 3, 94, 0), (94, .iadd, 1, 95, 0), (95, .sipush 200, 3, 98, 0), (98, .if_icmp .gt 7, 3, 101, 105), (101, .iconst 1, 1, 102, 0), (102, .goto 4, 3, 105, 106), (105, .iconst 0, 1, 106, 0), (106, .istore_n 1, 1, 107, 0), (107, .iinc 2 1, 3, 110, 0), (110, .goto (-93), 3, 113, 17), (113, .iload_n 1, 1, 114, 0), (114, .ireturn, 1, 115, 0)]
abbrev M_r_holdLimits : MI := (⟨"AmendedDrawingModel", "holdLimits", "()Z"⟩, prog_9_method_15_code, 3, some (.boolean), { frames := 1, cells := 0, slots := 0, locals := 22 }, [], T_r_holdLimits)
set_option maxRecDepth 100000 in
theorem ok_r_holdLimits : okM M_r_holdLimits := by unfold okM; decide +kernel
set_option maxRecDepth 100000 in
theorem co_r_holdLimits : CO M_r_holdLimits := ⟨rfl, by decide +kernel, ok_r_holdLimits, w_846, w_8, by decide⟩
theorem cv_r_holdLimits : CV M_r_holdLimits 0 := ⟨co_r_holdLimits, w_845, (tt_sel 51 rfl rfl), by decide +kernel⟩
def T_r_arg : List Row := [(0, .aload_n 0, 1, 1, 0), (1, .getfield 13, 3, 4, 0), (4, .iconst 4, 1, 5, 0), (5, .iload_n 1, 1, 6, 0), (6, .imul, 1, 7, 0), (7, .iload_n 2, 1, 8, 0), (8, .iadd, 1, 9, 0), (9, .iaload, 1, 10, 0), (10, .ireturn, 1, 11, 0)]
abbrev M_r_arg : MI := (⟨"AmendedDrawingModel", "arg", "(II)I"⟩, prog_9_method_16_code, 3, some (.int), { frames := 0, cells := 0, slots := 0, locals := 0 }, [], T_r_arg)
set_option maxRecDepth 100000 in
theorem ok_r_arg : okM M_r_arg := by unfold okM; decide +kernel
set_option maxRecDepth 100000 in
theorem co_r_arg : CO M_r_arg := ⟨rfl, by decide +kernel, ok_r_arg, w_737, w_8, by decide⟩
theorem cv_r_arg : CV M_r_arg 2 := ⟨co_r_arg, w_736, (tt_sel 25 rfl rfl), by decide +kernel⟩
def T_r_make : List Row := [(0, .aload_n 0, 1, 1, 0), (1, .iload_n 1, 1, 2, 0), (2, .iconst 3, 1, 3, 0), (3, .invokevirtual 88, 3, 6, 0), (6, .istore_n 2, 1, 7, 0), (7, .aload_n 0, 1, 8, 0), (8, .aload_n 0, 1, 9, 0), (9, .getfield 45, 3, 12, 0), (12, .iconst 0, 1, 13, 0), (13, .iload_n 1, 1, 14, 0), (14, .invokevirtual 84, 3, 17, 0), (17, .aload_n 0, 1, 18, 0), (18, .aload_n 0, 1, 19, 0), (19, .getfield 45, 3, 22, 0), (22, .iconst 1, 1, 23, 0), (23, .aload_n 0, 1, 24, 0), (24, .iload_n 1, 1, 25, 0), (25, .iconst 0, 1, 26, 0), (26, .invokevirtual 88, 3, 29, 0), (29, .invokevirtual 84, 3, 32, 0), (32, .aload_n 0, 1, 33, 0), (33, .aload_n 0, 1, 34, 0), (34, .getfield 45, 3, 37, 0), (37, .iconst 2, 1, 38, 0), (38, .aload_n 0, 1, 39, 0), (39, .iload_n 1, 1, 40, 0), (40, .iconst 1, 1, 41, 0), (41, .invokevirtual 88, 3, 44, 0), (44, .invokevirtual 84, 3, 47, 0), (47, .aload_n 0, 1, 48, 0), (48, .aload_n 0, 1, 49, 0), (49, .getfield 45, 3, 52, 0), (52, .iconst 3, 1, 53, 0), (53, .aload_n 0, 1, 54, 0), (54, .iload_n 1, 1, 55, 0), (55, .iconst 2, 1, 56, 0), (56, .invokevirtual 88, 3, 59, 0), (59, .invokevirtual 84, 3, 62, 0), (62, .aload_n 0, 1, 63, 0), (63, .aload_n 0, 1, 64, 0), (64, .getfield 45, 3, 67, 0), (67, .iconst 4, 1, 68, 0), (68, .iload_n 2, 1, 69, 0), (69, .sipush 128, 3, 72, 0), (72, .irem, 1, 73, 0), (73, .invokevirtual 84, 3, 76, 0), (76, .aload_n 0, 1, 77, 0), (77, .aload_n 0, 1, 78, 0), (78, .getfield 45, 3, 81, 0), (81, .iconst 5, 1, 82, 0), (82, .iload_n 2, 1, 83, 0), (83, .sipush 128, 3, 86, 0), (86, .idiv, 1, 87, 0), (87, .invokevirtual 84, 3, 90, 0), (90, .aload_n 0, 1, 91, 0), (91, .aload_n 0, 1, 92, 0), (92, .getfield 45, 3, 95, 0), (95, .bipush 6, 2, 97, 0), (97, .iconst 0, 1, 98, 0), (98, .invokevirtual 84, 3, 101, 0), (101, .aload_n 0, 1, 102, 0), (102, .aload_n 0, 1, 103, 0), (103, .getfield 45, 3, 106, 0), (106, .bipush 7, 2, 108, 0), (108, .iconst (-1), 1, 109, 0), (109, .invokevirtual 84, 3, 112, 0), (112, .aload_n 0, 1, 113, 0), (113, .dup, 1, 114, 0), (114, .getfield 45, 3, 117, 0), (117, .iconst 1, 1, 118, 0), (118, .iadd, 1, 119, 0), (119, .putfield 45, 3, 122, 0), (122, .return_, 1, 123, 0)]
abbrev M_r_make : MI := (⟨"AmendedDrawingModel", "make", "(I)V"⟩, prog_9_method_17_code, 3, none, { frames := 1, cells := 0, slots := 0, locals := 23 }, [], T_r_make)
set_option maxRecDepth 100000 in
theorem ok_r_make : okM M_r_make := by unfold okM; decide +kernel
set_option maxRecDepth 100000 in
theorem co_r_make : CO M_r_make := ⟨rfl, by decide +kernel, ok_r_make, w_773, w_8, by decide⟩
theorem cv_r_make : CV M_r_make 1 := ⟨co_r_make, w_772, (tt_sel 34 rfl rfl), by decide +kernel⟩
def T_r_delete : List Row := [(0, .aload_n 0, 1, 1, 0), (1, .iload_n 1, 1, 2, 0), (2, .bipush 7, 2, 4, 0), (4, .invokevirtual 48, 3, 7, 0), (7, .istore_n 2, 1, 8, 0), (8, .aload_n 0, 1, 9, 0), (9, .iload_n 1, 1, 10, 0), (10, .aload_n 0, 1, 11, 0), (11, .iload_n 1, 1, 12, 0), (12, .invokevirtual 91, 3, 15, 0), (15, .invokevirtual 64, 3, 18, 0), (18, .iload_n 2, 1, 19, 0), (19, .ifCond .lt 60, 3, 22, 79), (22, .aload_n 0, 1, 23, 0), (23, .iload_n 2, 1, 24, 0), (24, .invokevirtual 52, 3, 27, 0), (27, .istore_n 3, 1, 28, 0), (28, .aload_n 0, 1, 29, 0), (29, .iload_n 3, 1, 30, 0), (30, .invokevirtual 91, 3, 33, 0), (33, .iload_n 3, 1, 34, 0), (34, .iconst 1, 1, 35, 0), (35, .iadd, 1, 36, 0), (36, .if_icmp .ne 7, 3, 39, 43), (39, .iconst 1, 1, 40, 0), (40, .goto 4, 3, 43, 44), (43, .iconst 0, 1, 44, 0), (44, .istore 4, 2, 46, 0), (46, .iload 4, 2, 48, 0), (48, .ifCond .eq 13, 3, 51, 61), (51, .aload_n 0, 1, 52, 0), (52, .iload_n 3, 1, 53, 0), (53, .bipush 7, 2, 55, 0), (55, .invokevirtual 48, 3, 58, 0), (58, .goto 4, 3, 61, 62), (61, .iconst (-1), 1, 62, 0), (62, .istore_n 2, 1, 63, 0), (63, .iload 4, 2, 65, 0), (65, .ifCond .eq 11, 3, 68, 76), (68, .aload_n 0, 1, 69, 0), (69, .iload_n 3, 1, 70, 0), (70, .iload_n 3, 1, 71, 0), (71, .iconst 1, 1, 72, 0), (72, .iadd, 1, 73, 0), (73, .invokevirtual 64, 3, 76, 0), (76, .goto (-58), 3, 79, 18), (79, .return_, 1, 80, 0)]
abbrev M_r_delete : MI := (⟨"AmendedDrawingModel", "delete", "(I)V"⟩, prog_9_method_18_code, 5, none, { frames := 4, cells := 0, slots := 0, locals := 90 }, [], T_r_delete)
set_option maxRecDepth 100000 in
theorem ok_r_delete : okM M_r_delete := by unfold okM; decide +kernel
set_option maxRecDepth 100000 in
theorem co_r_delete : CO M_r_delete := ⟨rfl, by decide +kernel, ok_r_delete, w_781, w_8, by decide⟩
theorem cv_r_delete : CV M_r_delete 1 := ⟨co_r_delete, w_780, (tt_sel 36 rfl rfl), by decide +kernel⟩
def T_r_scaled : List Row := [(0, .iload_n 0, 1, 1, 0), (1, .iload_n 1, 1, 2, 0), (2, .imul, 1, 3, 0), (3, .iload_n 2, 1, 4, 0), (4, .idiv, 1, 5, 0), (5, .ireturn, 1, 6, 0)]
abbrev M_r_scaled : MI := (⟨"AmendedDrawingModel", "scaled", "(III)I"⟩, prog_9_method_19_code, 3, some (.int), { frames := 0, cells := 0, slots := 0, locals := 0 }, [], T_r_scaled)
set_option maxRecDepth 100000 in
theorem ok_r_scaled : okM M_r_scaled := by unfold okM; decide +kernel
set_option maxRecDepth 100000 in
theorem co_r_scaled : CO M_r_scaled := ⟨rfl, by decide +kernel, ok_r_scaled, w_810, w_8, by decide⟩
theorem cs_r_scaled : CS M_r_scaled 3 := ⟨co_r_scaled, w_809, by decide +kernel⟩
def T_r_scale : List Row := [(0, .aload_n 0, 1, 1, 0), (1, .iload_n 1, 1, 2, 0), (2, .iload_n 2, 1, 3, 0), (3, .invokevirtual 94, 3, 6, 0), (6, .iload_n 1, 1, 7, 0), (7, .istore 5, 2, 9, 0), (9, .iload 5, 2, 11, 0), (11, .iload_n 2, 1, 12, 0), (12, .if_icmp .ge 148, 3, 15, 160), (15, .aload_n 0, 1, 16, 0), (16, .iload 5, 2, 18, 0), (18, .iconst 1, 1, 19, 0), (19, .invokevirtual 48, 3, 22, 0), (22, .iconst 3, 1, 23, 0), (23, .if_icmp .eq 131, 3, 26, 154), (26, .aload_n 0, 1, 27, 0), (27, .iload 5, 2, 29, 0), (29, .iconst 4, 1, 30, 0), (30, .invokevirtual 48, 3, 33, 0), (33, .iload_n 3, 1, 34, 0), (34, .iload 4, 2, 36, 0), (36, .invokestatic 97, 3, 39, 0), (39, .istore 6, 2, 41, 0), (41, .aload_n 0, 1, 42, 0), (42, .iload 5, 2, 44, 0), (44, .iconst 5, 1, 45, 0), (45, .invokevirtual 48, 3, 48, 0), (48, .iload_n 3, 1, 49, 0), (49, .iload 4, 2, 51, 0), (51, .invokestatic 97, 3, 54, 0), (54, .istore 7, 2, 56, 0), (56, .aload_n 0, 1, 57, 0), (57, .iload 5, 2, 59, 0), (59, .iconst 2, 1, 60, 0), (60, .aload_n 0, 1, 61, 0), (61, .getfield 71, 3, 64, 0), (64, .aload_n 0, 1, 65, 0), (65, .iload 5, 2, 67, 0), (67, .iconst 2, 1, 68, 0), (68, .invokevirtual 48, 3, 71, 0), (71, .aload_n 0, 1, 72, 0), (72, .getfield 71, 3, 75, 0), (75, .isub, 1, 76, 0), (76, .iload_n 3, 1, 77, 0), (77, .iload 4, 2, 79, 0), (79, .invokestatic 97, 3, 82, 0), (82, .iadd, 1, 83, 0), (83, .invokevirtual 84, 3, 86, 0), (86, .aload_n 0, 1, 87, 0), (87, .iload 5, 2, 89, 0), (89, .iconst 3, 1, 90, 0), (90, .aload_n 0, 1, 91, 0), (91, .getfield 74, 3, 94, 0), (94, .aload_n 0, 1, 95, 0), (95, .iload 5, 2, 97, 0), (97, .iconst 3, 1, 98, 0), (98, .invokevirtual 48, 3, 101, 0), (101, .aload_n 0, 1, 102, 0), (102, .getfield 74, 3, 105, 0), (105, .isub, 1, 106, 0), (106, .iload_n 3, 1, 107, 0), (107, .iload 4, 2, 109, 0), (109, .invokestatic 97, 3, 112, 0), (112, .iadd, 1, 113, 0), (113, .invokevirtual 84, 3, 116, 0), (116, .aload_n 0, 1, 117, 0), (117, .iload 5, 2, 119, 0), (119, .iconst 4, 1, 120, 0), (120, .iload 6, 2, 122, 0), (122, .iconst 1, 1, 123, 0), (123, .if_icmp .ge 7, 3, 126, 130), (126, .iconst 1, 1, 127, 0), (127, .goto 5, 3, 130, 132), (130, .iload 6, 2, 132, 0), (132, .invokevirtual 84, 3, 135, 0), (135, .aload_n 0, 1, 136, 0), (136, .iload 5, 2, 138, 0), (138, .iconst 5, 1, 139, 0), (139, .iload 7, 2, 141, 0), (141, .iconst 1, 1, 142, 0), (142, .if_icmp .ge 7, 3, 145, 149), (145, .iconst 1, 1, 146, 0), (146, .goto 5, 3, 149, 151), (149, .iload 7, 2, 151, 0), (151, .invokevirtual 84, 3, 154, 0), (154, .iinc 5 1, 3, 157, 0), (157, .goto (-148), 3, 160, 9), (160, .return_, 1, 161, 0)]
abbrev M_r_scale : MI := (⟨"AmendedDrawingModel", "scale", "(IIII)V"⟩, prog_9_method_20_code, 8, none, { frames := 2, cells := 0, slots := 0, locals := 47 }, [], T_r_scale)
set_option maxRecDepth 100000 in
theorem ok_r_scale : okM M_r_scale := by unfold okM; decide +kernel
set_option maxRecDepth 100000 in
theorem co_r_scale : CO M_r_scale := ⟨rfl, by decide +kernel, ok_r_scale, w_801, w_8, by decide⟩
theorem cv_r_scale : CV M_r_scale 4 := ⟨co_r_scale, w_800, (tt_sel 41 rfl rfl), by decide +kernel⟩
def T_r_raise : List Row := [(0, .aload_n 0, 1, 1, 0), (1, .iload_n 1, 1, 2, 0), (2, .bipush 7, 2, 4, 0), (4, .invokevirtual 48, 3, 7, 0), (7, .istore_n 3, 1, 8, 0), (8, .aload_n 0, 1, 9, 0), (9, .iload_n 1, 1, 10, 0), (10, .invokevirtual 91, 3, 13, 0), (13, .iload_n 1, 1, 14, 0), (14, .isub, 1, 15, 0), (15, .istore 4, 2, 17, 0), (17, .aload_n 0, 1, 18, 0), (18, .iload_n 1, 1, 19, 0), (19, .iload_n 1, 1, 20, 0), (20, .iload 4, 2, 22, 0), (22, .iadd, 1, 23, 0), (23, .invokevirtual 101, 3, 26, 0), (26, .iload_n 3, 1, 27, 0), (27, .ifCond .ge 7, 3, 30, 34), (30, .iconst (-1), 1, 31, 0), (31, .goto 8, 3, 34, 39), (34, .aload_n 0, 1, 35, 0), (35, .iload_n 3, 1, 36, 0), (36, .invokevirtual 52, 3, 39, 0), (39, .istore 5, 2, 41, 0), (41, .aload_n 0, 1, 42, 0), (42, .iload_n 2, 1, 43, 0), (43, .ifCond .eq 23, 3, 46, 66), (46, .iload_n 3, 1, 47, 0), (47, .ifCond .ge 10, 3, 50, 57), (50, .aload_n 0, 1, 51, 0), (51, .getfield 45, 3, 54, 0), (54, .goto 16, 3, 57, 70), (57, .aload_n 0, 1, 58, 0), (58, .iload 5, 2, 60, 0), (60, .invokevirtual 91, 3, 63, 0), (63, .goto 7, 3, 66, 70), (66, .iload 5, 2, 68, 0), (68, .iconst 1, 1, 69, 0), (69, .iadd, 1, 70, 0), (70, .iload 4, 2, 72, 0), (72, .invokevirtual 104, 3, 75, 0), (75, .return_, 1, 76, 0)]
abbrev M_r_raise : MI := (⟨"AmendedDrawingModel", "raise", "(IZ)V"⟩, prog_9_method_21_code, 6, none, { frames := 4, cells := 0, slots := 0, locals := 90 }, [], T_r_raise)
set_option maxRecDepth 100000 in
theorem ok_r_raise : okM M_r_raise := by unfold okM; decide +kernel
set_option maxRecDepth 100000 in
theorem co_r_raise : CO M_r_raise := ⟨rfl, by decide +kernel, ok_r_raise, w_814, w_8, by decide⟩
theorem cv_r_raise : CV M_r_raise 2 := ⟨co_r_raise, w_813, (tt_sel 43 rfl rfl), by decide +kernel⟩
def T_r_group : List Row := [(0, .iload_n 2, 1, 1, 0), (1, .iload_n 3, 1, 2, 0), (2, .if_icmp .ge 7, 3, 5, 9), (5, .iload_n 2, 1, 6, 0), (6, .goto 4, 3, 9, 10), (9, .iload_n 3, 1, 10, 0), (10, .istore 4, 2, 12, 0), (12, .iload_n 2, 1, 13, 0), (13, .iload_n 3, 1, 14, 0), (14, .if_icmp .ge 7, 3, 17, 21), (17, .iload_n 3, 1, 18, 0), (18, .goto 4, 3, 21, 22), (21, .iload_n 2, 1, 22, 0), (22, .istore 5, 2, 24, 0), (24, .aload_n 0, 1, 25, 0), (25, .iload 4, 2, 27, 0), (27, .invokevirtual 91, 3, 30, 0), (30, .iload 4, 2, 32, 0), (32, .isub, 1, 33, 0), (33, .istore 6, 2, 35, 0), (35, .aload_n 0, 1, 36, 0), (36, .iload 4, 2, 38, 0), (38, .iload 4, 2, 40, 0), (40, .iload 6, 2, 42, 0), (42, .iadd, 1, 43, 0), (43, .invokevirtual 101, 3, 46, 0), (46, .iload 5, 2, 48, 0), (48, .iload 6, 2, 50, 0), (50, .isub, 1, 51, 0), (51, .istore 7, 2, 53, 0), (53, .aload_n 0, 1, 54, 0), (54, .iload 7, 2, 56, 0), (56, .iload 6, 2, 58, 0), (58, .invokevirtual 104, 3, 61, 0), (61, .iload 7, 2, 63, 0), (63, .iload 6, 2, 65, 0), (65, .iadd, 1, 66, 0), (66, .istore 8, 2, 68, 0), (68, .aload_n 0, 1, 69, 0), (69, .iload 7, 2, 71, 0), (71, .bipush 7, 2, 73, 0), (73, .iload_n 1, 1, 74, 0), (74, .invokevirtual 84, 3, 77, 0), (77, .aload_n 0, 1, 78, 0), (78, .iload 8, 2, 80, 0), (80, .bipush 7, 2, 82, 0), (82, .iload_n 1, 1, 83, 0), (83, .invokevirtual 84, 3, 86, 0), (86, .aload_n 0, 1, 87, 0), (87, .iload 7, 2, 89, 0), (89, .iconst 1, 1, 90, 0), (90, .invokevirtual 67, 3, 93, 0), (93, .aload_n 0, 1, 94, 0), (94, .iload 7, 2, 96, 0), (96, .iconst 0, 1, 97, 0), (97, .iload_n 1, 1, 98, 0), (98, .invokevirtual 84, 3, 101, 0), (101, .aload_n 0, 1, 102, 0), (102, .iload 7, 2, 104, 0), (104, .iconst 1, 1, 105, 0), (105, .iconst 3, 1, 106, 0), (106, .invokevirtual 84, 3, 109, 0), (109, .aload_n 0, 1, 110, 0), (110, .iload 7, 2, 112, 0), (112, .iconst 2, 1, 113, 0), (113, .iconst 0, 1, 114, 0), (114, .invokevirtual 84, 3, 117, 0), (117, .aload_n 0, 1, 118, 0), (118, .iload 7, 2, 120, 0), (120, .iconst 3, 1, 121, 0), (121, .iconst 0, 1, 122, 0), (122, .invokevirtual 84, 3, 125, 0), (125, .aload_n 0, 1, 126, 0), (126, .iload 7, 2, 128, 0), (128, .iconst 4, 1, 129, 0), (129, .iconst 0, 1, 130, 0), (130, .invokevirtual 84, 3, 133, 0), (133, .aload_n 0, 1, 134, 0), (134, .iload 7, 2, 136, 0), (136, .iconst 5, 1, 137, 0), (137, .iconst 0, 1, 138, 0), (138, .invokevirtual 84, 3, 141, 0), (141, .aload_n 0, 1, 142, 0), (142, .iload 7, 2, 144, 0), (144, .bipush 6, 2, 146, 0), (146, .iconst (-1), 1, 147, 0), (147, .invokevirtual 84, 3, 150, 0), (150, .aload_n 0, 1, 151, 0), (151, .iload 7, 2, 153, 0), (153, .bipush 7, 2, 155, 0), (155, .iconst (-1), 1, 156, 0), (156, .invokevirtual 84, 3, 159, 0), (159, .return_, 1, 160, 0)]
abbrev M_r_group : MI := (⟨"AmendedDrawingModel", "group", "(III)V"⟩, prog_9_method_22_code, 9, none, { frames := 4, cells := 0, slots := 0, locals := 90 }, [], T_r_group)
set_option maxRecDepth 100000 in
theorem ok_r_group : okM M_r_group := by unfold okM; decide +kernel
set_option maxRecDepth 100000 in
theorem co_r_group : CO M_r_group := ⟨rfl, by decide +kernel, ok_r_group, w_830, w_8, by decide⟩
theorem cv_r_group : CV M_r_group 3 := ⟨co_r_group, w_829, (tt_sel 47 rfl rfl), by decide +kernel⟩
def T_r_ungroup : List Row := [(0, .aload_n 0, 1, 1, 0), (1, .iload_n 1, 1, 2, 0), (2, .iconst 0, 1, 3, 0), (3, .invokevirtual 48, 3, 6, 0), (6, .istore_n 2, 1, 7, 0), (7, .aload_n 0, 1, 8, 0), (8, .iload_n 1, 1, 9, 0), (9, .bipush 7, 2, 11, 0), (11, .invokevirtual 48, 3, 14, 0), (14, .istore_n 3, 1, 15, 0), (15, .iconst 0, 1, 16, 0), (16, .istore 4, 2, 18, 0), (18, .iload 4, 2, 20, 0), (20, .aload_n 0, 1, 21, 0), (21, .getfield 45, 3, 24, 0), (24, .if_icmp .ge 30, 3, 27, 54), (27, .aload_n 0, 1, 28, 0), (28, .iload 4, 2, 30, 0), (30, .bipush 7, 2, 32, 0), (32, .invokevirtual 48, 3, 35, 0), (35, .iload_n 2, 1, 36, 0), (36, .if_icmp .ne 12, 3, 39, 48), (39, .aload_n 0, 1, 40, 0), (40, .iload 4, 2, 42, 0), (42, .bipush 7, 2, 44, 0), (44, .iload_n 3, 1, 45, 0), (45, .invokevirtual 84, 3, 48, 0), (48, .iinc 4 1, 3, 51, 0), (51, .goto (-33), 3, 54, 18), (54, .aload_n 0, 1, 55, 0), (55, .iload_n 1, 1, 56, 0), (56, .iload_n 1, 1, 57, 0), (57, .iconst 1, 1, 58, 0), (58, .iadd, 1, 59, 0), (59, .invokevirtual 64, 3, 62, 0), (62, .return_, 1, 63, 0)]
abbrev M_r_ungroup : MI := (⟨"AmendedDrawingModel", "ungroup", "(I)V"⟩, prog_9_method_23_code, 5, none, { frames := 2, cells := 0, slots := 0, locals := 46 }, [], T_r_ungroup)
set_option maxRecDepth 100000 in
theorem ok_r_ungroup : okM M_r_ungroup := by unfold okM; decide +kernel
set_option maxRecDepth 100000 in
theorem co_r_ungroup : CO M_r_ungroup := ⟨rfl, by decide +kernel, ok_r_ungroup, w_834, w_8, by decide⟩
theorem cv_r_ungroup : CV M_r_ungroup 1 := ⟨co_r_ungroup, w_833, (tt_sel 48 rfl rfl), by decide +kernel⟩
def T_r_twice : List Row := [(0, .aload_n 0, 1, 1, 0), (1, .iload_n 2, 1, 2, 0), (2, .iconst 1, 1, 3, 0), (3, .iadd, 1, 4, 0), (4, .iconst 1, 1, 5, 0), (5, .invokevirtual 67, 3, 8, 0), (8, .aload_n 0, 1, 9, 0), (9, .iload_n 2, 1, 10, 0), (10, .iload_n 2, 1, 11, 0), (11, .iconst 1, 1, 12, 0), (12, .iadd, 1, 13, 0), (13, .invokevirtual 60, 3, 16, 0), (16, .aload_n 0, 1, 17, 0), (17, .iload_n 2, 1, 18, 0), (18, .iconst 1, 1, 19, 0), (19, .iadd, 1, 20, 0), (20, .iconst 0, 1, 21, 0), (21, .iload_n 1, 1, 22, 0), (22, .invokevirtual 84, 3, 25, 0), (25, .aload_n 0, 1, 26, 0), (26, .iload_n 2, 1, 27, 0), (27, .iconst 1, 1, 28, 0), (28, .iadd, 1, 29, 0), (29, .iconst 2, 1, 30, 0), (30, .aload_n 0, 1, 31, 0), (31, .iload_n 2, 1, 32, 0), (32, .iconst 2, 1, 33, 0), (33, .invokevirtual 48, 3, 36, 0), (36, .iload_n 3, 1, 37, 0), (37, .iadd, 1, 38, 0), (38, .invokevirtual 84, 3, 41, 0), (41, .aload_n 0, 1, 42, 0), (42, .iload_n 2, 1, 43, 0), (43, .iconst 1, 1, 44, 0), (44, .iadd, 1, 45, 0), (45, .iconst 3, 1, 46, 0), (46, .aload_n 0, 1, 47, 0), (47, .iload_n 2, 1, 48, 0), (48, .iconst 3, 1, 49, 0), (49, .invokevirtual 48, 3, 52, 0), (52, .iload 4, 2, 54, 0), (54, .iadd, 1, 55, 0), (55, .invokevirtual 84, 3, 58, 0), (58, .return_, 1, 59, 0)]
abbrev M_r_twice : MI := (⟨"AmendedDrawingModel", "twice", "(IIII)V"⟩, prog_9_method_24_code, 5, none, { frames := 2, cells := 0, slots := 0, locals := 46 }, [], T_r_twice)
set_option maxRecDepth 100000 in
theorem ok_r_twice : okM M_r_twice := by unfold okM; decide +kernel
set_option maxRecDepth 100000 in
theorem co_r_twice : CO M_r_twice := ⟨rfl, by decide +kernel, ok_r_twice, w_838, w_8, by decide⟩
theorem cv_r_twice : CV M_r_twice 4 := ⟨co_r_twice, w_837, (tt_sel 49 rfl rfl), by decide +kernel⟩
def T_r_align : List Row := [(0, .aload_n 0, 1, 1, 0), (1, .iload_n 2, 1, 2, 0), (2, .aload_n 0, 1, 3, 0), (3, .iload_n 2, 1, 4, 0), (4, .invokevirtual 91, 3, 7, 0), (7, .invokevirtual 94, 3, 10, 0), (10, .aload_n 0, 1, 11, 0), (11, .getfield 71, 3, 14, 0), (14, .istore 4, 2, 16, 0), (16, .aload_n 0, 1, 17, 0), (17, .getfield 74, 3, 20, 0), (20, .istore 5, 2, 22, 0), (22, .aload_n 0, 1, 23, 0), (23, .getfield 78, 3, 26, 0), (26, .istore 6, 2, 28, 0), (28, .aload_n 0, 1, 29, 0), (29, .getfield 81, 3, 32, 0), (32, .istore 7, 2, 34, 0), (34, .aload_n 0, 1, 35, 0), (35, .iload_n 1, 1, 36, 0), (36, .aload_n 0, 1, 37, 0), (37, .iload_n 1, 1, 38, 0), (38, .invokevirtual 91, 3, 41, 0), (41, .invokevirtual 94, 3, 44, 0), (44, .iload_n 3, 1, 45, 0), (45, .ifCond .ne 13, 3, 48, 58), (48, .iload 4, 2, 50, 0), (50, .aload_n 0, 1, 51, 0), (51, .getfield 71, 3, 54, 0), (54, .isub, 1, 55, 0), (55, .goto 19, 3, 58, 74), (58, .iload_n 3, 1, 59, 0), (59, .iconst 2, 1, 60, 0), (60, .if_icmp .ne 13, 3, 63, 73), (63, .iload 6, 2, 65, 0), (65, .aload_n 0, 1, 66, 0), (66, .getfield 78, 3, 69, 0), (69, .isub, 1, 70, 0), (70, .goto 4, 3, 73, 74), (73, .iconst 0, 1, 74, 0), (74, .istore 8, 2, 76, 0), (76, .iload_n 3, 1, 77, 0), (77, .iconst 1, 1, 78, 0), (78, .if_icmp .ne 13, 3, 81, 91), (81, .iload 5, 2, 83, 0), (83, .aload_n 0, 1, 84, 0), (84, .getfield 74, 3, 87, 0), (87, .isub, 1, 88, 0), (88, .goto 19, 3, 91, 107), (91, .iload_n 3, 1, 92, 0), (92, .iconst 3, 1, 93, 0), (93, .if_icmp .ne 13, 3, 96, 106), (96, .iload 7, 2, 98, 0), (98, .aload_n 0, 1, 99, 0), (99, .getfield 81, 3, 102, 0), (102, .isub, 1, 103, 0), (103, .goto 4, 3, 106, 107), (106, .iconst 0, 1, 107, 0), (107, .istore 9, 2, 109, 0), (109, .aload_n 0, 1, 110, 0), (110, .iload_n 1, 1, 111, 0), (111, .aload_n 0, 1, 112, 0), (112, .iload_n 1, 1, 113, 0), (113, .invokevirtual 91, 3, 116, 0), (116, .iload 8, 2, 118, 0), (118, .iload 9, 2, 120, 0), (120, .invokevirtual 107, 3, 123, 0), (123, .return_, 1, 124, 0)]
abbrev M_r_align : MI := (⟨"AmendedDrawingModel", "align", "(III)V"⟩, prog_9_method_25_code, 10, none, { frames := 4, cells := 0, slots := 0, locals := 90 }, [], T_r_align)
set_option maxRecDepth 100000 in
theorem ok_r_align : okM M_r_align := by unfold okM; decide +kernel
set_option maxRecDepth 100000 in
theorem co_r_align : CO M_r_align := ⟨rfl, by decide +kernel, ok_r_align, w_842, w_8, by decide⟩
theorem cv_r_align : CV M_r_align 3 := ⟨co_r_align, w_841, (tt_sel 50 rfl rfl), by decide +kernel⟩
def T_r_isAlone : List Row := [(0, .iload_n 1, 1, 1, 0), (1, .ifCond .lt 17, 3, 4, 18), (4, .aload_n 0, 1, 5, 0), (5, .iload_n 1, 1, 6, 0), (6, .bipush 7, 2, 8, 0), (8, .invokevirtual 48, 3, 11, 0), (11, .ifCond .ge 7, 3, 14, 18), (14, .iconst 1, 1, 15, 0), (15, .goto 4, 3, 18, 19), (18, .iconst 0, 1, 19, 0), (19, .ireturn, 1, 20, 0)]
abbrev M_r_isAlone : MI := (⟨"AmendedDrawingModel", "isAlone", "(I)Z"⟩, prog_9_method_26_code, 2, some (.boolean), { frames := 1, cells := 0, slots := 0, locals := 22 }, [], T_r_isAlone)
set_option maxRecDepth 100000 in
theorem ok_r_isAlone : okM M_r_isAlone := by unfold okM; decide +kernel
set_option maxRecDepth 100000 in
theorem co_r_isAlone : CO M_r_isAlone := ⟨rfl, by decide +kernel, ok_r_isAlone, w_761, w_8, by decide⟩
theorem cv_r_isAlone : CV M_r_isAlone 1 := ⟨co_r_isAlone, w_760, (tt_sel 31 rfl rfl), by decide +kernel⟩
def T_r_fits : List Row := [(0, .aload_n 0, 1, 1, 0), (1, .getfield 7, 3, 4, 0), (4, .iload_n 1, 1, 5, 0), (5, .iaload, 1, 6, 0), (6, .istore_n 2, 1, 7, 0), (7, .iload_n 2, 1, 8, 0), (8, .ifCond .ne 7, 3, 11, 15), (11, .iconst 0, 1, 12, 0), (12, .goto 13, 3, 15, 25), (15, .aload_n 0, 1, 16, 0), (16, .aload_n 0, 1, 17, 0), (17, .iload_n 1, 1, 18, 0), (18, .iconst 0, 1, 19, 0), (19, .invokevirtual 88, 3, 22, 0), (22, .invokevirtual 52, 3, 25, 0), (25, .istore_n 3, 1, 26, 0), (26, .iload_n 2, 1, 27, 0), (27, .ifCond .ne 5, 3, 30, 32), (30, .iconst 1, 1, 31, 0), (31, .ireturn, 1, 32, 0), (32, .iload_n 3, 1, 33, 0), (33, .ifCond .ge 5, 3, 36, 38), (36, .iconst 0, 1, 37, 0), (37, .ireturn, 1, 38, 0), (38, .iload_n 2, 1, 39, 0), (39, .bipush 6, 2, 41, 0), (41, .if_icmp .eq 9, 3, 44, 50), (44, .iload_n 2, 1, 45, 0), (45, .bipush 9, 2, 47, 0), (47, .if_icmp .ne 94, 3, 50, 141), (50, .aload_n 0, 1, 51, 0), (51, .aload_n 0, 1, 52, 0), (52, .iload_n 1, 1, 53, 0), (53, .iconst 1, 1, 54, 0), (54, .invokevirtual 88, 3, 57, 0), (57, .invokevirtual 52, 3, 60, 0), (60, .istore 4, 2, 62, 0), (62, .iload 4, 2, 64, 0), (64, .ifCond .lt 9, 3, 67, 73), (67, .iload 4, 2, 69, 0), (69, .iload_n 3, 1, 70, 0), (70, .if_icmp .ne 5, 3, 73, 75), (73, .iconst 0, 1, 74, 0), (74, .ireturn, 1, 75, 0), (75, .iload_n 2, 1, 76, 0), (76, .bipush 6, 2, 78, 0), (78, .if_icmp .ne 28, 3, 81, 106), (81, .aload_n 0, 1, 82, 0), (82, .iload_n 3, 1, 83, 0), (83, .invokevirtual 111, 3, 86, 0), (86, .ifCond .eq 16, 3, 89, 102), (89, .aload_n 0, 1, 90, 0), (90, .iload 4, 2, 92, 0), (92, .invokevirtual 111, 3, 95, 0), (95, .ifCond .eq 7, 3, 98, 102), (98, .iconst 1, 1, 99, 0), (99, .goto 41, 3, 102, 140), (102, .iconst 0, 1, 103, 0), (103, .goto 37, 3, 106, 140), (106, .aload_n 0, 1, 107, 0), (107, .iload_n 3, 1, 108, 0), (108, .aload_n 0, 1, 109, 0), (109, .iload_n 1, 1, 110, 0), (110, .iconst 1, 1, 111, 0), (111, .invokevirtual 88, 3, 114, 0), (114, .invokevirtual 56, 3, 117, 0), (117, .ifCond .ne 22, 3, 120, 139), (120, .aload_n 0, 1, 121, 0), (121, .iload 4, 2, 123, 0), (123, .aload_n 0, 1, 124, 0), (124, .iload_n 1, 1, 125, 0), (125, .iconst 0, 1, 126, 0), (126, .invokevirtual 88, 3, 129, 0), (129, .invokevirtual 56, 3, 132, 0), (132, .ifCond .ne 7, 3, 135, 139), (135, .iconst 1, 1, 136, 0), (136, .goto 4, 3, 139, 140), (139, .iconst 0, 1, 140, 0), (140, .ireturn, 1, 141, 0), (141, .iload_n 2, 1, 142, 0), (142, .bipush 7, 2, 144, 0), (144, .if_icmp .ne 21, 3, 147, 165), (147, .aload_n 0, 1, 148, 0), (148, .iload_n 3, 1, 149, 0), (149, .iconst 1, 1, 150, 0), (150, .invokevirtual 48, 3, 153, 0), (153, .iconst 3, 1, 154, 0), (154, .if_icmp .ne 7, 3, 157, 161), (157, .iconst 1, 1, 158, 0), (158, .goto 28, 3, 161, 186), (161, .iconst 0, 1, 162, 0), (162, .goto 24, 3, 165, 186), (165, .iload_n 2, 1, 166, 0), (166, .bipush 8, 2, 168, 0), (168, .if_icmp .ne 13, 3, 171, 181), (171, .aload_n 0, 1, 172, 0), (172, .iload_n 3, 1, 173, 0), (173, .iconst 1, 1, 174, 0), (174, .invokevirtual 48, 3, 177, 0), (177, .iconst 3, 1, 178, 0), (178, .if_icmp .eq 7, 3, 181, 185), (181, .iconst 1, 1, 182, 0), (182, .goto 4, 3, 185, 186), (185, .iconst 0, 1, 186, 0), (186, .ireturn, 1, 187, 0)]
abbrev M_r_fits : MI := (⟨"AmendedDrawingModel", "fits", "(I)Z"⟩, prog_9_method_27_code, 5, some (.boolean), { frames := 3, cells := 0, slots := 0, locals := 68 }, [], T_r_fits)
set_option maxRecDepth 100000 in
theorem ok_r_fits : okM M_r_fits := by unfold okM; decide +kernel
set_option maxRecDepth 100000 in
theorem co_r_fits : CO M_r_fits := ⟨rfl, by decide +kernel, ok_r_fits, w_749, w_8, by decide⟩
theorem cv_r_fits : CV M_r_fits 1 := ⟨co_r_fits, w_748, (tt_sel 28 rfl rfl), by decide +kernel⟩
def T_r_act : List Row := [(0, .aload_n 0, 1, 1, 0), (1, .getfield 7, 3, 4, 0), (4, .iload_n 1, 1, 5, 0), (5, .iaload, 1, 6, 0), (6, .ifCond .ne 10, 3, 9, 16), (9, .aload_n 0, 1, 10, 0), (10, .getfield 45, 3, 13, 0), (13, .goto 13, 3, 16, 26), (16, .aload_n 0, 1, 17, 0), (17, .aload_n 0, 1, 18, 0), (18, .iload_n 1, 1, 19, 0), (19, .iconst 0, 1, 20, 0), (20, .invokevirtual 88, 3, 23, 0), (23, .invokevirtual 52, 3, 26, 0), (26, .istore_n 2, 1, 27, 0), (27, .aload_n 0, 1, 28, 0), (28, .iload_n 1, 1, 29, 0), (29, .iconst 1, 1, 30, 0), (30, .invokevirtual 88, 3, 33, 0), (33, .istore_n 3, 1, 34, 0), (34, .aload_n 0, 1, 35, 0), (35, .iload_n 1, 1, 36, 0), (36, .iconst 2, 1, 37, 0), (37, .invokevirtual 88, 3, 40, 0), (40, .istore 4, 2, 42, 0), (42, .aload_n 0, 1, 43, 0), (43, .getfield 7, 3, 46, 0), (46, .iload_n 1, 1, 47, 0), (47, .iaload, 1, 48, 0), (48, .tableswitch 196 0 8 #[52, 60, 68, 84, 100, 144, 162, 176, 184], 52, 100, 0), (100, .aload_n 0, 1, 101, 0), (101, .iload_n 1, 1, 102, 0), (102, .invokevirtual 115, 3, 105, 0), (105, .goto 151, 3, 108, 256), (108, .aload_n 0, 1, 109, 0), (109, .iload_n 2, 1, 110, 0), (110, .invokevirtual 119, 3, 113, 0), (113, .goto 143, 3, 116, 256), (116, .aload_n 0, 1, 117, 0), (117, .iload_n 2, 1, 118, 0), (118, .aload_n 0, 1, 119, 0), (119, .iload_n 2, 1, 120, 0), (120, .invokevirtual 91, 3, 123, 0), (123, .iload_n 3, 1, 124, 0), (124, .iload 4, 2, 126, 0), (126, .invokevirtual 107, 3, 129, 0), (129, .goto 127, 3, 132, 256), (132, .aload_n 0, 1, 133, 0), (133, .iload_n 2, 1, 134, 0), (134, .aload_n 0, 1, 135, 0), (135, .iload_n 2, 1, 136, 0), (136, .invokevirtual 91, 3, 139, 0), (139, .iload_n 3, 1, 140, 0), (140, .iload 4, 2, 142, 0), (142, .invokevirtual 122, 3, 145, 0), (145, .goto 111, 3, 148, 256), (148, .aload_n 0, 1, 149, 0), (149, .iload_n 2, 1, 150, 0), (150, .invokevirtual 91, 3, 153, 0), (153, .istore 5, 2, 155, 0), (155, .iload_n 2, 1, 156, 0), (156, .iload 5, 2, 158, 0), (158, .if_icmp .ge 31, 3, 161, 189), (161, .aload_n 0, 1, 162, 0), (162, .iload_n 2, 1, 163, 0), (163, .bipush 6, 2, 165, 0), (165, .aload_n 0, 1, 166, 0), (166, .iload_n 2, 1, 167, 0), (167, .iconst 1, 1, 168, 0), (168, .invokevirtual 48, 3, 171, 0), (171, .iconst 3, 1, 172, 0), (172, .if_icmp .ne 7, 3, 175, 179), (175, .iconst (-1), 1, 176, 0), (176, .goto 4, 3, 179, 180), (179, .iload_n 3, 1, 180, 0), (180, .invokevirtual 84, 3, 183, 0), (183, .iinc 2 1, 3, 186, 0), (186, .goto (-31), 3, 189, 155), (189, .goto 67, 3, 192, 256), (192, .aload_n 0, 1, 193, 0), (193, .iload_n 2, 1, 194, 0), (194, .iload_n 3, 1, 195, 0), (195, .iconst 1, 1, 196, 0), (196, .if_icmp .ne 7, 3, 199, 203), (199, .iconst 1, 1, 200, 0), (200, .goto 4, 3, 203, 204), (203, .iconst 0, 1, 204, 0), (204, .invokevirtual 125, 3, 207, 0), (207, .goto 49, 3, 210, 256), (210, .aload_n 0, 1, 211, 0), (211, .iload_n 1, 1, 212, 0), (212, .iload_n 2, 1, 213, 0), (213, .aload_n 0, 1, 214, 0), (214, .iload_n 3, 1, 215, 0), (215, .invokevirtual 52, 3, 218, 0), (218, .invokevirtual 129, 3, 221, 0), (221, .goto 35, 3, 224, 256), (224, .aload_n 0, 1, 225, 0), (225, .iload_n 2, 1, 226, 0), (226, .invokevirtual 132, 3, 229, 0), (229, .goto 27, 3, 232, 256), (232, .aload_n 0, 1, 233, 0), (233, .iload_n 1, 1, 234, 0), (234, .iload_n 2, 1, 235, 0), (235, .iload_n 3, 1, 236, 0), (236, .iload 4, 2, 238, 0), (238, .invokevirtual 135, 3, 241, 0), (241, .goto 15, 3, 244, 256), (244, .aload_n 0, 1, 245, 0), (245, .iload_n 2, 1, 246, 0), (246, .aload_n 0, 1, 247, 0), (247, .iload_n 3, 1, 248, 0), (248, .invokevirtual 52, 3, 251, 0), (251, .iload 4, 2, 253, 0), (253, .invokevirtual 138, 3, 256, 0), (256, .return_, 1, 257, 0)]
abbrev M_r_act : MI := (⟨"AmendedDrawingModel", "act", "(I)V"⟩, prog_9_method_28_code, 6, none, { frames := 5, cells := 0, slots := 0, locals := 119 }, [], T_r_act)
set_option maxRecDepth 100000 in
theorem ok_r_act : okM M_r_act := by unfold okM; decide +kernel
set_option maxRecDepth 100000 in
theorem co_r_act : CO M_r_act := ⟨rfl, by decide +kernel, ok_r_act, w_769, w_8, by decide⟩
theorem cv_r_act : CV M_r_act 1 := ⟨co_r_act, w_768, (tt_sel 33 rfl rfl), by decide +kernel⟩
def T_r_goThrough : List Row := [(0, .aload_n 0, 1, 1, 0), (1, .iconst 0, 1, 2, 0), (2, .putfield 45, 3, 5, 0), (5, .iconst 0, 1, 6, 0), (6, .istore_n 2, 1, 7, 0), (7, .iload_n 2, 1, 8, 0), (8, .aload_n 0, 1, 9, 0), (9, .getfield 38, 3, 12, 0), (12, .if_icmp .ge 176, 3, 15, 188), (15, .aload_n 0, 1, 16, 0), (16, .getfield 16, 3, 19, 0), (19, .iload_n 2, 1, 20, 0), (20, .baload, 1, 21, 0), (21, .iload_n 2, 1, 22, 0), (22, .iload_n 1, 1, 23, 0), (23, .if_icmp .ne 7, 3, 26, 30), (26, .iconst 1, 1, 27, 0), (27, .goto 4, 3, 30, 31), (30, .iconst 0, 1, 31, 0), (31, .if_icmp .eq 7, 3, 34, 38), (34, .iconst 1, 1, 35, 0), (35, .goto 4, 3, 38, 39), (38, .iconst 0, 1, 39, 0), (39, .istore_n 3, 1, 40, 0), (40, .aload_n 0, 1, 41, 0), (41, .getfield 20, 3, 44, 0), (44, .iload_n 2, 1, 45, 0), (45, .iload_n 3, 1, 46, 0), (46, .ifCond .eq 7, 3, 49, 53), (49, .iconst 0, 1, 50, 0), (50, .goto 16, 3, 53, 66), (53, .aload_n 0, 1, 54, 0), (54, .iload_n 2, 1, 55, 0), (55, .invokevirtual 141, 3, 58, 0), (58, .ifCond .eq 7, 3, 61, 65), (61, .iconst 1, 1, 62, 0), (62, .goto 4, 3, 65, 66), (65, .iconst 2, 1, 66, 0), (66, .iastore, 1, 67, 0), (67, .aload_n 0, 1, 68, 0), (68, .getfield 20, 3, 71, 0), (71, .iload_n 2, 1, 72, 0), (72, .iaload, 1, 73, 0), (73, .iconst 1, 1, 74, 0), (74, .if_icmp .ne 108, 3, 77, 182), (77, .aload_n 0, 1, 78, 0), (78, .aload_n 0, 1, 79, 0), (79, .getfield 45, 3, 82, 0), (82, .putfield 144, 3, 85, 0), (85, .iconst 0, 1, 86, 0), (86, .istore 4, 2, 88, 0), (88, .iload 4, 2, 90, 0), (90, .bipush 8, 2, 92, 0), (92, .aload_n 0, 1, 93, 0), (93, .getfield 45, 3, 96, 0), (96, .imul, 1, 97, 0), (97, .if_icmp .ge 23, 3, 100, 120), (100, .aload_n 0, 1, 101, 0), (101, .getfield 29, 3, 104, 0), (104, .iload 4, 2, 106, 0), (106, .aload_n 0, 1, 107, 0), (107, .getfield 26, 3, 110, 0), (110, .iload 4, 2, 112, 0), (112, .iaload, 1, 113, 0), (113, .iastore, 1, 114, 0), (114, .iinc 4 1, 3, 117, 0), (117, .goto (-29), 3, 120, 88), (120, .aload_n 0, 1, 121, 0), (121, .iload_n 2, 1, 122, 0), (122, .invokevirtual 147, 3, 125, 0), (125, .aload_n 0, 1, 126, 0), (126, .invokevirtual 150, 3, 129, 0), (129, .ifCond .ne 53, 3, 132, 182), (132, .aload_n 0, 1, 133, 0), (133, .getfield 20, 3, 136, 0), (136, .iload_n 2, 1, 137, 0), (137, .iconst 2, 1, 138, 0), (138, .iastore, 1, 139, 0), (139, .aload_n 0, 1, 140, 0), (140, .aload_n 0, 1, 141, 0), (141, .getfield 144, 3, 144, 0), (144, .putfield 45, 3, 147, 0), (147, .iconst 0, 1, 148, 0), (148, .istore 4, 2, 150, 0), (150, .iload 4, 2, 152, 0), (152, .bipush 8, 2, 154, 0), (154, .aload_n 0, 1, 155, 0), (155, .getfield 45, 3, 158, 0), (158, .imul, 1, 159, 0), (159, .if_icmp .ge 23, 3, 162, 182), (162, .aload_n 0, 1, 163, 0), (163, .getfield 26, 3, 166, 0), (166, .iload 4, 2, 168, 0), (168, .aload_n 0, 1, 169, 0), (169, .getfield 29, 3, 172, 0), (172, .iload 4, 2, 174, 0), (174, .iaload, 1, 175, 0), (175, .iastore, 1, 176, 0), (176, .iinc 4 1, 3, 179, 0), (179, .goto (-29), 3, 182, 150), (182, .iinc 2 1, 3, 185, 0), (185, .goto (-178), 3, 188, 7), (188, .return_, 1, 189, 0)]
abbrev M_r_goThrough : MI := (⟨"AmendedDrawingModel", "goThrough", "(I)V"⟩, prog_9_method_29_code, 5, none, { frames := 6, cells := 0, slots := 0, locals := 144 }, [], T_r_goThrough)
set_option maxRecDepth 100000 in
theorem ok_r_goThrough : okM M_r_goThrough := by unfold okM; decide +kernel
set_option maxRecDepth 100000 in
theorem co_r_goThrough : CO M_r_goThrough := ⟨rfl, by decide +kernel, ok_r_goThrough, w_745, w_8, by decide⟩
theorem cv_r_goThrough : CV M_r_goThrough 1 := ⟨co_r_goThrough, w_744, (tt_sel 27 rfl rfl), by decide +kernel⟩
def T_r_remember : List Row := [(0, .iconst 0, 1, 1, 0), (1, .istore_n 1, 1, 2, 0), (2, .iload_n 1, 1, 3, 0), (3, .aload_n 0, 1, 4, 0), (4, .getfield 38, 3, 7, 0), (7, .if_icmp .ge 21, 3, 10, 28), (10, .aload_n 0, 1, 11, 0), (11, .getfield 23, 3, 14, 0), (14, .iload_n 1, 1, 15, 0), (15, .aload_n 0, 1, 16, 0), (16, .getfield 20, 3, 19, 0), (19, .iload_n 1, 1, 20, 0), (20, .iaload, 1, 21, 0), (21, .iastore, 1, 22, 0), (22, .iinc 1 1, 3, 25, 0), (25, .goto (-23), 3, 28, 2), (28, .return_, 1, 29, 0)]
abbrev M_r_remember : MI := (⟨"AmendedDrawingModel", "remember", "()V"⟩, prog_9_method_30_code, 2, none, { frames := 0, cells := 0, slots := 0, locals := 0 }, [], T_r_remember)
set_option maxRecDepth 100000 in
theorem ok_r_remember : okM M_r_remember := by unfold okM; decide +kernel
set_option maxRecDepth 100000 in
theorem co_r_remember : CO M_r_remember := ⟨rfl, by decide +kernel, ok_r_remember, w_866, w_8, by decide⟩
theorem cv_r_remember : CV M_r_remember 0 := ⟨co_r_remember, w_865, (tt_sel 55 rfl rfl), by decide +kernel⟩
def T_r_others : List Row := [(0, .iconst 0, 1, 1, 0), (1, .istore_n 2, 1, 2, 0), (2, .iconst 0, 1, 3, 0), (3, .istore_n 3, 1, 4, 0), (4, .iload_n 3, 1, 5, 0), (5, .aload_n 0, 1, 6, 0), (6, .getfield 38, 3, 9, 0), (9, .if_icmp .ge 37, 3, 12, 46), (12, .iload_n 3, 1, 13, 0), (13, .iload_n 1, 1, 14, 0), (14, .if_icmp .eq 24, 3, 17, 38), (17, .aload_n 0, 1, 18, 0), (18, .getfield 20, 3, 21, 0), (21, .iload_n 3, 1, 22, 0), (22, .iaload, 1, 23, 0), (23, .aload_n 0, 1, 24, 0), (24, .getfield 23, 3, 27, 0), (27, .iload_n 3, 1, 28, 0), (28, .iaload, 1, 29, 0), (29, .if_icmp .eq 9, 3, 32, 38), (32, .iload_n 2, 1, 33, 0), (33, .iconst 1, 1, 34, 0), (34, .iadd, 1, 35, 0), (35, .goto 4, 3, 38, 39), (38, .iload_n 2, 1, 39, 0), (39, .istore_n 2, 1, 40, 0), (40, .iinc 3 1, 3, 43, 0), (43, .goto (-39), 3, 46, 4), (46, .iload_n 2, 1, 47, 0), (47, .ireturn, 1, 48, 0)]
abbrev M_r_others : MI := (⟨"AmendedDrawingModel", "others", "(I)I"⟩, prog_9_method_31_code, 4, some (.int), { frames := 0, cells := 0, slots := 0, locals := 0 }, [], T_r_others)
set_option maxRecDepth 100000 in
theorem ok_r_others : okM M_r_others := by unfold okM; decide +kernel
set_option maxRecDepth 100000 in
theorem co_r_others : CO M_r_others := ⟨rfl, by decide +kernel, ok_r_others, w_870, w_8, by decide⟩
theorem cv_r_others : CV M_r_others 1 := ⟨co_r_others, w_869, (tt_sel 56 rfl rfl), by decide +kernel⟩
def T_r_argumentsOf : List Row := [(0, .iload_n 0, 1, 1, 0), (1, .ifCond .ne 7, 3, 4, 8), (4, .iconst 4, 1, 5, 0), (5, .goto 39, 3, 8, 44), (8, .iload_n 0, 1, 9, 0), (9, .iconst 1, 1, 10, 0), (10, .if_icmp .eq 9, 3, 13, 19), (13, .iload_n 0, 1, 14, 0), (14, .bipush 7, 2, 16, 0), (16, .if_icmp .ne 7, 3, 19, 23), (19, .iconst 1, 1, 20, 0), (20, .goto 24, 3, 23, 44), (23, .iload_n 0, 1, 24, 0), (24, .iconst 4, 1, 25, 0), (25, .if_icmp .eq 14, 3, 28, 39), (28, .iload_n 0, 1, 29, 0), (29, .iconst 5, 1, 30, 0), (30, .if_icmp .eq 9, 3, 33, 39), (33, .iload_n 0, 1, 34, 0), (34, .bipush 6, 2, 36, 0), (36, .if_icmp .ne 7, 3, 39, 43), (39, .iconst 2, 1, 40, 0), (40, .goto 4, 3, 43, 44), (43, .iconst 3, 1, 44, 0), (44, .ireturn, 1, 45, 0)]
abbrev M_r_argumentsOf : MI := (⟨"AmendedDrawingModel", "argumentsOf", "(I)I"⟩, prog_9_method_32_code, 1, some (.int), { frames := 0, cells := 0, slots := 0, locals := 0 }, [], T_r_argumentsOf)
set_option maxRecDepth 100000 in
theorem ok_r_argumentsOf : okM M_r_argumentsOf := by unfold okM; decide +kernel
set_option maxRecDepth 100000 in
theorem co_r_argumentsOf : CO M_r_argumentsOf := ⟨rfl, by decide +kernel, ok_r_argumentsOf, w_727, w_8, by decide⟩
theorem cs_r_argumentsOf : CS M_r_argumentsOf 1 := ⟨co_r_argumentsOf, w_726, by decide +kernel⟩
def T_r_isBetween : List Row := [(0, .iload_n 0, 1, 1, 0), (1, .iload_n 1, 1, 2, 0), (2, .if_icmp .lt 12, 3, 5, 14), (5, .iload_n 0, 1, 6, 0), (6, .iload_n 2, 1, 7, 0), (7, .if_icmp .gt 7, 3, 10, 14), (10, .iconst 1, 1, 11, 0), (11, .goto 4, 3, 14, 15), (14, .iconst 0, 1, 15, 0), (15, .ireturn, 1, 16, 0)]
abbrev M_r_isBetween : MI := (⟨"AmendedDrawingModel", "isBetween", "(III)Z"⟩, prog_9_method_33_code, 3, some (.boolean), { frames := 0, cells := 0, slots := 0, locals := 0 }, [], T_r_isBetween)
set_option maxRecDepth 100000 in
theorem ok_r_isBetween : okM M_r_isBetween := by unfold okM; decide +kernel
set_option maxRecDepth 100000 in
theorem co_r_isBetween : CO M_r_isBetween := ⟨rfl, by decide +kernel, ok_r_isBetween, w_733, w_8, by decide⟩
theorem cs_r_isBetween : CS M_r_isBetween 3 := ⟨co_r_isBetween, w_732, by decide +kernel⟩
def T_r_isArgument : List Row := [(0, .iload_n 0, 1, 1, 0), (1, .ifCond .ne 72, 3, 4, 73), (4, .iload_n 1, 1, 5, 0), (5, .ifCond .ne 12, 3, 8, 17), (8, .iload_n 2, 1, 9, 0), (9, .iconst 0, 1, 10, 0), (10, .iconst 2, 1, 11, 0), (11, .invokestatic 154, 3, 14, 0), (14, .goto 58, 3, 17, 72), (17, .iload_n 1, 1, 18, 0), (18, .iconst 3, 1, 19, 0), (19, .if_icmp .ge 16, 3, 22, 35), (22, .iload_n 2, 1, 23, 0), (23, .sipush (-200), 3, 26, 0), (26, .sipush 200, 3, 29, 0), (29, .invokestatic 154, 3, 32, 0), (32, .goto 40, 3, 35, 72), (35, .iload_n 2, 1, 36, 0), (36, .ifCond .lt 35, 3, 39, 71), (39, .iload_n 2, 1, 40, 0), (40, .sipush 128, 3, 43, 0), (43, .irem, 1, 44, 0), (44, .iconst 1, 1, 45, 0), (45, .bipush 100, 2, 47, 0), (47, .invokestatic 154, 3, 50, 0), (50, .ifCond .eq 21, 3, 53, 71), (53, .iload_n 2, 1, 54, 0), (54, .sipush 128, 3, 57, 0), (57, .idiv, 1, 58, 0), (58, .iconst 1, 1, 59, 0), (59, .bipush 100, 2, 61, 0), (61, .invokestatic 154, 3, 64, 0), (64, .ifCond .eq 7, 3, 67, 71), (67, .iconst 1, 1, 68, 0), (68, .goto 4, 3, 71, 72), (71, .iconst 0, 1, 72, 0), (72, .ireturn, 1, 73, 0), (73, .iload_n 1, 1, 74, 0), (74, .ifCond .eq 20, 3, 77, 94), (77, .iload_n 1, 1, 78, 0), (78, .iconst 1, 1, 79, 0), (79, .if_icmp .ne 23, 3, 82, 102), (82, .iload_n 0, 1, 83, 0), (83, .bipush 6, 2, 85, 0), (85, .if_icmp .eq 9, 3, 88, 94), (88, .iload_n 0, 1, 89, 0), (89, .bipush 9, 2, 91, 0), (91, .if_icmp .ne 11, 3, 94, 102), (94, .iload_n 2, 1, 95, 0), (95, .iconst 0, 1, 96, 0), (96, .bipush 23, 2, 98, 0), (98, .invokestatic 154, 3, 101, 0), (101, .ireturn, 1, 102, 0), (102, .iload_n 0, 1, 103, 0), (103, .tableswitch 71 3 9 #[41, 49, 57, 71, 71, 71, 64], 41, 144, 0), (144, .iload_n 2, 1, 145, 0), (145, .iconst 1, 1, 146, 0), (146, .bipush 9, 2, 148, 0), (148, .invokestatic 154, 3, 151, 0), (151, .ireturn, 1, 152, 0), (152, .iload_n 2, 1, 153, 0), (153, .iconst 0, 1, 154, 0), (154, .bipush 7, 2, 156, 0), (156, .invokestatic 154, 3, 159, 0), (159, .ireturn, 1, 160, 0), (160, .iload_n 2, 1, 161, 0), (161, .iconst 0, 1, 162, 0), (162, .iconst 1, 1, 163, 0), (163, .invokestatic 154, 3, 166, 0), (166, .ireturn, 1, 167, 0), (167, .iload_n 2, 1, 168, 0), (168, .iconst 0, 1, 169, 0), (169, .iconst 3, 1, 170, 0), (170, .invokestatic 154, 3, 173, 0), (173, .ireturn, 1, 174, 0), (174, .iload_n 2, 1, 175, 0), (175, .sipush (-200), 3, 178, 0), (178, .sipush 200, 3, 181, 0), (181, .invokestatic 154, 3, 184, 0), (184, .ireturn, 1, 185, 0)]
abbrev M_r_isArgument : MI := (⟨"AmendedDrawingModel", "isArgument", "(III)Z"⟩, prog_9_method_34_code, 3, some (.boolean), { frames := 1, cells := 0, slots := 0, locals := 22 }, [], T_r_isArgument)
set_option maxRecDepth 100000 in
theorem ok_r_isArgument : okM M_r_isArgument := by unfold okM; decide +kernel
set_option maxRecDepth 100000 in
theorem co_r_isArgument : CO M_r_isArgument := ⟨rfl, by decide +kernel, ok_r_isArgument, w_730, w_8, by decide⟩
theorem cs_r_isArgument : CS M_r_isArgument 3 := ⟨co_r_isArgument, w_729, by decide +kernel⟩
def T_r_note : List Row := [(0, .aload_n 0, 1, 1, 0), (1, .getfield 158, 3, 4, 0), (4, .bipush 32, 2, 6, 0), (6, .if_icmp .ne 46, 3, 9, 52), (9, .iconst 0, 1, 10, 0), (10, .istore 6, 2, 12, 0), (12, .iload 6, 2, 14, 0), (14, .sipush 155, 3, 17, 0), (17, .if_icmp .ge 25, 3, 20, 42), (20, .aload_n 0, 1, 21, 0), (21, .getfield 35, 3, 24, 0), (24, .iload 6, 2, 26, 0), (26, .aload_n 0, 1, 27, 0), (27, .getfield 35, 3, 30, 0), (30, .iload 6, 2, 32, 0), (32, .iconst 5, 1, 33, 0), (33, .iadd, 1, 34, 0), (34, .iaload, 1, 35, 0), (35, .iastore, 1, 36, 0), (36, .iinc 6 1, 3, 39, 0), (39, .goto (-27), 3, 42, 12), (42, .aload_n 0, 1, 43, 0), (43, .dup, 1, 44, 0), (44, .getfield 158, 3, 47, 0), (47, .iconst 1, 1, 48, 0), (48, .isub, 1, 49, 0), (49, .putfield 158, 3, 52, 0), (52, .aload_n 0, 1, 53, 0), (53, .getfield 35, 3, 56, 0), (56, .iconst 5, 1, 57, 0), (57, .aload_n 0, 1, 58, 0), (58, .getfield 158, 3, 61, 0), (61, .imul, 1, 62, 0), (62, .iload_n 1, 1, 63, 0), (63, .iastore, 1, 64, 0), (64, .aload_n 0, 1, 65, 0), (65, .getfield 35, 3, 68, 0), (68, .iconst 5, 1, 69, 0), (69, .aload_n 0, 1, 70, 0), (70, .getfield 158, 3, 73, 0), (73, .imul, 1, 74, 0), (74, .iconst 1, 1, 75, 0), (75, .iadd, 1, 76, 0), (76, .iload_n 2, 1, 77, 0), (77, .iastore, 1, 78, 0), (78, .aload_n 0, 1, 79, 0), (79, .getfield 35, 3, 82, 0), (82, .iconst 5, 1, 83, 0), (83, .aload_n 0, 1, 84, 0), (84, .getfield 158, 3, 87, 0), (87, .imul, 1, 88, 0), (88, .iconst 2, 1, 89, 0), (89, .iadd, 1, 90, 0), (90, .iload_n 3, 1, 91, 0), (91, .iastore, 1, 92, 0), (92, .aload_n 0, 1, 93, 0), (93, .getfield 35, 3, 96, 0), (96, .iconst 5, 1, 97, 0), (97, .aload_n 0, 1, 98, 0), (98, .getfield 158, 3, 101, 0), (101, .imul, 1, 102, 0), (102, .iconst 3, 1, 103, 0), (103, .iadd, 1, 104, 0), (104, .iload 4, 2, 106, 0), (106, .iastore, 1, 107, 0), (107, .aload_n 0, 1, 108, 0), (108, .getfield 35, 3, 111, 0), (111, .iconst 5, 1, 112, 0), (112, .aload_n 0, 1, 113, 0), (113, .getfield 158, 3, 116, 0), (116, .imul, 1, 117, 0), (117, .iconst 4, 1, 118, 0), (118, .iadd, 1, 119, 0), (119, .iload 5, 2, 121, 0), (121, .iastore, 1, 122, 0), (122, .aload_n 0, 1, 123, 0), (123, .dup, 1, 124, 0), (124, .getfield 158, 3, 127, 0), (127, .iconst 1, 1, 128, 0), (128, .iadd, 1, 129, 0), (129, .putfield 158, 3, 132, 0), (132, .aload_n 0, 1, 133, 0), (133, .aload_n 0, 1, 134, 0), (134, .getfield 158, 3, 137, 0), (137, .putfield 161, 3, 140, 0), (140, .return_, 1, 141, 0)]
abbrev M_r_note : MI := (⟨"AmendedDrawingModel", "note", "(IIIII)V"⟩, prog_9_method_35_code, 7, none, { frames := 0, cells := 0, slots := 0, locals := 0 }, [], T_r_note)
set_option maxRecDepth 100000 in
theorem ok_r_note : okM M_r_note := by unfold okM; decide +kernel
set_option maxRecDepth 100000 in
theorem co_r_note : CO M_r_note := ⟨rfl, by decide +kernel, ok_r_note, w_850, w_8, by decide⟩
theorem cv_r_note : CV M_r_note 5 := ⟨co_r_note, w_849, (tt_sel 52 rfl rfl), by decide +kernel⟩
def T_r_lay4 : List Row := [(0, .aload_n 0, 1, 1, 0), (1, .getfield 7, 3, 4, 0), (4, .aload_n 0, 1, 5, 0), (5, .getfield 38, 3, 8, 0), (8, .iload_n 1, 1, 9, 0), (9, .iastore, 1, 10, 0), (10, .aload_n 0, 1, 11, 0), (11, .getfield 13, 3, 14, 0), (14, .iconst 4, 1, 15, 0), (15, .aload_n 0, 1, 16, 0), (16, .getfield 38, 3, 19, 0), (19, .imul, 1, 20, 0), (20, .iload_n 2, 1, 21, 0), (21, .iastore, 1, 22, 0), (22, .aload_n 0, 1, 23, 0), (23, .getfield 13, 3, 26, 0), (26, .iconst 4, 1, 27, 0), (27, .aload_n 0, 1, 28, 0), (28, .getfield 38, 3, 31, 0), (31, .imul, 1, 32, 0), (32, .iconst 1, 1, 33, 0), (33, .iadd, 1, 34, 0), (34, .iload_n 3, 1, 35, 0), (35, .iastore, 1, 36, 0), (36, .aload_n 0, 1, 37, 0), (37, .getfield 13, 3, 40, 0), (40, .iconst 4, 1, 41, 0), (41, .aload_n 0, 1, 42, 0), (42, .getfield 38, 3, 45, 0), (45, .imul, 1, 46, 0), (46, .iconst 2, 1, 47, 0), (47, .iadd, 1, 48, 0), (48, .iload 4, 2, 50, 0), (50, .iastore, 1, 51, 0), (51, .aload_n 0, 1, 52, 0), (52, .getfield 13, 3, 55, 0), (55, .iconst 4, 1, 56, 0), (56, .aload_n 0, 1, 57, 0), (57, .getfield 38, 3, 60, 0), (60, .imul, 1, 61, 0), (61, .iconst 3, 1, 62, 0), (62, .iadd, 1, 63, 0), (63, .iload 5, 2, 65, 0), (65, .iastore, 1, 66, 0), (66, .aload_n 0, 1, 67, 0), (67, .getfield 16, 3, 70, 0), (70, .aload_n 0, 1, 71, 0), (71, .getfield 38, 3, 74, 0), (74, .iconst 0, 1, 75, 0), (75, .bastore, 1, 76, 0), (76, .return_, 1, 77, 0)]
abbrev M_r_lay4 : MI := (⟨"AmendedDrawingModel", "lay4", "(IIIII)V"⟩, prog_9_method_37_code, 6, none, { frames := 0, cells := 0, slots := 0, locals := 0 }, [], T_r_lay4)
set_option maxRecDepth 100000 in
theorem ok_r_lay4 : okM M_r_lay4 := by unfold okM; decide +kernel
set_option maxRecDepth 100000 in
theorem co_r_lay4 : CO M_r_lay4 := ⟨rfl, by decide +kernel, ok_r_lay4, w_741, w_8, by decide⟩
theorem cv_r_lay4 : CV M_r_lay4 5 := ⟨co_r_lay4, w_740, (tt_sel 26 rfl rfl), by decide +kernel⟩
def T_r_commit : List Row := [(0, .iload_n 1, 1, 1, 0), (1, .ifCond .lt 13, 3, 4, 14), (4, .iload_n 1, 1, 5, 0), (5, .bipush 9, 2, 7, 0), (7, .if_icmp .gt 7, 3, 10, 14), (10, .iconst 1, 1, 11, 0), (11, .goto 4, 3, 14, 15), (14, .iconst 0, 1, 15, 0), (15, .istore 6, 2, 17, 0), (17, .iconst 0, 1, 18, 0), (18, .istore 7, 2, 20, 0), (20, .iload 7, 2, 22, 0), (22, .iconst 4, 1, 23, 0), (23, .if_icmp .ge 75, 3, 26, 98), (26, .iload 6, 2, 28, 0), (28, .ifCond .eq 70, 3, 31, 98), (31, .iload 7, 2, 33, 0), (33, .ifCond .ne 7, 3, 36, 40), (36, .iload_n 2, 1, 37, 0), (37, .goto 26, 3, 40, 63), (40, .iload 7, 2, 42, 0), (42, .iconst 1, 1, 43, 0), (43, .if_icmp .ne 7, 3, 46, 50), (46, .iload_n 3, 1, 47, 0), (47, .goto 16, 3, 50, 63), (50, .iload 7, 2, 52, 0), (52, .iconst 2, 1, 53, 0), (53, .if_icmp .ne 8, 3, 56, 61), (56, .iload 4, 2, 58, 0), (58, .goto 5, 3, 61, 63), (61, .iload 5, 2, 63, 0), (63, .istore 8, 2, 65, 0), (65, .iload 7, 2, 67, 0), (67, .iload_n 1, 1, 68, 0), (68, .invokestatic 164, 3, 71, 0), (71, .if_icmp .ge 14, 3, 74, 85), (74, .iload_n 1, 1, 75, 0), (75, .iload 7, 2, 77, 0), (77, .iload 8, 2, 79, 0), (79, .invokestatic 167, 3, 82, 0), (82, .ifCond .eq 7, 3, 85, 89), (85, .iconst 1, 1, 86, 0), (86, .goto 4, 3, 89, 90), (89, .iconst 0, 1, 90, 0), (90, .istore 6, 2, 92, 0), (92, .iinc 7 1, 3, 95, 0), (95, .goto (-75), 3, 98, 20), (98, .aload_n 0, 1, 99, 0), (99, .iload 6, 2, 101, 0), (101, .ifCond .ne 7, 3, 104, 108), (104, .iconst 1, 1, 105, 0), (105, .goto 17, 3, 108, 122), (108, .aload_n 0, 1, 109, 0), (109, .getfield 38, 3, 112, 0), (112, .bipush 24, 2, 114, 0), (114, .if_icmp .ne 7, 3, 117, 121), (117, .iconst 2, 1, 118, 0), (118, .goto 4, 3, 121, 122), (121, .iconst 0, 1, 122, 0), (122, .putfield 42, 3, 125, 0), (125, .aload_n 0, 1, 126, 0), (126, .getfield 42, 3, 129, 0), (129, .ifCond .le 5, 3, 132, 134), (132, .iconst 0, 1, 133, 0), (133, .ireturn, 1, 134, 0), (134, .aload_n 0, 1, 135, 0), (135, .getfield 7, 3, 138, 0), (138, .aload_n 0, 1, 139, 0), (139, .getfield 38, 3, 142, 0), (142, .iaload, 1, 143, 0), (143, .istore 7, 2, 145, 0), (145, .aload_n 0, 1, 146, 0), (146, .aload_n 0, 1, 147, 0), (147, .getfield 38, 3, 150, 0), (150, .iconst 0, 1, 151, 0), (151, .invokevirtual 88, 3, 154, 0), (154, .istore 8, 2, 156, 0), (156, .aload_n 0, 1, 157, 0), (157, .aload_n 0, 1, 158, 0), (158, .getfield 38, 3, 161, 0), (161, .iconst 1, 1, 162, 0), (162, .invokevirtual 88, 3, 165, 0), (165, .istore 9, 2, 167, 0), (167, .aload_n 0, 1, 168, 0), (168, .aload_n 0, 1, 169, 0), (169, .getfield 38, 3, 172, 0), (172, .iconst 2, 1, 173, 0), (173, .invokevirtual 88, 3, 176, 0), (176, .istore 10, 2, 178, 0), (178, .aload_n 0, 1, 179, 0), (179, .aload_n 0, 1, 180, 0), (180, .getfield 38, 3, 183, 0), (183, .iconst 3, 1, 184, 0), (184, .invokevirtual 88, 3, 187, 0), (187, .istore 11, 2, 189, 0), (189, .aload_n 0, 1, 190, 0), (190, .iload_n 1, 1, 191, 0), (191, .iload_n 2, 1, 192, 0), (192, .iload_n 1, 1, 193, 0), (193, .invokestatic 164, 3, 196, 0), (196, .iconst 1, 1, 197, 0), (197, .if_icmp .le 7, 3, 200, 204), (200, .iload_n 3, 1, 201, 0), (201, .goto 4, 3, 204, 205), (204, .iconst 0, 1, 205, 0), (205, .iload_n 1, 1, 206, 0), (206, .invokestatic 164, 3, 209, 0), (209, .iconst 2, 1, 210, 0), (210, .if_icmp .le 8, 3, 213, 218), (213, .iload 4, 2, 215, 0), (215, .goto 4, 3, 218, 219), (218, .iconst 0, 1, 219, 0), (219, .iload_n 1, 1, 220, 0), (220, .invokestatic 164, 3, 223, 0), (223, .iconst 3, 1, 224, 0), (224, .if_icmp .le 8, 3, 227, 232), (227, .iload 5, 2, 229, 0), (229, .goto 4, 3, 232, 233), (232, .iconst 0, 1, 233, 0), (233, .invokevirtual 170, 3, 236, 0), (236, .aload_n 0, 1, 237, 0), (237, .dup, 1, 238, 0), (238, .getfield 38, 3, 241, 0), (241, .iconst 1, 1, 242, 0), (242, .iadd, 1, 243, 0), (243, .putfield 38, 3, 246, 0), (246, .aload_n 0, 1, 247, 0), (247, .iconst (-1), 1, 248, 0), (248, .invokevirtual 174, 3, 251, 0), (251, .aload_n 0, 1, 252, 0), (252, .getfield 20, 3, 255, 0), (255, .aload_n 0, 1, 256, 0), (256, .getfield 38, 3, 259, 0), (259, .iconst 1, 1, 260, 0), (260, .isub, 1, 261, 0), (261, .iaload, 1, 262, 0), (262, .iconst 1, 1, 263, 0), (263, .if_icmp .eq 39, 3, 266, 302), (266, .aload_n 0, 1, 267, 0), (267, .dup, 1, 268, 0), (268, .getfield 38, 3, 271, 0), (271, .iconst 1, 1, 272, 0), (272, .isub, 1, 273, 0), (273, .putfield 38, 3, 276, 0), (276, .aload_n 0, 1, 277, 0), (277, .iload 7, 2, 279, 0), (279, .iload 8, 2, 281, 0), (281, .iload 9, 2, 283, 0), (283, .iload 10, 2, 285, 0), (285, .iload 11, 2, 287, 0), (287, .invokevirtual 170, 3, 290, 0), (290, .aload_n 0, 1, 291, 0), (291, .iconst (-1), 1, 292, 0), (292, .invokevirtual 174, 3, 295, 0), (295, .aload_n 0, 1, 296, 0), (296, .iconst 2, 1, 297, 0), (297, .putfield 42, 3, 300, 0), (300, .iconst 0, 1, 301, 0), (301, .ireturn, 1, 302, 0), (302, .aload_n 0, 1, 303, 0), (303, .iconst 0, 1, 304, 0), (304, .aload_n 0, 1, 305, 0), (305, .getfield 38, 3, 308, 0), (308, .iconst 1, 1, 309, 0), (309, .isub, 1, 310, 0), (310, .iconst 0, 1, 311, 0), (311, .iconst 0, 1, 312, 0), (312, .iconst 0, 1, 313, 0), (313, .invokevirtual 177, 3, 316, 0), (316, .aload_n 0, 1, 317, 0), (317, .getfield 38, 3, 320, 0), (320, .iconst 1, 1, 321, 0), (321, .isub, 1, 322, 0), (322, .ireturn, 1, 323, 0)]
abbrev M_r_commit : MI := (⟨"AmendedDrawingModel", "commit", "(IIIII)I"⟩, prog_9_method_36_code, 12, some (.int), { frames := 7, cells := 0, slots := 0, locals := 168 }, [], T_r_commit)
set_option maxRecDepth 100000 in
theorem ok_r_commit : okM M_r_commit := by unfold okM; decide +kernel
set_option maxRecDepth 100000 in
theorem co_r_commit : CO M_r_commit := ⟨rfl, by decide +kernel, ok_r_commit, w_724, w_8, by decide⟩
theorem cv_r_commit : CV M_r_commit 5 := ⟨co_r_commit, w_722, w_723, by decide +kernel⟩
def T_r_isAction : List Row := [(0, .iload_n 1, 1, 1, 0), (1, .ifCond .lt 15, 3, 4, 16), (4, .iload_n 1, 1, 5, 0), (5, .aload_n 0, 1, 6, 0), (6, .getfield 38, 3, 9, 0), (9, .if_icmp .ge 7, 3, 12, 16), (12, .iconst 1, 1, 13, 0), (13, .goto 4, 3, 16, 17), (16, .iconst 0, 1, 17, 0), (17, .ireturn, 1, 18, 0)]
abbrev M_r_isAction : MI := (⟨"AmendedDrawingModel", "isAction", "(I)Z"⟩, prog_9_method_38_code, 2, some (.boolean), { frames := 0, cells := 0, slots := 0, locals := 0 }, [], T_r_isAction)
set_option maxRecDepth 100000 in
theorem ok_r_isAction : okM M_r_isAction := by unfold okM; decide +kernel
set_option maxRecDepth 100000 in
theorem co_r_isAction : CO M_r_isAction := ⟨rfl, by decide +kernel, ok_r_isAction, w_862, w_8, by decide⟩
theorem cv_r_isAction : CV M_r_isAction 1 := ⟨co_r_isAction, w_861, (tt_sel 54 rfl rfl), by decide +kernel⟩
def T_r_turn : List Row := [(0, .aload_n 0, 1, 1, 0), (1, .aload_n 0, 1, 2, 0), (2, .iload_n 1, 1, 3, 0), (3, .invokevirtual 180, 3, 6, 0), (6, .ifCond .ne 7, 3, 9, 13), (9, .iconst 1, 1, 10, 0), (10, .goto 18, 3, 13, 28), (13, .aload_n 0, 1, 14, 0), (14, .getfield 16, 3, 17, 0), (17, .iload_n 1, 1, 18, 0), (18, .baload, 1, 19, 0), (19, .iload_n 2, 1, 20, 0), (20, .if_icmp .ne 7, 3, 23, 27), (23, .iconst 2, 1, 24, 0), (24, .goto 4, 3, 27, 28), (27, .iconst 0, 1, 28, 0), (28, .putfield 42, 3, 31, 0), (31, .aload_n 0, 1, 32, 0), (32, .getfield 42, 3, 35, 0), (35, .ifCond .le 5, 3, 38, 40), (38, .iconst 0, 1, 39, 0), (39, .ireturn, 1, 40, 0), (40, .aload_n 0, 1, 41, 0), (41, .invokevirtual 183, 3, 44, 0), (44, .aload_n 0, 1, 45, 0), (45, .getfield 16, 3, 48, 0), (48, .iload_n 1, 1, 49, 0), (49, .iload_n 2, 1, 50, 0), (50, .bastore, 1, 51, 0), (51, .aload_n 0, 1, 52, 0), (52, .iconst (-1), 1, 53, 0), (53, .invokevirtual 174, 3, 56, 0), (56, .aload_n 0, 1, 57, 0), (57, .iload_n 2, 1, 58, 0), (58, .ifCond .eq 7, 3, 61, 65), (61, .iconst 1, 1, 62, 0), (62, .goto 4, 3, 65, 66), (65, .iconst 2, 1, 66, 0), (66, .iload_n 1, 1, 67, 0), (67, .iconst 0, 1, 68, 0), (68, .iconst 0, 1, 69, 0), (69, .iconst 0, 1, 70, 0), (70, .invokevirtual 177, 3, 73, 0), (73, .aload_n 0, 1, 74, 0), (74, .iload_n 1, 1, 75, 0), (75, .invokevirtual 186, 3, 78, 0), (78, .ireturn, 1, 79, 0)]
abbrev M_r_turn : MI := (⟨"AmendedDrawingModel", "turn", "(IZ)I"⟩, prog_9_method_39_code, 3, some (.int), { frames := 7, cells := 0, slots := 0, locals := 168 }, [], T_r_turn)
set_option maxRecDepth 100000 in
theorem ok_r_turn : okM M_r_turn := by unfold okM; decide +kernel
set_option maxRecDepth 100000 in
theorem co_r_turn : CO M_r_turn := ⟨rfl, by decide +kernel, ok_r_turn, w_858, w_8, by decide⟩
theorem cv_r_turn : CV M_r_turn 2 := ⟨co_r_turn, w_857, (tt_sel 53 rfl rfl), by decide +kernel⟩
def T_r_withdraw : List Row := [(0, .aload_n 0, 1, 1, 0), (1, .iload_n 1, 1, 2, 0), (2, .iconst 1, 1, 3, 0), (3, .invokevirtual 189, 3, 6, 0), (6, .ireturn, 1, 7, 0)]
abbrev M_r_withdraw : MI := (⟨"AmendedDrawingModel", "withdraw", "(I)I"⟩, prog_9_method_40_code, 2, some (.int), { frames := 8, cells := 0, slots := 0, locals := 190 }, [], T_r_withdraw)
set_option maxRecDepth 100000 in
theorem ok_r_withdraw : okM M_r_withdraw := by unfold okM; decide +kernel
set_option maxRecDepth 100000 in
theorem co_r_withdraw : CO M_r_withdraw := ⟨rfl, by decide +kernel, ok_r_withdraw, w_854, w_8, by decide⟩
theorem cv_r_withdraw : CV M_r_withdraw 1 := ⟨co_r_withdraw, w_852, w_853, by decide +kernel⟩
def T_r_reinstate : List Row := [(0, .aload_n 0, 1, 1, 0), (1, .iload_n 1, 1, 2, 0), (2, .iconst 0, 1, 3, 0), (3, .invokevirtual 189, 3, 6, 0), (6, .ireturn, 1, 7, 0)]
abbrev M_r_reinstate : MI := (⟨"AmendedDrawingModel", "reinstate", "(I)I"⟩, prog_9_method_41_code, 2, some (.int), { frames := 8, cells := 0, slots := 0, locals := 190 }, [], T_r_reinstate)
set_option maxRecDepth 100000 in
theorem ok_r_reinstate : okM M_r_reinstate := by unfold okM; decide +kernel
set_option maxRecDepth 100000 in
theorem co_r_reinstate : CO M_r_reinstate := ⟨rfl, by decide +kernel, ok_r_reinstate, w_874, w_8, by decide⟩
theorem cv_r_reinstate : CV M_r_reinstate 1 := ⟨co_r_reinstate, w_872, w_873, by decide +kernel⟩
def T_r_amend : List Row := [(0, .aload_n 0, 1, 1, 0), (1, .iload_n 1, 1, 2, 0), (2, .invokevirtual 180, 3, 5, 0), (5, .istore 4, 2, 7, 0), (7, .aload_n 0, 1, 8, 0), (8, .iload 4, 2, 10, 0), (10, .ifCond .ne 7, 3, 13, 17), (13, .iconst 1, 1, 14, 0), (14, .goto 39, 3, 17, 53), (17, .iload_n 2, 1, 18, 0), (18, .ifCond .lt 30, 3, 21, 48), (21, .iload_n 2, 1, 22, 0), (22, .aload_n 0, 1, 23, 0), (23, .getfield 7, 3, 26, 0), (26, .iload_n 1, 1, 27, 0), (27, .iaload, 1, 28, 0), (28, .invokestatic 164, 3, 31, 0), (31, .if_icmp .ge 17, 3, 34, 48), (34, .aload_n 0, 1, 35, 0), (35, .getfield 7, 3, 38, 0), (38, .iload_n 1, 1, 39, 0), (39, .iaload, 1, 40, 0), (40, .iload_n 2, 1, 41, 0), (41, .iload_n 3, 1, 42, 0), (42, .invokestatic 167, 3, 45, 0), (45, .ifCond .ne 7, 3, 48, 52), (48, .iconst 2, 1, 49, 0), (49, .goto 4, 3, 52, 53), (52, .iconst 0, 1, 53, 0), (53, .putfield 42, 3, 56, 0), (56, .aload_n 0, 1, 57, 0), (57, .getfield 42, 3, 60, 0), (60, .ifCond .le 5, 3, 63, 65), (63, .iconst 0, 1, 64, 0), (64, .ireturn, 1, 65, 0), (65, .aload_n 0, 1, 66, 0), (66, .iload_n 1, 1, 67, 0), (67, .iload_n 2, 1, 68, 0), (68, .invokevirtual 88, 3, 71, 0), (71, .istore 5, 2, 73, 0), (73, .aload_n 0, 1, 74, 0), (74, .getfield 13, 3, 77, 0), (77, .iconst 4, 1, 78, 0), (78, .iload_n 1, 1, 79, 0), (79, .imul, 1, 80, 0), (80, .iload_n 2, 1, 81, 0), (81, .iadd, 1, 82, 0), (82, .iload_n 3, 1, 83, 0), (83, .iastore, 1, 84, 0), (84, .aload_n 0, 1, 85, 0), (85, .iconst (-1), 1, 86, 0), (86, .invokevirtual 174, 3, 89, 0), (89, .aload_n 0, 1, 90, 0), (90, .iconst 3, 1, 91, 0), (91, .iload_n 1, 1, 92, 0), (92, .iload_n 2, 1, 93, 0), (93, .iload 5, 2, 95, 0), (95, .iload_n 3, 1, 96, 0), (96, .invokevirtual 177, 3, 99, 0), (99, .iload 5, 2, 101, 0), (101, .ireturn, 1, 102, 0)]
abbrev M_r_amend : MI := (⟨"AmendedDrawingModel", "amend", "(III)I"⟩, prog_9_method_42_code, 6, some (.int), { frames := 7, cells := 0, slots := 0, locals := 168 }, [], T_r_amend)
set_option maxRecDepth 100000 in
theorem ok_r_amend : okM M_r_amend := by unfold okM; decide +kernel
set_option maxRecDepth 100000 in
theorem co_r_amend : CO M_r_amend := ⟨rfl, by decide +kernel, ok_r_amend, w_878, w_8, by decide⟩
theorem cv_r_amend : CV M_r_amend 3 := ⟨co_r_amend, w_876, w_877, by decide +kernel⟩
def T_r_carry : List Row := [(0, .aload_n 0, 1, 1, 0), (1, .getfield 35, 3, 4, 0), (4, .iconst 5, 1, 5, 0), (5, .iload_n 1, 1, 6, 0), (6, .imul, 1, 7, 0), (7, .iaload, 1, 8, 0), (8, .istore_n 3, 1, 9, 0), (9, .aload_n 0, 1, 10, 0), (10, .getfield 35, 3, 13, 0), (13, .iconst 5, 1, 14, 0), (14, .iload_n 1, 1, 15, 0), (15, .imul, 1, 16, 0), (16, .iconst 1, 1, 17, 0), (17, .iadd, 1, 18, 0), (18, .iaload, 1, 19, 0), (19, .istore 4, 2, 21, 0), (21, .iload_n 3, 1, 22, 0), (22, .ifCond .ne 29, 3, 25, 51), (25, .aload_n 0, 1, 26, 0), (26, .iload_n 2, 1, 27, 0), (27, .ifCond .eq 12, 3, 30, 39), (30, .aload_n 0, 1, 31, 0), (31, .getfield 38, 3, 34, 0), (34, .iconst 1, 1, 35, 0), (35, .isub, 1, 36, 0), (36, .goto 9, 3, 39, 45), (39, .aload_n 0, 1, 40, 0), (40, .getfield 38, 3, 43, 0), (43, .iconst 1, 1, 44, 0), (44, .iadd, 1, 45, 0), (45, .putfield 38, 3, 48, 0), (48, .goto 75, 3, 51, 123), (51, .iload_n 3, 1, 52, 0), (52, .iconst 3, 1, 53, 0), (53, .if_icmp .ge 32, 3, 56, 85), (56, .aload_n 0, 1, 57, 0), (57, .getfield 16, 3, 60, 0), (60, .iload 4, 2, 62, 0), (62, .iload_n 3, 1, 63, 0), (63, .iconst 1, 1, 64, 0), (64, .if_icmp .ne 7, 3, 67, 71), (67, .iconst 1, 1, 68, 0), (68, .goto 4, 3, 71, 72), (71, .iconst 0, 1, 72, 0), (72, .iload_n 2, 1, 73, 0), (73, .if_icmp .eq 7, 3, 76, 80), (76, .iconst 1, 1, 77, 0), (77, .goto 4, 3, 80, 81), (80, .iconst 0, 1, 81, 0), (81, .bastore, 1, 82, 0), (82, .goto 41, 3, 85, 123), (85, .aload_n 0, 1, 86, 0), (86, .getfield 13, 3, 89, 0), (89, .iconst 4, 1, 90, 0), (90, .iload 4, 2, 92, 0), (92, .imul, 1, 93, 0), (93, .aload_n 0, 1, 94, 0), (94, .getfield 35, 3, 97, 0), (97, .iconst 5, 1, 98, 0), (98, .iload_n 1, 1, 99, 0), (99, .imul, 1, 100, 0), (100, .iconst 2, 1, 101, 0), (101, .iadd, 1, 102, 0), (102, .iaload, 1, 103, 0), (103, .iadd, 1, 104, 0), (104, .aload_n 0, 1, 105, 0), (105, .getfield 35, 3, 108, 0), (108, .iconst 5, 1, 109, 0), (109, .iload_n 1, 1, 110, 0), (110, .imul, 1, 111, 0), (111, .iload_n 2, 1, 112, 0), (112, .ifCond .eq 7, 3, 115, 119), (115, .iconst 3, 1, 116, 0), (116, .goto 4, 3, 119, 120), (119, .iconst 4, 1, 120, 0), (120, .iadd, 1, 121, 0), (121, .iaload, 1, 122, 0), (122, .iastore, 1, 123, 0), (123, .aload_n 0, 1, 124, 0), (124, .iconst (-1), 1, 125, 0), (125, .invokevirtual 174, 3, 128, 0), (128, .iload_n 3, 1, 129, 0), (129, .ireturn, 1, 130, 0)]
abbrev M_r_carry : MI := (⟨"AmendedDrawingModel", "carry", "(IZ)I"⟩, prog_9_method_43_code, 5, some (.int), { frames := 7, cells := 0, slots := 0, locals := 168 }, [], T_r_carry)
set_option maxRecDepth 100000 in
theorem ok_r_carry : okM M_r_carry := by unfold okM; decide +kernel
set_option maxRecDepth 100000 in
theorem co_r_carry : CO M_r_carry := ⟨rfl, by decide +kernel, ok_r_carry, w_886, w_8, by decide⟩
theorem cv_r_carry : CV M_r_carry 2 := ⟨co_r_carry, w_885, (tt_sel 57 rfl rfl), by decide +kernel⟩
def T_r_undo : List Row := [(0, .aload_n 0, 1, 1, 0), (1, .aload_n 0, 1, 2, 0), (2, .getfield 158, 3, 5, 0), (5, .ifCond .ne 7, 3, 8, 12), (8, .iconst 1, 1, 9, 0), (9, .goto 4, 3, 12, 13), (12, .iconst 0, 1, 13, 0), (13, .putfield 42, 3, 16, 0), (16, .aload_n 0, 1, 17, 0), (17, .getfield 42, 3, 20, 0), (20, .ifCond .le 5, 3, 23, 25), (23, .iconst 0, 1, 24, 0), (24, .ireturn, 1, 25, 0), (25, .aload_n 0, 1, 26, 0), (26, .dup, 1, 27, 0), (27, .getfield 158, 3, 30, 0), (30, .iconst 1, 1, 31, 0), (31, .isub, 1, 32, 0), (32, .putfield 158, 3, 35, 0), (35, .aload_n 0, 1, 36, 0), (36, .aload_n 0, 1, 37, 0), (37, .getfield 158, 3, 40, 0), (40, .iconst 1, 1, 41, 0), (41, .invokevirtual 193, 3, 44, 0), (44, .ireturn, 1, 45, 0)]
abbrev M_r_undo : MI := (⟨"AmendedDrawingModel", "undo", "()I"⟩, prog_9_method_44_code, 1, some (.int), { frames := 8, cells := 0, slots := 0, locals := 192 }, [], T_r_undo)
set_option maxRecDepth 100000 in
theorem ok_r_undo : okM M_r_undo := by unfold okM; decide +kernel
set_option maxRecDepth 100000 in
theorem co_r_undo : CO M_r_undo := ⟨rfl, by decide +kernel, ok_r_undo, w_882, w_8, by decide⟩
theorem cv_r_undo : CV M_r_undo 0 := ⟨co_r_undo, w_880, w_881, by decide +kernel⟩
def T_r_redo : List Row := [(0, .aload_n 0, 1, 1, 0), (1, .aload_n 0, 1, 2, 0), (2, .getfield 158, 3, 5, 0), (5, .aload_n 0, 1, 6, 0), (6, .getfield 161, 3, 9, 0), (9, .if_icmp .ne 7, 3, 12, 16), (12, .iconst 1, 1, 13, 0), (13, .goto 4, 3, 16, 17), (16, .iconst 0, 1, 17, 0), (17, .putfield 42, 3, 20, 0), (20, .aload_n 0, 1, 21, 0), (21, .getfield 42, 3, 24, 0), (24, .ifCond .le 5, 3, 27, 29), (27, .iconst 0, 1, 28, 0), (28, .ireturn, 1, 29, 0), (29, .aload_n 0, 1, 30, 0), (30, .dup, 1, 31, 0), (31, .getfield 158, 3, 34, 0), (34, .iconst 1, 1, 35, 0), (35, .iadd, 1, 36, 0), (36, .putfield 158, 3, 39, 0), (39, .aload_n 0, 1, 40, 0), (40, .aload_n 0, 1, 41, 0), (41, .getfield 158, 3, 44, 0), (44, .iconst 1, 1, 45, 0), (45, .isub, 1, 46, 0), (46, .iconst 0, 1, 47, 0), (47, .invokevirtual 193, 3, 50, 0), (50, .ireturn, 1, 51, 0)]
abbrev M_r_redo : MI := (⟨"AmendedDrawingModel", "redo", "()I"⟩, prog_9_method_45_code, 1, some (.int), { frames := 8, cells := 0, slots := 0, locals := 192 }, [], T_r_redo)
set_option maxRecDepth 100000 in
theorem ok_r_redo : okM M_r_redo := by unfold okM; decide +kernel
set_option maxRecDepth 100000 in
theorem co_r_redo : CO M_r_redo := ⟨rfl, by decide +kernel, ok_r_redo, w_890, w_8, by decide⟩
theorem cv_r_redo : CV M_r_redo 0 := ⟨co_r_redo, w_888, w_889, by decide +kernel⟩
def T_r_actions : List Row := [(0, .aload_n 0, 1, 1, 0), (1, .iconst 0, 1, 2, 0), (2, .putfield 42, 3, 5, 0), (5, .aload_n 0, 1, 6, 0), (6, .getfield 38, 3, 9, 0), (9, .ireturn, 1, 10, 0)]
abbrev M_r_actions : MI := (⟨"AmendedDrawingModel", "actions", "()I"⟩, prog_9_method_46_code, 1, some (.int), { frames := 0, cells := 0, slots := 0, locals := 0 }, [], T_r_actions)
set_option maxRecDepth 100000 in
theorem ok_r_actions : okM M_r_actions := by unfold okM; decide +kernel
set_option maxRecDepth 100000 in
theorem co_r_actions : CO M_r_actions := ⟨rfl, by decide +kernel, ok_r_actions, w_894, w_8, by decide⟩
theorem cv_r_actions : CV M_r_actions 0 := ⟨co_r_actions, w_892, w_893, by decide +kernel⟩
def T_r_argument : List Row := [(0, .aload_n 0, 1, 1, 0), (1, .aload_n 0, 1, 2, 0), (2, .iload_n 1, 1, 3, 0), (3, .invokevirtual 180, 3, 6, 0), (6, .ifCond .eq 16, 3, 9, 22), (9, .iload_n 2, 1, 10, 0), (10, .ifCond .lt 12, 3, 13, 22), (13, .iload_n 2, 1, 14, 0), (14, .iconst 5, 1, 15, 0), (15, .if_icmp .ge 7, 3, 18, 22), (18, .iconst 0, 1, 19, 0), (19, .goto 4, 3, 22, 23), (22, .iconst 1, 1, 23, 0), (23, .putfield 42, 3, 26, 0), (26, .aload_n 0, 1, 27, 0), (27, .getfield 42, 3, 30, 0), (30, .ifCond .le 7, 3, 33, 37), (33, .iconst 0, 1, 34, 0), (34, .goto 23, 3, 37, 57), (37, .iload_n 2, 1, 38, 0), (38, .iconst 4, 1, 39, 0), (39, .if_icmp .ne 12, 3, 42, 51), (42, .aload_n 0, 1, 43, 0), (43, .getfield 7, 3, 46, 0), (46, .iload_n 1, 1, 47, 0), (47, .iaload, 1, 48, 0), (48, .goto 9, 3, 51, 57), (51, .aload_n 0, 1, 52, 0), (52, .iload_n 1, 1, 53, 0), (53, .iload_n 2, 1, 54, 0), (54, .invokevirtual 88, 3, 57, 0), (57, .ireturn, 1, 58, 0)]
abbrev M_r_argument : MI := (⟨"AmendedDrawingModel", "argument", "(II)I"⟩, prog_9_method_47_code, 3, some (.int), { frames := 1, cells := 0, slots := 0, locals := 22 }, [], T_r_argument)
set_option maxRecDepth 100000 in
theorem ok_r_argument : okM M_r_argument := by unfold okM; decide +kernel
set_option maxRecDepth 100000 in
theorem co_r_argument : CO M_r_argument := ⟨rfl, by decide +kernel, ok_r_argument, w_898, w_8, by decide⟩
theorem cv_r_argument : CV M_r_argument 2 := ⟨co_r_argument, w_896, w_897, by decide +kernel⟩
def T_r_effect : List Row := [(0, .aload_n 0, 1, 1, 0), (1, .aload_n 0, 1, 2, 0), (2, .iload_n 1, 1, 3, 0), (3, .invokevirtual 180, 3, 6, 0), (6, .ifCond .eq 7, 3, 9, 13), (9, .iconst 0, 1, 10, 0), (10, .goto 4, 3, 13, 14), (13, .iconst 1, 1, 14, 0), (14, .putfield 42, 3, 17, 0), (17, .aload_n 0, 1, 18, 0), (18, .getfield 42, 3, 21, 0), (21, .ifCond .le 7, 3, 24, 28), (24, .iconst 0, 1, 25, 0), (25, .goto 9, 3, 28, 34), (28, .aload_n 0, 1, 29, 0), (29, .getfield 20, 3, 32, 0), (32, .iload_n 1, 1, 33, 0), (33, .iaload, 1, 34, 0), (34, .ireturn, 1, 35, 0)]
abbrev M_r_effect : MI := (⟨"AmendedDrawingModel", "effect", "(I)I"⟩, prog_9_method_48_code, 2, some (.int), { frames := 1, cells := 0, slots := 0, locals := 21 }, [], T_r_effect)
set_option maxRecDepth 100000 in
theorem ok_r_effect : okM M_r_effect := by unfold okM; decide +kernel
set_option maxRecDepth 100000 in
theorem co_r_effect : CO M_r_effect := ⟨rfl, by decide +kernel, ok_r_effect, w_902, w_8, by decide⟩
theorem cv_r_effect : CV M_r_effect 1 := ⟨co_r_effect, w_900, w_901, by decide +kernel⟩
def T_r_needed : List Row := [(0, .aload_n 0, 1, 1, 0), (1, .aload_n 0, 1, 2, 0), (2, .iload_n 1, 1, 3, 0), (3, .invokevirtual 180, 3, 6, 0), (6, .ifCond .eq 7, 3, 9, 13), (9, .iconst 0, 1, 10, 0), (10, .goto 4, 3, 13, 14), (13, .iconst 1, 1, 14, 0), (14, .putfield 42, 3, 17, 0), (17, .aload_n 0, 1, 18, 0), (18, .getfield 42, 3, 21, 0), (21, .ifCond .le 5, 3, 24, 26), (24, .iconst 0, 1, 25, 0), (25, .ireturn, 1, 26, 0), (26, .aload_n 0, 1, 27, 0), (27, .invokevirtual 183, 3, 30, 0), (30, .aload_n 0, 1, 31, 0), (31, .iload_n 1, 1, 32, 0), (32, .invokevirtual 174, 3, 35, 0), (35, .iload_n 2, 1, 36, 0), (36, .istore_n 3, 1, 37, 0), (37, .iconst (-1), 1, 38, 0), (38, .istore 4, 2, 40, 0), (40, .iload_n 1, 1, 41, 0), (41, .iconst 1, 1, 42, 0), (42, .iadd, 1, 43, 0), (43, .istore 5, 2, 45, 0), (45, .iload 5, 2, 47, 0), (47, .aload_n 0, 1, 48, 0), (48, .getfield 38, 3, 51, 0), (51, .if_icmp .ge 46, 3, 54, 97), (54, .iload 4, 2, 56, 0), (56, .ifCond .ge 41, 3, 59, 97), (59, .aload_n 0, 1, 60, 0), (60, .getfield 20, 3, 63, 0), (63, .iload 5, 2, 65, 0), (65, .iaload, 1, 66, 0), (66, .aload_n 0, 1, 67, 0), (67, .getfield 23, 3, 70, 0), (70, .iload 5, 2, 72, 0), (72, .iaload, 1, 73, 0), (73, .if_icmp .eq 18, 3, 76, 91), (76, .iload_n 3, 1, 77, 0), (77, .ifCond .ne 8, 3, 80, 85), (80, .iload 5, 2, 82, 0), (82, .goto 4, 3, 85, 86), (85, .iconst (-1), 1, 86, 0), (86, .istore 4, 2, 88, 0), (88, .iinc 3 (-1), 3, 91, 0), (91, .iinc 5 1, 3, 94, 0), (94, .goto (-49), 3, 97, 45), (97, .aload_n 0, 1, 98, 0), (98, .iconst (-1), 1, 99, 0), (99, .invokevirtual 174, 3, 102, 0), (102, .iload 4, 2, 104, 0), (104, .ireturn, 1, 105, 0)]
abbrev M_r_needed : MI := (⟨"AmendedDrawingModel", "needed", "(II)I"⟩, prog_9_method_49_code, 6, some (.int), { frames := 7, cells := 0, slots := 0, locals := 168 }, [], T_r_needed)
set_option maxRecDepth 100000 in
theorem ok_r_needed : okM M_r_needed := by unfold okM; decide +kernel
set_option maxRecDepth 100000 in
theorem co_r_needed : CO M_r_needed := ⟨rfl, by decide +kernel, ok_r_needed, w_906, w_8, by decide⟩
theorem cv_r_needed : CV M_r_needed 2 := ⟨co_r_needed, w_904, w_905, by decide +kernel⟩
def T_r_needs : List Row := [(0, .aload_n 0, 1, 1, 0), (1, .aload_n 0, 1, 2, 0), (2, .iload_n 1, 1, 3, 0), (3, .invokevirtual 180, 3, 6, 0), (6, .ifCond .eq 7, 3, 9, 13), (9, .iconst 0, 1, 10, 0), (10, .goto 4, 3, 13, 14), (13, .iconst 1, 1, 14, 0), (14, .putfield 42, 3, 17, 0), (17, .aload_n 0, 1, 18, 0), (18, .getfield 42, 3, 21, 0), (21, .ifCond .le 5, 3, 24, 26), (24, .iconst 0, 1, 25, 0), (25, .ireturn, 1, 26, 0), (26, .aload_n 0, 1, 27, 0), (27, .getfield 20, 3, 30, 0), (30, .iload_n 1, 1, 31, 0), (31, .iaload, 1, 32, 0), (32, .istore_n 3, 1, 33, 0), (33, .iload_n 2, 1, 34, 0), (34, .istore 4, 2, 36, 0), (36, .iconst (-1), 1, 37, 0), (37, .istore 5, 2, 39, 0), (39, .iconst 0, 1, 40, 0), (40, .istore 6, 2, 42, 0), (42, .iload 6, 2, 44, 0), (44, .iload_n 1, 1, 45, 0), (45, .if_icmp .ge 46, 3, 48, 91), (48, .iload 5, 2, 50, 0), (50, .ifCond .ge 41, 3, 53, 91), (53, .aload_n 0, 1, 54, 0), (54, .iload 6, 2, 56, 0), (56, .invokevirtual 174, 3, 59, 0), (59, .aload_n 0, 1, 60, 0), (60, .getfield 20, 3, 63, 0), (63, .iload_n 1, 1, 64, 0), (64, .iaload, 1, 65, 0), (65, .iload_n 3, 1, 66, 0), (66, .if_icmp .eq 19, 3, 69, 85), (69, .iload 4, 2, 71, 0), (71, .ifCond .ne 8, 3, 74, 79), (74, .iload 6, 2, 76, 0), (76, .goto 4, 3, 79, 80), (79, .iconst (-1), 1, 80, 0), (80, .istore 5, 2, 82, 0), (82, .iinc 4 (-1), 3, 85, 0), (85, .iinc 6 1, 3, 88, 0), (88, .goto (-46), 3, 91, 42), (91, .aload_n 0, 1, 92, 0), (92, .iconst (-1), 1, 93, 0), (93, .invokevirtual 174, 3, 96, 0), (96, .iload 5, 2, 98, 0), (98, .ireturn, 1, 99, 0)]
abbrev M_r_needs : MI := (⟨"AmendedDrawingModel", "needs", "(II)I"⟩, prog_9_method_50_code, 7, some (.int), { frames := 7, cells := 0, slots := 0, locals := 168 }, [], T_r_needs)
set_option maxRecDepth 100000 in
theorem ok_r_needs : okM M_r_needs := by unfold okM; decide +kernel
set_option maxRecDepth 100000 in
theorem co_r_needs : CO M_r_needs := ⟨rfl, by decide +kernel, ok_r_needs, w_910, w_8, by decide⟩
theorem cv_r_needs : CV M_r_needs 2 := ⟨co_r_needs, w_908, w_909, by decide +kernel⟩
def T_r_objects : List Row := [(0, .aload_n 0, 1, 1, 0), (1, .iconst 0, 1, 2, 0), (2, .putfield 42, 3, 5, 0), (5, .aload_n 0, 1, 6, 0), (6, .getfield 45, 3, 9, 0), (9, .ireturn, 1, 10, 0)]
abbrev M_r_objects : MI := (⟨"AmendedDrawingModel", "objects", "()I"⟩, prog_9_method_51_code, 1, some (.int), { frames := 0, cells := 0, slots := 0, locals := 0 }, [], T_r_objects)
set_option maxRecDepth 100000 in
theorem ok_r_objects : okM M_r_objects := by unfold okM; decide +kernel
set_option maxRecDepth 100000 in
theorem co_r_objects : CO M_r_objects := ⟨rfl, by decide +kernel, ok_r_objects, w_914, w_8, by decide⟩
theorem cv_r_objects : CV M_r_objects 0 := ⟨co_r_objects, w_912, w_913, by decide +kernel⟩
def T_r_object : List Row := [(0, .aload_n 0, 1, 1, 0), (1, .iload_n 1, 1, 2, 0), (2, .ifCond .lt 25, 3, 5, 27), (5, .iload_n 1, 1, 6, 0), (6, .aload_n 0, 1, 7, 0), (7, .getfield 45, 3, 10, 0), (10, .if_icmp .ge 17, 3, 13, 27), (13, .iload_n 2, 1, 14, 0), (14, .ifCond .lt 13, 3, 17, 27), (17, .iload_n 2, 1, 18, 0), (18, .bipush 8, 2, 20, 0), (20, .if_icmp .ge 7, 3, 23, 27), (23, .iconst 0, 1, 24, 0), (24, .goto 4, 3, 27, 28), (27, .iconst 1, 1, 28, 0), (28, .putfield 42, 3, 31, 0), (31, .aload_n 0, 1, 32, 0), (32, .getfield 42, 3, 35, 0), (35, .ifCond .le 5, 3, 38, 40), (38, .iconst 0, 1, 39, 0), (39, .ireturn, 1, 40, 0), (40, .aload_n 0, 1, 41, 0), (41, .iload_n 1, 1, 42, 0), (42, .iconst 1, 1, 43, 0), (43, .invokevirtual 48, 3, 46, 0), (46, .iconst 3, 1, 47, 0), (47, .if_icmp .eq 10, 3, 50, 57), (50, .aload_n 0, 1, 51, 0), (51, .iload_n 1, 1, 52, 0), (52, .iload_n 2, 1, 53, 0), (53, .invokevirtual 48, 3, 56, 0), (56, .ireturn, 1, 57, 0), (57, .aload_n 0, 1, 58, 0), (58, .iload_n 1, 1, 59, 0), (59, .aload_n 0, 1, 60, 0), (60, .iload_n 1, 1, 61, 0), (61, .invokevirtual 91, 3, 64, 0), (64, .invokevirtual 94, 3, 67, 0), (67, .iload_n 2, 1, 68, 0), (68, .tableswitch 68 2 6 #[36, 41, 46, 56, 66], 36, 104, 0), (104, .aload_n 0, 1, 105, 0), (105, .getfield 71, 3, 108, 0), (108, .ireturn, 1, 109, 0), (109, .aload_n 0, 1, 110, 0), (110, .getfield 74, 3, 113, 0), (113, .ireturn, 1, 114, 0), (114, .aload_n 0, 1, 115, 0), (115, .getfield 78, 3, 118, 0), (118, .aload_n 0, 1, 119, 0), (119, .getfield 71, 3, 122, 0), (122, .isub, 1, 123, 0), (123, .ireturn, 1, 124, 0), (124, .aload_n 0, 1, 125, 0), (125, .getfield 81, 3, 128, 0), (128, .aload_n 0, 1, 129, 0), (129, .getfield 74, 3, 132, 0), (132, .isub, 1, 133, 0), (133, .ireturn, 1, 134, 0), (134, .iconst (-1), 1, 135, 0), (135, .ireturn, 1, 136, 0), (136, .aload_n 0, 1, 137, 0), (137, .iload_n 1, 1, 138, 0), (138, .iload_n 2, 1, 139, 0), (139, .invokevirtual 48, 3, 142, 0), (142, .ireturn, 1, 143, 0)]
abbrev M_r_object : MI := (⟨"AmendedDrawingModel", "object", "(II)I"⟩, prog_9_method_52_code, 3, some (.int), { frames := 4, cells := 0, slots := 0, locals := 90 }, [], T_r_object)
set_option maxRecDepth 100000 in
theorem ok_r_object : okM M_r_object := by unfold okM; decide +kernel
set_option maxRecDepth 100000 in
theorem co_r_object : CO M_r_object := ⟨rfl, by decide +kernel, ok_r_object, w_918, w_8, by decide⟩
theorem cv_r_object : CV M_r_object 2 := ⟨co_r_object, w_916, w_917, by decide +kernel⟩
def T_r_size : List Row := [(0, .lload_n 0, 1, 1, 0), (1, .lconst 0, 1, 2, 0), (2, .lcmp, 1, 3, 0), (3, .ifCond .ge 8, 3, 6, 11), (6, .lload_n 0, 1, 7, 0), (7, .lneg, 1, 8, 0), (8, .goto 4, 3, 11, 12), (11, .lload_n 0, 1, 12, 0), (12, .lreturn, 1, 13, 0)]
abbrev M_r_size : MI := (⟨"AmendedDrawingModel", "size", "(J)J"⟩, prog_9_method_53_code, 2, some (.long), { frames := 0, cells := 0, slots := 0, locals := 0 }, [], T_r_size)
set_option maxRecDepth 100000 in
theorem ok_r_size : okM M_r_size := by unfold okM; decide +kernel
set_option maxRecDepth 100000 in
theorem co_r_size : CO M_r_size := ⟨rfl, by decide +kernel, ok_r_size, w_934, w_8, by decide⟩
theorem cs_r_size : CS M_r_size 1 := ⟨co_r_size, w_933, by decide +kernel⟩
def T_r_covers : List Row := [(0, .aload_n 0, 1, 1, 0), (1, .iload_n 1, 1, 2, 0), (2, .iconst 4, 1, 3, 0), (3, .invokevirtual 48, 3, 6, 0), (6, .i2l, 1, 7, 0), (7, .lstore 4, 2, 9, 0), (9, .aload_n 0, 1, 10, 0), (10, .iload_n 1, 1, 11, 0), (11, .iconst 5, 1, 12, 0), (12, .invokevirtual 48, 3, 15, 0), (15, .i2l, 1, 16, 0), (16, .lstore 6, 2, 18, 0), (18, .aload_n 0, 1, 19, 0), (19, .iload_n 1, 1, 20, 0), (20, .iconst 1, 1, 21, 0), (21, .invokevirtual 48, 3, 24, 0), (24, .iconst 3, 1, 25, 0), (25, .if_icmp .eq 55, 3, 28, 80), (28, .iload_n 2, 1, 29, 0), (29, .aload_n 0, 1, 30, 0), (30, .iload_n 1, 1, 31, 0), (31, .iconst 2, 1, 32, 0), (32, .invokevirtual 48, 3, 35, 0), (35, .if_icmp .lt 45, 3, 38, 80), (38, .iload_n 2, 1, 39, 0), (39, .i2l, 1, 40, 0), (40, .aload_n 0, 1, 41, 0), (41, .iload_n 1, 1, 42, 0), (42, .iconst 2, 1, 43, 0), (43, .invokevirtual 48, 3, 46, 0), (46, .i2l, 1, 47, 0), (47, .lload 4, 2, 49, 0), (49, .ladd, 1, 50, 0), (50, .lcmp, 1, 51, 0), (51, .ifCond .ge 29, 3, 54, 80), (54, .iload_n 3, 1, 55, 0), (55, .aload_n 0, 1, 56, 0), (56, .iload_n 1, 1, 57, 0), (57, .iconst 3, 1, 58, 0), (58, .invokevirtual 48, 3, 61, 0), (61, .if_icmp .lt 19, 3, 64, 80), (64, .iload_n 3, 1, 65, 0), (65, .i2l, 1, 66, 0), (66, .aload_n 0, 1, 67, 0), (67, .iload_n 1, 1, 68, 0), (68, .iconst 3, 1, 69, 0), (69, .invokevirtual 48, 3, 72, 0), (72, .i2l, 1, 73, 0), (73, .lload 6, 2, 75, 0), (75, .ladd, 1, 76, 0), (76, .lcmp, 1, 77, 0), (77, .ifCond .lt 5, 3, 80, 82), (80, .iconst 0, 1, 81, 0), (81, .ireturn, 1, 82, 0), (82, .ldc2_w 196, 3, 85, 0), (85, .iload_n 2, 1, 86, 0), (86, .aload_n 0, 1, 87, 0), (87, .iload_n 1, 1, 88, 0), (88, .iconst 2, 1, 89, 0), (89, .invokevirtual 48, 3, 92, 0), (92, .isub, 1, 93, 0), (93, .i2l, 1, 94, 0), (94, .lmul, 1, 95, 0), (95, .lconst 1, 1, 96, 0), (96, .ladd, 1, 97, 0), (97, .lload 4, 2, 99, 0), (99, .lsub, 1, 100, 0), (100, .lstore 8, 2, 102, 0), (102, .ldc2_w 196, 3, 105, 0), (105, .iload_n 3, 1, 106, 0), (106, .aload_n 0, 1, 107, 0), (107, .iload_n 1, 1, 108, 0), (108, .iconst 3, 1, 109, 0), (109, .invokevirtual 48, 3, 112, 0), (112, .isub, 1, 113, 0), (113, .i2l, 1, 114, 0), (114, .lmul, 1, 115, 0), (115, .lconst 1, 1, 116, 0), (116, .ladd, 1, 117, 0), (117, .lload 6, 2, 119, 0), (119, .lsub, 1, 120, 0), (120, .lstore 10, 2, 122, 0), (122, .aload_n 0, 1, 123, 0), (123, .iload_n 1, 1, 124, 0), (124, .iconst 1, 1, 125, 0), (125, .invokevirtual 48, 3, 128, 0), (128, .ifCond .eq 80, 3, 131, 208), (131, .aload_n 0, 1, 132, 0), (132, .iload_n 1, 1, 133, 0), (133, .iconst 1, 1, 134, 0), (134, .invokevirtual 48, 3, 137, 0), (137, .iconst 1, 1, 138, 0), (138, .if_icmp .ne 44, 3, 141, 182), (141, .lload 8, 2, 143, 0), (143, .lload 8, 2, 145, 0), (145, .lmul, 1, 146, 0), (146, .lload 6, 2, 148, 0), (148, .lmul, 1, 149, 0), (149, .lload 6, 2, 151, 0), (151, .lmul, 1, 152, 0), (152, .lload 10, 2, 154, 0), (154, .lload 10, 2, 156, 0), (156, .lmul, 1, 157, 0), (157, .lload 4, 2, 159, 0), (159, .lmul, 1, 160, 0), (160, .lload 4, 2, 162, 0), (162, .lmul, 1, 163, 0), (163, .ladd, 1, 164, 0), (164, .lload 4, 2, 166, 0), (166, .lload 4, 2, 168, 0), (168, .lmul, 1, 169, 0), (169, .lload 6, 2, 171, 0), (171, .lmul, 1, 172, 0), (172, .lload 6, 2, 174, 0), (174, .lmul, 1, 175, 0), (175, .lcmp, 1, 176, 0), (176, .ifCond .gt 36, 3, 179, 212), (179, .goto 29, 3, 182, 208), (182, .lload 8, 2, 184, 0), (184, .invokestatic 198, 3, 187, 0), (187, .lload 6, 2, 189, 0), (189, .lmul, 1, 190, 0), (190, .lload 10, 2, 192, 0), (192, .invokestatic 198, 3, 195, 0), (195, .lload 4, 2, 197, 0), (197, .lmul, 1, 198, 0), (198, .ladd, 1, 199, 0), (199, .lload 4, 2, 201, 0), (201, .lload 6, 2, 203, 0), (203, .lmul, 1, 204, 0), (204, .lcmp, 1, 205, 0), (205, .ifCond .gt 7, 3, 208, 212), (208, .iconst 1, 1, 209, 0), (209, .goto 4, 3, 212, 213), (212, .iconst 0, 1, 213, 0), (213, .ireturn, 1, 214, 0)]
abbrev M_r_covers : MI := (⟨"AmendedDrawingModel", "covers", "(III)Z"⟩, prog_9_method_54_code, 12, some (.boolean), { frames := 1, cells := 0, slots := 0, locals := 22 }, [], T_r_covers)
set_option maxRecDepth 100000 in
theorem ok_r_covers : okM M_r_covers := by unfold okM; decide +kernel
set_option maxRecDepth 100000 in
theorem co_r_covers : CO M_r_covers := ⟨rfl, by decide +kernel, ok_r_covers, w_930, w_8, by decide⟩
theorem cv_r_covers : CV M_r_covers 3 := ⟨co_r_covers, w_929, (tt_sel 59 rfl rfl), by decide +kernel⟩
def T_r_covering : List Row := [(0, .iconst (-1), 1, 1, 0), (1, .istore_n 3, 1, 2, 0), (2, .iconst 0, 1, 3, 0), (3, .istore 4, 2, 5, 0), (5, .iload 4, 2, 7, 0), (7, .aload_n 0, 1, 8, 0), (8, .getfield 45, 3, 11, 0), (11, .if_icmp .ge 27, 3, 14, 38), (14, .aload_n 0, 1, 15, 0), (15, .iload 4, 2, 17, 0), (17, .iload_n 1, 1, 18, 0), (18, .iload_n 2, 1, 19, 0), (19, .invokevirtual 202, 3, 22, 0), (22, .ifCond .eq 8, 3, 25, 30), (25, .iload 4, 2, 27, 0), (27, .goto 4, 3, 30, 31), (30, .iload_n 3, 1, 31, 0), (31, .istore_n 3, 1, 32, 0), (32, .iinc 4 1, 3, 35, 0), (35, .goto (-30), 3, 38, 5), (38, .iload_n 3, 1, 39, 0), (39, .ireturn, 1, 40, 0)]
abbrev M_r_covering : MI := (⟨"AmendedDrawingModel", "covering", "(II)I"⟩, prog_9_method_55_code, 5, some (.int), { frames := 2, cells := 0, slots := 0, locals := 53 }, [], T_r_covering)
set_option maxRecDepth 100000 in
theorem ok_r_covering : okM M_r_covering := by unfold okM; decide +kernel
set_option maxRecDepth 100000 in
theorem co_r_covering : CO M_r_covering := ⟨rfl, by decide +kernel, ok_r_covering, w_926, w_8, by decide⟩
theorem cv_r_covering : CV M_r_covering 2 := ⟨co_r_covering, w_925, (tt_sel 58 rfl rfl), by decide +kernel⟩
def T_r_hit : List Row := [(0, .aload_n 0, 1, 1, 0), (1, .iconst 0, 1, 2, 0), (2, .putfield 42, 3, 5, 0), (5, .aload_n 0, 1, 6, 0), (6, .iload_n 1, 1, 7, 0), (7, .iload_n 2, 1, 8, 0), (8, .invokevirtual 205, 3, 11, 0), (11, .istore_n 3, 1, 12, 0), (12, .iload_n 3, 1, 13, 0), (13, .ifCond .ge 7, 3, 16, 20), (16, .iconst (-1), 1, 17, 0), (17, .goto 9, 3, 20, 26), (20, .aload_n 0, 1, 21, 0), (21, .iload_n 3, 1, 22, 0), (22, .iconst 0, 1, 23, 0), (23, .invokevirtual 48, 3, 26, 0), (26, .ireturn, 1, 27, 0)]
abbrev M_r_hit : MI := (⟨"AmendedDrawingModel", "hit", "(II)I"⟩, prog_9_method_56_code, 4, some (.int), { frames := 3, cells := 0, slots := 0, locals := 77 }, [], T_r_hit)
set_option maxRecDepth 100000 in
theorem ok_r_hit : okM M_r_hit := by unfold okM; decide +kernel
set_option maxRecDepth 100000 in
theorem co_r_hit : CO M_r_hit := ⟨rfl, by decide +kernel, ok_r_hit, w_922, w_8, by decide⟩
theorem cv_r_hit : CV M_r_hit 2 := ⟨co_r_hit, w_920, w_921, by decide +kernel⟩
def T_r_shown : List Row := [(0, .aload_n 0, 1, 1, 0), (1, .iload_n 3, 1, 2, 0), (2, .iconst 1, 1, 3, 0), (3, .if_icmp .lt 9, 3, 6, 12), (6, .iload_n 3, 1, 7, 0), (7, .bipush 8, 2, 9, 0), (9, .if_icmp .le 7, 3, 12, 16), (12, .iconst 1, 1, 13, 0), (13, .goto 4, 3, 16, 17), (16, .iconst 0, 1, 17, 0), (17, .putfield 42, 3, 20, 0), (20, .iconst 0, 1, 21, 0), (21, .istore 5, 2, 23, 0), (23, .iconst 0, 1, 24, 0), (24, .istore 6, 2, 26, 0), (26, .iload 6, 2, 28, 0), (28, .iload_n 3, 1, 29, 0), (29, .iload_n 3, 1, 30, 0), (30, .imul, 1, 31, 0), (31, .if_icmp .ge 67, 3, 34, 98), (34, .aload_n 0, 1, 35, 0), (35, .getfield 42, 3, 38, 0), (38, .ifCond .ne 60, 3, 41, 98), (41, .aload_n 0, 1, 42, 0), (42, .iload_n 1, 1, 43, 0), (43, .iload 6, 2, 45, 0), (45, .iload_n 3, 1, 46, 0), (46, .irem, 1, 47, 0), (47, .iadd, 1, 48, 0), (48, .iload_n 2, 1, 49, 0), (49, .iload 6, 2, 51, 0), (51, .iload_n 3, 1, 52, 0), (52, .idiv, 1, 53, 0), (53, .iadd, 1, 54, 0), (54, .invokevirtual 205, 3, 57, 0), (57, .istore 7, 2, 59, 0), (59, .iload 7, 2, 61, 0), (61, .ifCond .ge 7, 3, 64, 68), (64, .iconst (-1), 1, 65, 0), (65, .goto 11, 3, 68, 76), (68, .aload_n 0, 1, 69, 0), (69, .iload 7, 2, 71, 0), (71, .bipush 6, 2, 73, 0), (73, .invokevirtual 48, 3, 76, 0), (76, .iload 4, 2, 78, 0), (78, .if_icmp .ne 10, 3, 81, 88), (81, .iload 5, 2, 83, 0), (83, .iconst 1, 1, 84, 0), (84, .iadd, 1, 85, 0), (85, .goto 5, 3, 88, 90), (88, .iload 5, 2, 90, 0), (90, .istore 5, 2, 92, 0), (92, .iinc 6 1, 3, 95, 0), (95, .goto (-69), 3, 98, 26), (98, .iload 5, 2, 100, 0), (100, .ireturn, 1, 101, 0)]
abbrev M_r_shown : MI := (⟨"AmendedDrawingModel", "shown", "(IIII)I"⟩, prog_9_method_57_code, 8, some (.int), { frames := 3, cells := 0, slots := 0, locals := 77 }, [], T_r_shown)
set_option maxRecDepth 100000 in
theorem ok_r_shown : okM M_r_shown := by unfold okM; decide +kernel
set_option maxRecDepth 100000 in
theorem co_r_shown : CO M_r_shown := ⟨rfl, by decide +kernel, ok_r_shown, w_938, w_8, by decide⟩
theorem cv_r_shown : CV M_r_shown 4 := ⟨co_r_shown, w_936, w_937, by decide +kernel⟩
def T_r_inside : List Row := [(0, .aload_n 0, 1, 1, 0), (1, .iconst 0, 1, 2, 0), (2, .putfield 42, 3, 5, 0), (5, .iload 5, 2, 7, 0), (7, .istore 6, 2, 9, 0), (9, .iconst 0, 1, 10, 0), (10, .istore 7, 2, 12, 0), (12, .iload 7, 2, 14, 0), (14, .aload_n 0, 1, 15, 0), (15, .getfield 45, 3, 18, 0), (18, .if_icmp .ge 122, 3, 21, 140), (21, .aload_n 0, 1, 22, 0), (22, .iload 7, 2, 24, 0), (24, .iconst 1, 1, 25, 0), (25, .invokevirtual 48, 3, 28, 0), (28, .iconst 3, 1, 29, 0), (29, .if_icmp .eq 68, 3, 32, 97), (32, .aload_n 0, 1, 33, 0), (33, .iload 7, 2, 35, 0), (35, .iconst 2, 1, 36, 0), (36, .invokevirtual 48, 3, 39, 0), (39, .iload_n 1, 1, 40, 0), (40, .if_icmp .lt 57, 3, 43, 97), (43, .aload_n 0, 1, 44, 0), (44, .iload 7, 2, 46, 0), (46, .iconst 3, 1, 47, 0), (47, .invokevirtual 48, 3, 50, 0), (50, .iload_n 2, 1, 51, 0), (51, .if_icmp .lt 46, 3, 54, 97), (54, .aload_n 0, 1, 55, 0), (55, .iload 7, 2, 57, 0), (57, .iconst 2, 1, 58, 0), (58, .invokevirtual 48, 3, 61, 0), (61, .aload_n 0, 1, 62, 0), (62, .iload 7, 2, 64, 0), (64, .iconst 4, 1, 65, 0), (65, .invokevirtual 48, 3, 68, 0), (68, .iadd, 1, 69, 0), (69, .iload_n 3, 1, 70, 0), (70, .if_icmp .gt 27, 3, 73, 97), (73, .aload_n 0, 1, 74, 0), (74, .iload 7, 2, 76, 0), (76, .iconst 3, 1, 77, 0), (77, .invokevirtual 48, 3, 80, 0), (80, .aload_n 0, 1, 81, 0), (81, .iload 7, 2, 83, 0), (83, .iconst 5, 1, 84, 0), (84, .invokevirtual 48, 3, 87, 0), (87, .iadd, 1, 88, 0), (88, .iload 4, 2, 90, 0), (90, .if_icmp .gt 7, 3, 93, 97), (93, .iconst 1, 1, 94, 0), (94, .goto 4, 3, 97, 98), (97, .iconst 0, 1, 98, 0), (98, .istore 8, 2, 100, 0), (100, .iload 8, 2, 102, 0), (102, .ifCond .eq 16, 3, 105, 118), (105, .iload 6, 2, 107, 0), (107, .ifCond .ne 11, 3, 110, 118), (110, .aload_n 0, 1, 111, 0), (111, .iload 7, 2, 113, 0), (113, .iconst 0, 1, 114, 0), (114, .invokevirtual 48, 3, 117, 0), (117, .ireturn, 1, 118, 0), (118, .iload 8, 2, 120, 0), (120, .ifCond .eq 10, 3, 123, 130), (123, .iload 6, 2, 125, 0), (125, .iconst 1, 1, 126, 0), (126, .isub, 1, 127, 0), (127, .goto 5, 3, 130, 132), (130, .iload 6, 2, 132, 0), (132, .istore 6, 2, 134, 0), (134, .iinc 7 1, 3, 137, 0), (137, .goto (-125), 3, 140, 12), (140, .iconst (-1), 1, 141, 0), (141, .ireturn, 1, 142, 0)]
abbrev M_r_inside : MI := (⟨"AmendedDrawingModel", "inside", "(IIIII)I"⟩, prog_9_method_58_code, 9, some (.int), { frames := 1, cells := 0, slots := 0, locals := 22 }, [], T_r_inside)
set_option maxRecDepth 100000 in
theorem ok_r_inside : okM M_r_inside := by unfold okM; decide +kernel
set_option maxRecDepth 100000 in
theorem co_r_inside : CO M_r_inside := ⟨rfl, by decide +kernel, ok_r_inside, w_942, w_8, by decide⟩
theorem cv_r_inside : CV M_r_inside 5 := ⟨co_r_inside, w_940, w_941, by decide +kernel⟩
end
section
def r_thrown (post : Int32 → Mem → Prop) (S : Mem)  : Prop :=
  post (S 148 0) S
set_option maxRecDepth 100000 in
set_option maxHeartbeats 1000000 in
theorem zr_thrown {g : Gm} {G : Gp} {S : Mem} {post : Int32 → Mem → Prop}  (hx : G.2.2.2 = false) (hG : isR G) (hw : r_thrown post S ) : Z g M_r_thrown 0 0 0 (entryL [.ref 148] (mL M_r_thrown)) [] (S, G) (Qi G post noEx) := by
  unfold r_thrown at hw
  show Z g M_r_thrown 0 0 0 [some (.ref 148)] [] (S, G) (Qi G post noEx)
  refine z_aload_n rfl rfl ?_
  refine z_geti (ci := 7) 0 rfl hG.1 rfl w_658 ?_
  exact z_iret rfl rfl rfl rfl (Or.inl ⟨_, _, rfl, rfl, hw⟩)
def r_of (post : Int32 → Mem → Prop) (S : Mem) (l1 : Int32) (l2 : Int32) : Prop :=
  (vp_in ((8 * l1) + l2) 112) ∧ post (S 154 ((8 * l1) + l2).toNatClampNeg) S
set_option maxRecDepth 100000 in
set_option maxHeartbeats 1000000 in
theorem zr_of {g : Gm} {G : Gp} {S : Mem} {post : Int32 → Mem → Prop} {l1 : Int32} {l2 : Int32} (hx : G.2.2.2 = false) (hG : isR G) (hw : r_of post S l1 l2) : Z g M_r_of 0 0 0 (entryL [.ref 148, .int l1, .int l2] (mL M_r_of)) [] (S, G) (Qi G post noEx) := by
  unfold r_of at hw
  show Z g M_r_of 0 0 0 [some (.ref 148), some (.int l1), some (.int l2)] [] (S, G) (Qi G post noEx)
  refine z_aload_n rfl rfl ?_
  refine z_getr (ci := 7) 8 rfl hG.1 rfl w_666 hG.2.2.2.2.2.2.2.2.2.2.2.1 ?_
  refine z_bipush 8 rfl rfl ?_
  refine z_iload_n rfl rfl ?_
  refine z_imul rfl ?_
  refine z_iload_n rfl rfl ?_
  refine z_iadd rfl ?_
  obtain ⟨hc1, hw⟩ := hw
  refine z_iald (((8 * l1) + l2).toNatClampNeg) rfl hG.2.2.2.2.2.2.2.2.2.2.2.2.1 hc1 rfl ?_
  exact z_iret rfl rfl rfl rfl (Or.inl ⟨_, _, rfl, rfl, hw⟩)
def r_put (post : Mem → Prop) (S : Mem) (l1 : Int32) (l2 : Int32) (l3 : Int32) : Prop :=
  (vp_in ((8 * l1) + l2) 112) ∧ ∀ S1, S1 = up2 S 154 ((8 * l1) + l2).toNatClampNeg l3 → post S1
set_option maxRecDepth 100000 in
set_option maxHeartbeats 1000000 in
theorem zr_put {g : Gm} {G : Gp} {S : Mem} {post : Mem → Prop} {l1 : Int32} {l2 : Int32} {l3 : Int32} (hx : G.2.2.2 = false) (hG : isR G) (hw : r_put post S l1 l2 l3) : Z g M_r_put 0 0 0 (entryL [.ref 148, .int l1, .int l2, .int l3] (mL M_r_put)) [] (S, G) (Qv G post noEx) := by
  unfold r_put at hw
  show Z g M_r_put 0 0 0 [some (.ref 148), some (.int l1), some (.int l2), some (.int l3)] [] (S, G) (Qv G post noEx)
  refine z_aload_n rfl rfl ?_
  refine z_getr (ci := 7) 8 rfl hG.1 rfl w_666 hG.2.2.2.2.2.2.2.2.2.2.2.1 ?_
  refine z_bipush 8 rfl rfl ?_
  refine z_iload_n rfl rfl ?_
  refine z_imul rfl ?_
  refine z_iload_n rfl rfl ?_
  refine z_iadd rfl ?_
  refine z_iload_n rfl rfl ?_
  obtain ⟨hc1, hw⟩ := hw
  replace hw := hw _ rfl
  refine z_iast (((8 * l1) + l2).toNatClampNeg) rfl hG.2.2.2.2.2.2.2.2.2.2.2.2.1 hc1 rfl ?_
  exact z_vret rfl rfl rfl rfl (Or.inl ⟨_, rfl, rfl, hw⟩)
def r_find_L4 (post : Int32 → Mem → Prop)  : Nat → Mem → Int32 → Int32 → Int32 → Prop
  | 0, _, _, _, _ => False
  | n + 1, S, l1, l2, l3 =>
  (((S 148 7) ≤ l3) →
   post l2 S) ∧
  ((¬ (S 148 7) ≤ l3) →
   (vp_in ((8 * l3) + 0) 112) ∧ 
   r_find_L4 post n S l1 (if (S 154 ((8 * l3) + 0).toNatClampNeg) = l1 then l3 else l2 : Int32) (l3 + 1))
set_option maxRecDepth 100000 in
set_option maxHeartbeats 1000000 in
theorem zr_find_L4 {g : Gm} {G : Gp} {post : Int32 → Mem → Prop} (hx : G.2.2.2 = false) (hG : isR G) : ∀ (n : Nat) {S : Mem} {l1 : Int32} {l2 : Int32} {l3 : Int32} , r_find_L4 post n S l1 l2 l3 → Z g M_r_find 0 0 4 [some (.ref 148), some (.int l1), some (.int l2), some (.int l3)] [] (S, G) (Qi G post noEx) := by
  intro n
  induction n with
  | zero =>
    intros
    rename_i hw
    exact hw.elim
  | succ n ih =>
    intro S l1 l2 l3 hw
    rw [r_find_L4] at hw
    refine z_iload_n rfl rfl ?_
    refine z_aload_n rfl rfl ?_
    refine z_geti (ci := 7) 7 rfl hG.1 rfl w_665 ?_
    refine z_icmp_ge rfl (fun hq => ?_) (fun hq => ?_)
    · replace hw := hw.1 hq
      refine z_iload_n rfl rfl ?_
      exact z_iret rfl rfl rfl rfl (Or.inl ⟨_, _, rfl, rfl, hw⟩)
    · replace hw := hw.2 hq
      refine z_aload_n rfl rfl ?_
      refine z_iload_n rfl rfl ?_
      refine z_iconst 0 rfl rfl ?_
      obtain ⟨hc1, hw⟩ := hw
      refine z_cvi (M' := M_r_of) (post := fun v S' => (S 154 ((8 * l3) + 0).toNatClampNeg) = v ∧ S = S') [.int l3, .int 0] hx rfl w_754 cv_r_of hG.1 (by decide) rfl rfl rfl rfl (zr_of hx hG (⟨hc1, ⟨rfl, rfl⟩⟩)) ?_ (fun _ _ hf => hf.elim)
      rintro v S' ⟨rfl, rfl⟩
      refine z_iload_n rfl rfl ?_
      have hj19 : ∀ v : Int32, v = (if (S 154 ((8 * l3) + 0).toNatClampNeg) = l1 then l3 else l2 : Int32) → Z g M_r_find 0 0 27 [some (.ref 148), some (.int l1), some (.int l2), some (.int l3)] [.int v] (S, G) (Qi G post noEx) := by
        intro v hv
        subst hv
        refine z_istore_n [some (.ref 148), some (.int l1), some (.int (if (S 154 ((8 * l3) + 0).toNatClampNeg) = l1 then l3 else l2 : Int32)), some (.int l3)] rfl rfl rfl ?_
        refine z_iinc 1 [some (.ref 148), some (.int l1), some (.int (if (S 154 ((8 * l3) + 0).toNatClampNeg) = l1 then l3 else l2 : Int32)), some (.int (l3 + 1))] rfl rfl rfl rfl ?_
        refine z_goto rfl ?_
        refine Z.forget' [some (.ref 148), some (.int l1), some (.int (if (S 154 ((8 * l3) + 0).toNatClampNeg) = l1 then l3 else l2 : Int32)), some (.int (l3 + 1))] ⟨rfl, ⟨rfl, ⟨rfl, ⟨rfl, trivial⟩⟩⟩⟩ ?_
        exact ih hw
      refine z_icmp_ne rfl (fun hp19 => ?_) (fun hp19 => ?_)
      · refine z_iload_n rfl rfl ?_
        exact hj19 _ (by rw [if_neg hp19])
      · refine z_iload_n rfl rfl ?_
        refine z_goto rfl ?_
        exact hj19 _ (by rw [if_pos hp19])
def r_find (post : Int32 → Mem → Prop) (S : Mem) (l1 : Int32) : Prop :=
  ∃ n, r_find_L4 post n S l1 (-1) 0
set_option maxRecDepth 100000 in
set_option maxHeartbeats 1000000 in
theorem zr_find {g : Gm} {G : Gp} {S : Mem} {post : Int32 → Mem → Prop} {l1 : Int32} (hx : G.2.2.2 = false) (hG : isR G) (hw : r_find post S l1) : Z g M_r_find 0 0 0 (entryL [.ref 148, .int l1] (mL M_r_find)) [] (S, G) (Qi G post noEx) := by
  unfold r_find at hw
  show Z g M_r_find 0 0 0 [some (.ref 148), some (.int l1), none, none] [] (S, G) (Qi G post noEx)
  refine z_iconst (-1) rfl rfl ?_
  refine z_istore_n [some (.ref 148), some (.int l1), some (.int (-1)), none] rfl rfl rfl ?_
  refine z_iconst 0 rfl rfl ?_
  refine z_istore_n [some (.ref 148), some (.int l1), some (.int (-1)), some (.int 0)] rfl rfl rfl ?_
  refine Z.forget' [some (.ref 148), some (.int l1), some (.int (-1)), some (.int 0)] ⟨rfl, ⟨rfl, ⟨rfl, ⟨rfl, trivial⟩⟩⟩⟩ ?_
  obtain ⟨n, hw⟩ := hw
  exact zr_find_L4 hx hG n hw
def r_isIn_J45 (post : Int32 → Mem → Prop)  (S : Mem) (l3 : Int32) : Prop :=
  vp_nar .boolean (if l3 < 0 then 0 else 1 : Int32) = (if l3 < 0 then 0 else 1 : Int32) ∧ post (if l3 < 0 then 0 else 1 : Int32) S
set_option maxRecDepth 100000 in
set_option maxHeartbeats 1000000 in
theorem zr_isIn_J45 {g : Gm} {G : Gp} {post : Int32 → Mem → Prop} (hx : G.2.2.2 = false) (hG : isR G) {S : Mem} {l3 : Int32}  (hw : r_isIn_J45 post S l3) : Z g M_r_isIn 0 0 45 [some (.ref 148), none, none, some (.int l3)] [] (S, G) (Qi G post noEx) := by
  unfold r_isIn_J45 at hw
  refine z_iload_n rfl rfl ?_
  have hj46 : ∀ v : Int32, v = (if l3 < 0 then 0 else 1 : Int32) → Z g M_r_isIn 0 0 54 [some (.ref 148), none, none, some (.int l3)] [.int v] (S, G) (Qi G post noEx) := by
    intro v hv
    subst hv
    obtain ⟨hc1, hw⟩ := hw
    exact z_zret rfl rfl (nar_of hc1) rfl rfl (Or.inl ⟨_, _, rfl, rfl, hw⟩)
  refine z_if_lt rfl (fun hp46 => ?_) (fun hp46 => ?_)
  · refine z_iconst 0 rfl rfl ?_
    exact hj46 _ (by rw [if_pos hp46])
  · refine z_iconst 1 rfl rfl ?_
    refine z_goto rfl ?_
    exact hj46 _ (by rw [if_neg hp46])
def r_isIn_L2 (post : Int32 → Mem → Prop)  : Nat → Mem → Int32 → Int32 → Prop
  | 0, _, _, _ => False
  | n + 1, S, l2, l3 =>
  ((l3 < 0) →
   r_isIn_J45 post S l3) ∧
  ((¬ l3 < 0) →
   (vp_in ((8 * l3) + 0) 112) ∧ 
   (((S 154 ((8 * l3) + 0).toNatClampNeg) = l2) →
    r_isIn_J45 post S l3) ∧
   ((¬ (S 154 ((8 * l3) + 0).toNatClampNeg) = l2) →
    (vp_in ((8 * l3) + 7) 112) ∧ 
    ((0 ≤ (S 154 ((8 * l3) + 7).toNatClampNeg)) →
     (vp_in ((8 * l3) + 7) 112) ∧ 
     r_find (fun r1 S1 =>
      r_isIn_L2 post n S1 l2 r1) S (S 154 ((8 * l3) + 7).toNatClampNeg)) ∧
    ((¬ 0 ≤ (S 154 ((8 * l3) + 7).toNatClampNeg)) →
     r_isIn_L2 post n S l2 (-1))))
set_option maxRecDepth 100000 in
set_option maxHeartbeats 1000000 in
theorem zr_isIn_L2 {g : Gm} {G : Gp} {post : Int32 → Mem → Prop} (hx : G.2.2.2 = false) (hG : isR G) : ∀ (n : Nat) {S : Mem} {l2 : Int32} {l3 : Int32} , r_isIn_L2 post n S l2 l3 → Z g M_r_isIn 0 0 2 [some (.ref 148), none, some (.int l2), some (.int l3)] [] (S, G) (Qi G post noEx) := by
  intro n
  induction n with
  | zero =>
    intros
    rename_i hw
    exact hw.elim
  | succ n ih =>
    intro S l2 l3 hw
    rw [r_isIn_L2] at hw
    refine z_iload_n rfl rfl ?_
    refine z_if_lt rfl (fun hq => ?_) (fun hq => ?_)
    · replace hw := hw.1 hq
      refine Z.forget' [some (.ref 148), none, none, some (.int l3)] ⟨rfl, ⟨rfl, trivial⟩⟩ ?_
      exact zr_isIn_J45 hx hG hw
    · replace hw := hw.2 hq
      refine z_aload_n rfl rfl ?_
      refine z_iload_n rfl rfl ?_
      refine z_iconst 0 rfl rfl ?_
      obtain ⟨hc1, hw⟩ := hw
      refine z_cvi (M' := M_r_of) (post := fun v S' => (S 154 ((8 * l3) + 0).toNatClampNeg) = v ∧ S = S') [.int l3, .int 0] hx rfl w_754 cv_r_of hG.1 (by decide) rfl rfl rfl rfl (zr_of hx hG (⟨hc1, ⟨rfl, rfl⟩⟩)) ?_ (fun _ _ hf => hf.elim)
      rintro v S' ⟨rfl, rfl⟩
      refine z_iload_n rfl rfl ?_
      refine z_icmp_eq rfl (fun hq => ?_) (fun hq => ?_)
      · replace hw := hw.1 hq
        refine Z.forget' [some (.ref 148), none, none, some (.int l3)] ⟨rfl, ⟨rfl, trivial⟩⟩ ?_
        exact zr_isIn_J45 hx hG hw
      · replace hw := hw.2 hq
        refine z_aload_n rfl rfl ?_
        refine z_iload_n rfl rfl ?_
        refine z_bipush 7 rfl rfl ?_
        obtain ⟨hc2, hw⟩ := hw
        refine z_cvi (M' := M_r_of) (post := fun v S' => (S 154 ((8 * l3) + 7).toNatClampNeg) = v ∧ S = S') [.int l3, .int 7] hx rfl w_754 cv_r_of hG.1 (by decide) rfl rfl rfl rfl (zr_of hx hG (⟨hc2, ⟨rfl, rfl⟩⟩)) ?_ (fun _ _ hf => hf.elim)
        rintro v S' ⟨rfl, rfl⟩
        refine z_if_ge rfl (fun hq => ?_) (fun hq => ?_)
        · replace hw := hw.1 hq
          refine z_aload_n rfl rfl ?_
          refine z_aload_n rfl rfl ?_
          refine z_iload_n rfl rfl ?_
          refine z_bipush 7 rfl rfl ?_
          obtain ⟨hc3, hw⟩ := hw
          refine z_cvi (M' := M_r_of) (post := fun v S' => (S 154 ((8 * l3) + 7).toNatClampNeg) = v ∧ S = S') [.int l3, .int 7] hx rfl w_754 cv_r_of hG.1 (by decide) rfl rfl rfl rfl (zr_of hx hG (⟨hc3, ⟨rfl, rfl⟩⟩)) ?_ (fun _ _ hf => hf.elim)
          rintro v S' ⟨rfl, rfl⟩
          refine z_cvi (M' := M_r_find) [.int (S 154 ((8 * l3) + 7).toNatClampNeg)] hx rfl w_750 cv_r_find hG.1 (by decide) rfl rfl rfl rfl (zr_find hx hG hw) ?_ (fun _ _ hf => hf.elim)
          clear hw
          intro r1 S1 hw
          refine z_istore_n [some (.ref 148), none, some (.int l2), some (.int r1)] rfl rfl rfl ?_
          refine z_goto rfl ?_
          refine Z.forget' [some (.ref 148), none, some (.int l2), some (.int r1)] ⟨rfl, ⟨rfl, ⟨rfl, trivial⟩⟩⟩ ?_
          exact ih hw
        · replace hw := hw.2 hq
          refine z_iconst (-1) rfl rfl ?_
          refine z_goto rfl ?_
          refine z_istore_n [some (.ref 148), none, some (.int l2), some (.int (-1))] rfl rfl rfl ?_
          refine z_goto rfl ?_
          refine Z.forget' [some (.ref 148), none, some (.int l2), some (.int (-1))] ⟨rfl, ⟨rfl, ⟨rfl, trivial⟩⟩⟩ ?_
          exact ih hw
def r_isIn (post : Int32 → Mem → Prop) (S : Mem) (l1 : Int32) (l2 : Int32) : Prop :=
  ∃ n, r_isIn_L2 post n S l2 l1
set_option maxRecDepth 100000 in
set_option maxHeartbeats 1000000 in
theorem zr_isIn {g : Gm} {G : Gp} {S : Mem} {post : Int32 → Mem → Prop} {l1 : Int32} {l2 : Int32} (hx : G.2.2.2 = false) (hG : isR G) (hw : r_isIn post S l1 l2) : Z g M_r_isIn 0 0 0 (entryL [.ref 148, .int l1, .int l2] (mL M_r_isIn)) [] (S, G) (Qi G post noEx) := by
  unfold r_isIn at hw
  show Z g M_r_isIn 0 0 0 [some (.ref 148), some (.int l1), some (.int l2), none] [] (S, G) (Qi G post noEx)
  refine z_iload_n rfl rfl ?_
  refine z_istore_n [some (.ref 148), some (.int l1), some (.int l2), some (.int l1)] rfl rfl rfl ?_
  refine Z.forget' [some (.ref 148), none, some (.int l2), some (.int l1)] ⟨rfl, ⟨rfl, ⟨rfl, trivial⟩⟩⟩ ?_
  obtain ⟨n, hw⟩ := hw
  exact zr_isIn_L2 hx hG n hw
def r_behind_L4 (post : Int32 → Mem → Prop)  : Nat → Mem → Int32 → Int32 → Prop
  | 0, _, _, _ => False
  | n + 1, S, l1, l2 =>
  (((S 148 7) ≤ l2) →
   post l2 S) ∧
  ((¬ (S 148 7) ≤ l2) →
   (vp_in ((8 * l1) + 0) 112) ∧ 
   r_isIn (fun r1 S1 =>
    ((r1 = 0) →
     post l2 S1) ∧
    ((¬ r1 = 0) →
     r_behind_L4 post n S1 l1 (l2 + 1))) S l2 (S 154 ((8 * l1) + 0).toNatClampNeg))
set_option maxRecDepth 100000 in
set_option maxHeartbeats 1000000 in
theorem zr_behind_L4 {g : Gm} {G : Gp} {post : Int32 → Mem → Prop} (hx : G.2.2.2 = false) (hG : isR G) : ∀ (n : Nat) {S : Mem} {l1 : Int32} {l2 : Int32} , r_behind_L4 post n S l1 l2 → Z g M_r_behind 0 0 4 [some (.ref 148), some (.int l1), some (.int l2)] [] (S, G) (Qi G post noEx) := by
  intro n
  induction n with
  | zero =>
    intros
    rename_i hw
    exact hw.elim
  | succ n ih =>
    intro S l1 l2 hw
    rw [r_behind_L4] at hw
    refine z_iload_n rfl rfl ?_
    refine z_aload_n rfl rfl ?_
    refine z_geti (ci := 7) 7 rfl hG.1 rfl w_665 ?_
    refine z_icmp_ge rfl (fun hq => ?_) (fun hq => ?_)
    · replace hw := hw.1 hq
      refine z_iload_n rfl rfl ?_
      exact z_iret rfl rfl rfl rfl (Or.inl ⟨_, _, rfl, rfl, hw⟩)
    · replace hw := hw.2 hq
      refine z_aload_n rfl rfl ?_
      refine z_iload_n rfl rfl ?_
      refine z_aload_n rfl rfl ?_
      refine z_iload_n rfl rfl ?_
      refine z_iconst 0 rfl rfl ?_
      obtain ⟨hc1, hw⟩ := hw
      refine z_cvi (M' := M_r_of) (post := fun v S' => (S 154 ((8 * l1) + 0).toNatClampNeg) = v ∧ S = S') [.int l1, .int 0] hx rfl w_754 cv_r_of hG.1 (by decide) rfl rfl rfl rfl (zr_of hx hG (⟨hc1, ⟨rfl, rfl⟩⟩)) ?_ (fun _ _ hf => hf.elim)
      rintro v S' ⟨rfl, rfl⟩
      refine z_cvi (M' := M_r_isIn) [.int l2, .int (S 154 ((8 * l1) + 0).toNatClampNeg)] hx rfl w_762 cv_r_isIn hG.1 (by decide) rfl rfl rfl rfl (zr_isIn hx hG hw) ?_ (fun _ _ hf => hf.elim)
      clear hw
      intro r1 S1 hw
      refine z_if_eq rfl (fun hq => ?_) (fun hq => ?_)
      · replace hw := hw.1 hq
        refine z_iload_n rfl rfl ?_
        exact z_iret rfl rfl rfl rfl (Or.inl ⟨_, _, rfl, rfl, hw⟩)
      · replace hw := hw.2 hq
        refine z_iinc 1 [some (.ref 148), some (.int l1), some (.int (l2 + 1))] rfl rfl rfl rfl ?_
        refine z_goto rfl ?_
        refine Z.forget' [some (.ref 148), some (.int l1), some (.int (l2 + 1))] ⟨rfl, ⟨rfl, ⟨rfl, trivial⟩⟩⟩ ?_
        exact ih hw
def r_behind (post : Int32 → Mem → Prop) (S : Mem) (l1 : Int32) : Prop :=
  ∃ n, r_behind_L4 post n S l1 (l1 + 1)
set_option maxRecDepth 100000 in
set_option maxHeartbeats 1000000 in
theorem zr_behind {g : Gm} {G : Gp} {S : Mem} {post : Int32 → Mem → Prop} {l1 : Int32} (hx : G.2.2.2 = false) (hG : isR G) (hw : r_behind post S l1) : Z g M_r_behind 0 0 0 (entryL [.ref 148, .int l1] (mL M_r_behind)) [] (S, G) (Qi G post noEx) := by
  unfold r_behind at hw
  show Z g M_r_behind 0 0 0 [some (.ref 148), some (.int l1), none] [] (S, G) (Qi G post noEx)
  refine z_iload_n rfl rfl ?_
  refine z_iconst 1 rfl rfl ?_
  refine z_iadd rfl ?_
  refine z_istore_n [some (.ref 148), some (.int l1), some (.int (l1 + 1))] rfl rfl rfl ?_
  refine Z.forget' [some (.ref 148), some (.int l1), some (.int (l1 + 1))] ⟨rfl, ⟨rfl, ⟨rfl, trivial⟩⟩⟩ ?_
  obtain ⟨n, hw⟩ := hw
  exact zr_behind_L4 hx hG n hw
def r_copyCells_L2 (post : Mem → Prop)  : Nat → Mem → Int32 → Int32 → Int32 → Prop
  | 0, _, _, _, _ => False
  | n + 1, S, l1, l2, l3 =>
  ((8 ≤ l3) →
   post S) ∧
  ((¬ 8 ≤ l3) →
   (vp_in ((8 * l1) + l3) 112) ∧ (vp_in ((8 * l2) + l3) 112) ∧ ∀ S1, S1 = up2 S 154 ((8 * l2) + l3).toNatClampNeg (S 154 ((8 * l1) + l3).toNatClampNeg) → r_copyCells_L2 post n S1 l1 l2 (l3 + 1))
set_option maxRecDepth 100000 in
set_option maxHeartbeats 1000000 in
theorem zr_copyCells_L2 {g : Gm} {G : Gp} {post : Mem → Prop} (hx : G.2.2.2 = false) (hG : isR G) : ∀ (n : Nat) {S : Mem} {l1 : Int32} {l2 : Int32} {l3 : Int32} , r_copyCells_L2 post n S l1 l2 l3 → Z g M_r_copyCells 0 0 2 [some (.ref 148), some (.int l1), some (.int l2), some (.int l3)] [] (S, G) (Qv G post noEx) := by
  intro n
  induction n with
  | zero =>
    intros
    rename_i hw
    exact hw.elim
  | succ n ih =>
    intro S l1 l2 l3 hw
    rw [r_copyCells_L2] at hw
    refine z_iload_n rfl rfl ?_
    refine z_bipush 8 rfl rfl ?_
    refine z_icmp_ge rfl (fun hq => ?_) (fun hq => ?_)
    · replace hw := hw.1 hq
      exact z_vret rfl rfl rfl rfl (Or.inl ⟨_, rfl, rfl, hw⟩)
    · replace hw := hw.2 hq
      refine z_aload_n rfl rfl ?_
      refine z_getr (ci := 7) 8 rfl hG.1 rfl w_666 hG.2.2.2.2.2.2.2.2.2.2.2.1 ?_
      refine z_bipush 8 rfl rfl ?_
      refine z_iload_n rfl rfl ?_
      refine z_imul rfl ?_
      refine z_iload_n rfl rfl ?_
      refine z_iadd rfl ?_
      refine z_aload_n rfl rfl ?_
      refine z_getr (ci := 7) 8 rfl hG.1 rfl w_666 hG.2.2.2.2.2.2.2.2.2.2.2.1 ?_
      refine z_bipush 8 rfl rfl ?_
      refine z_iload_n rfl rfl ?_
      refine z_imul rfl ?_
      refine z_iload_n rfl rfl ?_
      refine z_iadd rfl ?_
      obtain ⟨hc1, hw⟩ := hw
      refine z_iald (((8 * l1) + l3).toNatClampNeg) rfl hG.2.2.2.2.2.2.2.2.2.2.2.2.1 hc1 rfl ?_
      obtain ⟨hc2, hw⟩ := hw
      replace hw := hw _ rfl
      refine z_iast (((8 * l2) + l3).toNatClampNeg) rfl hG.2.2.2.2.2.2.2.2.2.2.2.2.1 hc2 rfl ?_
      refine z_iinc 1 [some (.ref 148), some (.int l1), some (.int l2), some (.int (l3 + 1))] rfl rfl rfl rfl ?_
      refine z_goto rfl ?_
      refine Z.forget' [some (.ref 148), some (.int l1), some (.int l2), some (.int (l3 + 1))] ⟨rfl, ⟨rfl, ⟨rfl, ⟨rfl, trivial⟩⟩⟩⟩ ?_
      exact ih hw
def r_copyCells (post : Mem → Prop) (S : Mem) (l1 : Int32) (l2 : Int32) : Prop :=
  ∃ n, r_copyCells_L2 post n S l1 l2 0
set_option maxRecDepth 100000 in
set_option maxHeartbeats 1000000 in
theorem zr_copyCells {g : Gm} {G : Gp} {S : Mem} {post : Mem → Prop} {l1 : Int32} {l2 : Int32} (hx : G.2.2.2 = false) (hG : isR G) (hw : r_copyCells post S l1 l2) : Z g M_r_copyCells 0 0 0 (entryL [.ref 148, .int l1, .int l2] (mL M_r_copyCells)) [] (S, G) (Qv G post noEx) := by
  unfold r_copyCells at hw
  show Z g M_r_copyCells 0 0 0 [some (.ref 148), some (.int l1), some (.int l2), none] [] (S, G) (Qv G post noEx)
  refine z_iconst 0 rfl rfl ?_
  refine z_istore_n [some (.ref 148), some (.int l1), some (.int l2), some (.int 0)] rfl rfl rfl ?_
  refine Z.forget' [some (.ref 148), some (.int l1), some (.int l2), some (.int 0)] ⟨rfl, ⟨rfl, ⟨rfl, ⟨rfl, trivial⟩⟩⟩⟩ ?_
  obtain ⟨n, hw⟩ := hw
  exact zr_copyCells_L2 hx hG n hw
def r_takeOut_L2 (post : Mem → Prop)  : Nat → Mem → Int32 → Int32 → Int32 → Prop
  | 0, _, _, _, _ => False
  | n + 1, S, l1, l2, l3 =>
  (((S 148 7) ≤ l3) →
   ∀ S1, S1 = up2 S 148 7 ((S 148 7) - (l2 - l1)) → post S1) ∧
  ((¬ (S 148 7) ≤ l3) →
   r_copyCells (fun S2 =>
    r_takeOut_L2 post n S2 l1 l2 (l3 + 1)) S l3 (l3 - (l2 - l1)))
set_option maxRecDepth 100000 in
set_option maxHeartbeats 1000000 in
theorem zr_takeOut_L2 {g : Gm} {G : Gp} {post : Mem → Prop} (hx : G.2.2.2 = false) (hG : isR G) : ∀ (n : Nat) {S : Mem} {l1 : Int32} {l2 : Int32} {l3 : Int32} , r_takeOut_L2 post n S l1 l2 l3 → Z g M_r_takeOut 0 0 2 [some (.ref 148), some (.int l1), some (.int l2), some (.int l3)] [] (S, G) (Qv G post noEx) := by
  intro n
  induction n with
  | zero =>
    intros
    rename_i hw
    exact hw.elim
  | succ n ih =>
    intro S l1 l2 l3 hw
    rw [r_takeOut_L2] at hw
    refine z_iload_n rfl rfl ?_
    refine z_aload_n rfl rfl ?_
    refine z_geti (ci := 7) 7 rfl hG.1 rfl w_665 ?_
    refine z_icmp_ge rfl (fun hq => ?_) (fun hq => ?_)
    · replace hw := hw.1 hq
      refine z_aload_n rfl rfl ?_
      refine z_aload_n rfl rfl ?_
      refine z_geti (ci := 7) 7 rfl hG.1 rfl w_665 ?_
      refine z_iload_n rfl rfl ?_
      refine z_iload_n rfl rfl ?_
      refine z_isub rfl ?_
      refine z_isub rfl ?_
      replace hw := hw _ rfl
      refine z_puti (ci := 7) 7 rfl hG.1 rfl w_665 rfl rfl rfl ?_
      exact z_vret rfl rfl rfl rfl (Or.inl ⟨_, rfl, rfl, hw⟩)
    · replace hw := hw.2 hq
      refine z_aload_n rfl rfl ?_
      refine z_iload_n rfl rfl ?_
      refine z_iload_n rfl rfl ?_
      refine z_iload_n rfl rfl ?_
      refine z_iload_n rfl rfl ?_
      refine z_isub rfl ?_
      refine z_isub rfl ?_
      refine z_cvv (M' := M_r_copyCells) [.int l3, .int (l3 - (l2 - l1))] hx rfl w_790 cv_r_copyCells hG.1 (by decide) rfl rfl rfl rfl (zr_copyCells hx hG hw) ?_ (fun _ _ hf => hf.elim)
      clear hw
      intro S2 hw
      refine z_iinc 1 [some (.ref 148), some (.int l1), some (.int l2), some (.int (l3 + 1))] rfl rfl rfl rfl ?_
      refine z_goto rfl ?_
      refine Z.forget' [some (.ref 148), some (.int l1), some (.int l2), some (.int (l3 + 1))] ⟨rfl, ⟨rfl, ⟨rfl, ⟨rfl, trivial⟩⟩⟩⟩ ?_
      exact ih hw
def r_takeOut (post : Mem → Prop) (S : Mem) (l1 : Int32) (l2 : Int32) : Prop :=
  ∃ n, r_takeOut_L2 post n S l1 l2 l2
set_option maxRecDepth 100000 in
set_option maxHeartbeats 1000000 in
theorem zr_takeOut {g : Gm} {G : Gp} {S : Mem} {post : Mem → Prop} {l1 : Int32} {l2 : Int32} (hx : G.2.2.2 = false) (hG : isR G) (hw : r_takeOut post S l1 l2) : Z g M_r_takeOut 0 0 0 (entryL [.ref 148, .int l1, .int l2] (mL M_r_takeOut)) [] (S, G) (Qv G post noEx) := by
  unfold r_takeOut at hw
  show Z g M_r_takeOut 0 0 0 [some (.ref 148), some (.int l1), some (.int l2), none] [] (S, G) (Qv G post noEx)
  refine z_iload_n rfl rfl ?_
  refine z_istore_n [some (.ref 148), some (.int l1), some (.int l2), some (.int l2)] rfl rfl rfl ?_
  refine Z.forget' [some (.ref 148), some (.int l1), some (.int l2), some (.int l2)] ⟨rfl, ⟨rfl, ⟨rfl, ⟨rfl, trivial⟩⟩⟩⟩ ?_
  obtain ⟨n, hw⟩ := hw
  exact zr_takeOut_L2 hx hG n hw
def r_makeRoom_L7 (post : Mem → Prop)  : Nat → Mem → Int32 → Int32 → Int32 → Prop
  | 0, _, _, _, _ => False
  | n + 1, S, l1, l2, l3 =>
  ((l3 < l1) →
   ∀ S1, S1 = up2 S 148 7 ((S 148 7) + l2) → post S1) ∧
  ((¬ l3 < l1) →
   r_copyCells (fun S2 =>
    r_makeRoom_L7 post n S2 l1 l2 (l3 + (-1))) S l3 (l3 + l2))
set_option maxRecDepth 100000 in
set_option maxHeartbeats 1000000 in
theorem zr_makeRoom_L7 {g : Gm} {G : Gp} {post : Mem → Prop} (hx : G.2.2.2 = false) (hG : isR G) : ∀ (n : Nat) {S : Mem} {l1 : Int32} {l2 : Int32} {l3 : Int32} , r_makeRoom_L7 post n S l1 l2 l3 → Z g M_r_makeRoom 0 0 7 [some (.ref 148), some (.int l1), some (.int l2), some (.int l3)] [] (S, G) (Qv G post noEx) := by
  intro n
  induction n with
  | zero =>
    intros
    rename_i hw
    exact hw.elim
  | succ n ih =>
    intro S l1 l2 l3 hw
    rw [r_makeRoom_L7] at hw
    refine z_iload_n rfl rfl ?_
    refine z_iload_n rfl rfl ?_
    refine z_icmp_lt rfl (fun hq => ?_) (fun hq => ?_)
    · replace hw := hw.1 hq
      refine z_aload_n rfl rfl ?_
      refine z_aload_n rfl rfl ?_
      refine z_geti (ci := 7) 7 rfl hG.1 rfl w_665 ?_
      refine z_iload_n rfl rfl ?_
      refine z_iadd rfl ?_
      replace hw := hw _ rfl
      refine z_puti (ci := 7) 7 rfl hG.1 rfl w_665 rfl rfl rfl ?_
      exact z_vret rfl rfl rfl rfl (Or.inl ⟨_, rfl, rfl, hw⟩)
    · replace hw := hw.2 hq
      refine z_aload_n rfl rfl ?_
      refine z_iload_n rfl rfl ?_
      refine z_iload_n rfl rfl ?_
      refine z_iload_n rfl rfl ?_
      refine z_iadd rfl ?_
      refine z_cvv (M' := M_r_copyCells) [.int l3, .int (l3 + l2)] hx rfl w_790 cv_r_copyCells hG.1 (by decide) rfl rfl rfl rfl (zr_copyCells hx hG hw) ?_ (fun _ _ hf => hf.elim)
      clear hw
      intro S2 hw
      refine z_iinc (-1) [some (.ref 148), some (.int l1), some (.int l2), some (.int (l3 + (-1)))] rfl rfl rfl rfl ?_
      refine z_goto rfl ?_
      refine Z.forget' [some (.ref 148), some (.int l1), some (.int l2), some (.int (l3 + (-1)))] ⟨rfl, ⟨rfl, ⟨rfl, ⟨rfl, trivial⟩⟩⟩⟩ ?_
      exact ih hw
def r_makeRoom (post : Mem → Prop) (S : Mem) (l1 : Int32) (l2 : Int32) : Prop :=
  ∃ n, r_makeRoom_L7 post n S l1 l2 ((S 148 7) - 1)
set_option maxRecDepth 100000 in
set_option maxHeartbeats 1000000 in
theorem zr_makeRoom {g : Gm} {G : Gp} {S : Mem} {post : Mem → Prop} {l1 : Int32} {l2 : Int32} (hx : G.2.2.2 = false) (hG : isR G) (hw : r_makeRoom post S l1 l2) : Z g M_r_makeRoom 0 0 0 (entryL [.ref 148, .int l1, .int l2] (mL M_r_makeRoom)) [] (S, G) (Qv G post noEx) := by
  unfold r_makeRoom at hw
  show Z g M_r_makeRoom 0 0 0 [some (.ref 148), some (.int l1), some (.int l2), none] [] (S, G) (Qv G post noEx)
  refine z_aload_n rfl rfl ?_
  refine z_geti (ci := 7) 7 rfl hG.1 rfl w_665 ?_
  refine z_iconst 1 rfl rfl ?_
  refine z_isub rfl ?_
  refine z_istore_n [some (.ref 148), some (.int l1), some (.int l2), some (.int ((S 148 7) - 1))] rfl rfl rfl ?_
  refine Z.forget' [some (.ref 148), some (.int l1), some (.int l2), some (.int ((S 148 7) - 1))] ⟨rfl, ⟨rfl, ⟨rfl, ⟨rfl, trivial⟩⟩⟩⟩ ?_
  obtain ⟨n, hw⟩ := hw
  exact zr_makeRoom_L7 hx hG n hw
def r_lift_L5 (post : Mem → Prop)  : Nat → Mem → Int32 → Int32 → Int32 → Prop
  | 0, _, _, _, _ => False
  | n + 1, S, l1, l2, l3 =>
  (((8 * l2) ≤ l3) →
   r_takeOut (fun S1 =>
    post S1) S l1 l2) ∧
  ((¬ (8 * l2) ≤ l3) →
   (vp_in l3 112) ∧ (vp_in (l3 - (8 * l1)) 112) ∧ ∀ S2, S2 = up2 S 156 (l3 - (8 * l1)).toNatClampNeg (S 154 l3.toNatClampNeg) → r_lift_L5 post n S2 l1 l2 (l3 + 1))
set_option maxRecDepth 100000 in
set_option maxHeartbeats 1000000 in
theorem zr_lift_L5 {g : Gm} {G : Gp} {post : Mem → Prop} (hx : G.2.2.2 = false) (hG : isR G) : ∀ (n : Nat) {S : Mem} {l1 : Int32} {l2 : Int32} {l3 : Int32} , r_lift_L5 post n S l1 l2 l3 → Z g M_r_lift 0 0 5 [some (.ref 148), some (.int l1), some (.int l2), some (.int l3)] [] (S, G) (Qv G post noEx) := by
  intro n
  induction n with
  | zero =>
    intros
    rename_i hw
    exact hw.elim
  | succ n ih =>
    intro S l1 l2 l3 hw
    rw [r_lift_L5] at hw
    refine z_iload_n rfl rfl ?_
    refine z_bipush 8 rfl rfl ?_
    refine z_iload_n rfl rfl ?_
    refine z_imul rfl ?_
    refine z_icmp_ge rfl (fun hq => ?_) (fun hq => ?_)
    · replace hw := hw.1 hq
      refine z_aload_n rfl rfl ?_
      refine z_iload_n rfl rfl ?_
      refine z_iload_n rfl rfl ?_
      refine z_cvv (M' := M_r_takeOut) [.int l1, .int l2] hx rfl w_786 cv_r_takeOut hG.1 (by decide) rfl rfl rfl rfl (zr_takeOut hx hG hw) ?_ (fun _ _ hf => hf.elim)
      clear hw
      intro S1 hw
      exact z_vret rfl rfl rfl rfl (Or.inl ⟨_, rfl, rfl, hw⟩)
    · replace hw := hw.2 hq
      refine z_aload_n rfl rfl ?_
      refine z_getr (ci := 7) 11 rfl hG.1 rfl w_669 hG.2.2.2.2.2.2.2.2.2.2.2.2.2.2.2.1 ?_
      refine z_iload_n rfl rfl ?_
      refine z_bipush 8 rfl rfl ?_
      refine z_iload_n rfl rfl ?_
      refine z_imul rfl ?_
      refine z_isub rfl ?_
      refine z_aload_n rfl rfl ?_
      refine z_getr (ci := 7) 8 rfl hG.1 rfl w_666 hG.2.2.2.2.2.2.2.2.2.2.2.1 ?_
      refine z_iload_n rfl rfl ?_
      obtain ⟨hc1, hw⟩ := hw
      refine z_iald (l3.toNatClampNeg) rfl hG.2.2.2.2.2.2.2.2.2.2.2.2.1 hc1 rfl ?_
      obtain ⟨hc2, hw⟩ := hw
      replace hw := hw _ rfl
      refine z_iast ((l3 - (8 * l1)).toNatClampNeg) rfl hG.2.2.2.2.2.2.2.2.2.2.2.2.2.2.2.2.1 hc2 rfl ?_
      refine z_iinc 1 [some (.ref 148), some (.int l1), some (.int l2), some (.int (l3 + 1))] rfl rfl rfl rfl ?_
      refine z_goto rfl ?_
      refine Z.forget' [some (.ref 148), some (.int l1), some (.int l2), some (.int (l3 + 1))] ⟨rfl, ⟨rfl, ⟨rfl, ⟨rfl, trivial⟩⟩⟩⟩ ?_
      exact ih hw
def r_lift (post : Mem → Prop) (S : Mem) (l1 : Int32) (l2 : Int32) : Prop :=
  ∃ n, r_lift_L5 post n S l1 l2 (8 * l1)
set_option maxRecDepth 100000 in
set_option maxHeartbeats 1000000 in
theorem zr_lift {g : Gm} {G : Gp} {S : Mem} {post : Mem → Prop} {l1 : Int32} {l2 : Int32} (hx : G.2.2.2 = false) (hG : isR G) (hw : r_lift post S l1 l2) : Z g M_r_lift 0 0 0 (entryL [.ref 148, .int l1, .int l2] (mL M_r_lift)) [] (S, G) (Qv G post noEx) := by
  unfold r_lift at hw
  show Z g M_r_lift 0 0 0 [some (.ref 148), some (.int l1), some (.int l2), none] [] (S, G) (Qv G post noEx)
  refine z_bipush 8 rfl rfl ?_
  refine z_iload_n rfl rfl ?_
  refine z_imul rfl ?_
  refine z_istore_n [some (.ref 148), some (.int l1), some (.int l2), some (.int (8 * l1))] rfl rfl rfl ?_
  refine Z.forget' [some (.ref 148), some (.int l1), some (.int l2), some (.int (8 * l1))] ⟨rfl, ⟨rfl, ⟨rfl, ⟨rfl, trivial⟩⟩⟩⟩ ?_
  obtain ⟨n, hw⟩ := hw
  exact zr_lift_L5 hx hG n hw
def r_lay_L8 (post : Mem → Prop)  : Nat → Mem → Int32 → Int32 → Int32 → Prop
  | 0, _, _, _, _ => False
  | n + 1, S, l1, l2, l3 =>
  (((8 * l2) ≤ l3) →
   post S) ∧
  ((¬ (8 * l2) ≤ l3) →
   (vp_in l3 112) ∧ (vp_in ((8 * l1) + l3) 112) ∧ ∀ S1, S1 = up2 S 154 ((8 * l1) + l3).toNatClampNeg (S 156 l3.toNatClampNeg) → r_lay_L8 post n S1 l1 l2 (l3 + 1))
set_option maxRecDepth 100000 in
set_option maxHeartbeats 1000000 in
theorem zr_lay_L8 {g : Gm} {G : Gp} {post : Mem → Prop} (hx : G.2.2.2 = false) (hG : isR G) : ∀ (n : Nat) {S : Mem} {l1 : Int32} {l2 : Int32} {l3 : Int32} , r_lay_L8 post n S l1 l2 l3 → Z g M_r_lay 0 0 8 [some (.ref 148), some (.int l1), some (.int l2), some (.int l3)] [] (S, G) (Qv G post noEx) := by
  intro n
  induction n with
  | zero =>
    intros
    rename_i hw
    exact hw.elim
  | succ n ih =>
    intro S l1 l2 l3 hw
    rw [r_lay_L8] at hw
    refine z_iload_n rfl rfl ?_
    refine z_bipush 8 rfl rfl ?_
    refine z_iload_n rfl rfl ?_
    refine z_imul rfl ?_
    refine z_icmp_ge rfl (fun hq => ?_) (fun hq => ?_)
    · replace hw := hw.1 hq
      exact z_vret rfl rfl rfl rfl (Or.inl ⟨_, rfl, rfl, hw⟩)
    · replace hw := hw.2 hq
      refine z_aload_n rfl rfl ?_
      refine z_getr (ci := 7) 8 rfl hG.1 rfl w_666 hG.2.2.2.2.2.2.2.2.2.2.2.1 ?_
      refine z_bipush 8 rfl rfl ?_
      refine z_iload_n rfl rfl ?_
      refine z_imul rfl ?_
      refine z_iload_n rfl rfl ?_
      refine z_iadd rfl ?_
      refine z_aload_n rfl rfl ?_
      refine z_getr (ci := 7) 11 rfl hG.1 rfl w_669 hG.2.2.2.2.2.2.2.2.2.2.2.2.2.2.2.1 ?_
      refine z_iload_n rfl rfl ?_
      obtain ⟨hc1, hw⟩ := hw
      refine z_iald (l3.toNatClampNeg) rfl hG.2.2.2.2.2.2.2.2.2.2.2.2.2.2.2.2.1 hc1 rfl ?_
      obtain ⟨hc2, hw⟩ := hw
      replace hw := hw _ rfl
      refine z_iast (((8 * l1) + l3).toNatClampNeg) rfl hG.2.2.2.2.2.2.2.2.2.2.2.2.1 hc2 rfl ?_
      refine z_iinc 1 [some (.ref 148), some (.int l1), some (.int l2), some (.int (l3 + 1))] rfl rfl rfl rfl ?_
      refine z_goto rfl ?_
      refine Z.forget' [some (.ref 148), some (.int l1), some (.int l2), some (.int (l3 + 1))] ⟨rfl, ⟨rfl, ⟨rfl, ⟨rfl, trivial⟩⟩⟩⟩ ?_
      exact ih hw
def r_lay (post : Mem → Prop) (S : Mem) (l1 : Int32) (l2 : Int32) : Prop :=
  r_makeRoom (fun S1 =>
   ∃ n, r_lay_L8 post n S1 l1 l2 0) S l1 l2
set_option maxRecDepth 100000 in
set_option maxHeartbeats 1000000 in
theorem zr_lay {g : Gm} {G : Gp} {S : Mem} {post : Mem → Prop} {l1 : Int32} {l2 : Int32} (hx : G.2.2.2 = false) (hG : isR G) (hw : r_lay post S l1 l2) : Z g M_r_lay 0 0 0 (entryL [.ref 148, .int l1, .int l2] (mL M_r_lay)) [] (S, G) (Qv G post noEx) := by
  unfold r_lay at hw
  show Z g M_r_lay 0 0 0 [some (.ref 148), some (.int l1), some (.int l2), none] [] (S, G) (Qv G post noEx)
  refine z_aload_n rfl rfl ?_
  refine z_iload_n rfl rfl ?_
  refine z_iload_n rfl rfl ?_
  refine z_cvv (M' := M_r_makeRoom) [.int l1, .int l2] hx rfl w_823 cv_r_makeRoom hG.1 (by decide) rfl rfl rfl rfl (zr_makeRoom hx hG hw) ?_ (fun _ _ hf => hf.elim)
  clear hw
  intro S1 hw
  refine z_iconst 0 rfl rfl ?_
  refine z_istore_n [some (.ref 148), some (.int l1), some (.int l2), some (.int 0)] rfl rfl rfl ?_
  refine Z.forget' [some (.ref 148), some (.int l1), some (.int l2), some (.int 0)] ⟨rfl, ⟨rfl, ⟨rfl, ⟨rfl, trivial⟩⟩⟩⟩ ?_
  obtain ⟨n, hw⟩ := hw
  exact zr_lay_L8 hx hG n hw
def r_findBox_L26 (post : Mem → Prop)  : Nat → Mem → Int32 → Int32 → Prop
  | 0, _, _, _ => False
  | n + 1, S, l2, l3 =>
  ((l2 ≤ l3) →
   post S) ∧
  ((¬ l2 ≤ l3) →
   (vp_in ((8 * l3) + 1) 112) ∧ 
   (((S 154 ((8 * l3) + 1).toNatClampNeg) = 3) →
    r_findBox_L26 post n S l2 (l3 + 1)) ∧
   ((¬ (S 154 ((8 * l3) + 1).toNatClampNeg) = 3) →
    (vp_in ((8 * l3) + 2) 112) ∧ 
    (vp_in ((8 * l3) + 4) 112) ∧ 
    (vp_in ((8 * l3) + 3) 112) ∧ 
    (vp_in ((8 * l3) + 5) 112) ∧ 
    (vp_in ((8 * l3) + 2) 112) ∧ 
    ((¬ (S 148 12) ≤ (S 154 ((8 * l3) + 2).toNatClampNeg) → (vp_in ((8 * l3) + 2) 112))) ∧ 
    ∀ S1, S1 = up2 S 148 12 (if (S 148 12) ≤ (S 154 ((8 * l3) + 2).toNatClampNeg) then (S 148 12) else (S 154 ((8 * l3) + 2).toNatClampNeg) : Int32) → (vp_in ((8 * l3) + 3) 112) ∧ 
    ((¬ (S1 148 13) ≤ (S1 154 ((8 * l3) + 3).toNatClampNeg) → (vp_in ((8 * l3) + 3) 112))) ∧ 
    ∀ S2, S2 = up2 S1 148 13 (if (S1 148 13) ≤ (S1 154 ((8 * l3) + 3).toNatClampNeg) then (S1 148 13) else (S1 154 ((8 * l3) + 3).toNatClampNeg) : Int32) → ∀ S3, S3 = up2 S2 148 14 (if ((S 154 ((8 * l3) + 2).toNatClampNeg) + (S 154 ((8 * l3) + 4).toNatClampNeg)) ≤ (S2 148 14) then (S2 148 14) else ((S 154 ((8 * l3) + 2).toNatClampNeg) + (S 154 ((8 * l3) + 4).toNatClampNeg)) : Int32) → ∀ S4, S4 = up2 S3 148 15 (if ((S 154 ((8 * l3) + 3).toNatClampNeg) + (S 154 ((8 * l3) + 5).toNatClampNeg)) ≤ (S3 148 15) then (S3 148 15) else ((S 154 ((8 * l3) + 3).toNatClampNeg) + (S 154 ((8 * l3) + 5).toNatClampNeg)) : Int32) → r_findBox_L26 post n S4 l2 (l3 + 1)))
set_option maxRecDepth 100000 in
set_option maxHeartbeats 1000000 in
theorem zr_findBox_L26 {g : Gm} {G : Gp} {post : Mem → Prop} (hx : G.2.2.2 = false) (hG : isR G) : ∀ (n : Nat) {S : Mem} {l2 : Int32} {l3 : Int32} , r_findBox_L26 post n S l2 l3 → Z g M_r_findBox 0 0 26 [some (.ref 148), none, some (.int l2), some (.int l3), none, none] [] (S, G) (Qv G post noEx) := by
  intro n
  induction n with
  | zero =>
    intros
    rename_i hw
    exact hw.elim
  | succ n ih =>
    intro S l2 l3 hw
    rw [r_findBox_L26] at hw
    refine z_iload_n rfl rfl ?_
    refine z_iload_n rfl rfl ?_
    refine z_icmp_ge rfl (fun hq => ?_) (fun hq => ?_)
    · replace hw := hw.1 hq
      exact z_vret rfl rfl rfl rfl (Or.inl ⟨_, rfl, rfl, hw⟩)
    · replace hw := hw.2 hq
      refine z_aload_n rfl rfl ?_
      refine z_iload_n rfl rfl ?_
      refine z_iconst 1 rfl rfl ?_
      obtain ⟨hc1, hw⟩ := hw
      refine z_cvi (M' := M_r_of) (post := fun v S' => (S 154 ((8 * l3) + 1).toNatClampNeg) = v ∧ S = S') [.int l3, .int 1] hx rfl w_754 cv_r_of hG.1 (by decide) rfl rfl rfl rfl (zr_of hx hG (⟨hc1, ⟨rfl, rfl⟩⟩)) ?_ (fun _ _ hf => hf.elim)
      rintro v S' ⟨rfl, rfl⟩
      refine z_iconst 3 rfl rfl ?_
      refine z_icmp_eq rfl (fun hq => ?_) (fun hq => ?_)
      · replace hw := hw.1 hq
        refine z_iinc 1 [some (.ref 148), none, some (.int l2), some (.int (l3 + 1)), none, none] rfl rfl rfl rfl ?_
        refine z_goto rfl ?_
        refine Z.forget' [some (.ref 148), none, some (.int l2), some (.int (l3 + 1)), none, none] ⟨rfl, ⟨rfl, ⟨rfl, trivial⟩⟩⟩ ?_
        exact ih hw
      · replace hw := hw.2 hq
        refine z_aload_n rfl rfl ?_
        refine z_iload_n rfl rfl ?_
        refine z_iconst 2 rfl rfl ?_
        obtain ⟨hc2, hw⟩ := hw
        refine z_cvi (M' := M_r_of) (post := fun v S' => (S 154 ((8 * l3) + 2).toNatClampNeg) = v ∧ S = S') [.int l3, .int 2] hx rfl w_754 cv_r_of hG.1 (by decide) rfl rfl rfl rfl (zr_of hx hG (⟨hc2, ⟨rfl, rfl⟩⟩)) ?_ (fun _ _ hf => hf.elim)
        rintro v S' ⟨rfl, rfl⟩
        refine z_aload_n rfl rfl ?_
        refine z_iload_n rfl rfl ?_
        refine z_iconst 4 rfl rfl ?_
        obtain ⟨hc3, hw⟩ := hw
        refine z_cvi (M' := M_r_of) (post := fun v S' => (S 154 ((8 * l3) + 4).toNatClampNeg) = v ∧ S = S') [.int l3, .int 4] hx rfl w_754 cv_r_of hG.1 (by decide) rfl rfl rfl rfl (zr_of hx hG (⟨hc3, ⟨rfl, rfl⟩⟩)) ?_ (fun _ _ hf => hf.elim)
        rintro v S' ⟨rfl, rfl⟩
        refine z_iadd rfl ?_
        refine z_istore [some (.ref 148), none, some (.int l2), some (.int l3), some (.int ((S 154 ((8 * l3) + 2).toNatClampNeg) + (S 154 ((8 * l3) + 4).toNatClampNeg))), none] rfl rfl rfl ?_
        refine z_aload_n rfl rfl ?_
        refine z_iload_n rfl rfl ?_
        refine z_iconst 3 rfl rfl ?_
        obtain ⟨hc4, hw⟩ := hw
        refine z_cvi (M' := M_r_of) (post := fun v S' => (S 154 ((8 * l3) + 3).toNatClampNeg) = v ∧ S = S') [.int l3, .int 3] hx rfl w_754 cv_r_of hG.1 (by decide) rfl rfl rfl rfl (zr_of hx hG (⟨hc4, ⟨rfl, rfl⟩⟩)) ?_ (fun _ _ hf => hf.elim)
        rintro v S' ⟨rfl, rfl⟩
        refine z_aload_n rfl rfl ?_
        refine z_iload_n rfl rfl ?_
        refine z_iconst 5 rfl rfl ?_
        obtain ⟨hc5, hw⟩ := hw
        refine z_cvi (M' := M_r_of) (post := fun v S' => (S 154 ((8 * l3) + 5).toNatClampNeg) = v ∧ S = S') [.int l3, .int 5] hx rfl w_754 cv_r_of hG.1 (by decide) rfl rfl rfl rfl (zr_of hx hG (⟨hc5, ⟨rfl, rfl⟩⟩)) ?_ (fun _ _ hf => hf.elim)
        rintro v S' ⟨rfl, rfl⟩
        refine z_iadd rfl ?_
        refine z_istore [some (.ref 148), none, some (.int l2), some (.int l3), some (.int ((S 154 ((8 * l3) + 2).toNatClampNeg) + (S 154 ((8 * l3) + 4).toNatClampNeg))), some (.int ((S 154 ((8 * l3) + 3).toNatClampNeg) + (S 154 ((8 * l3) + 5).toNatClampNeg)))] rfl rfl rfl ?_
        refine z_aload_n rfl rfl ?_
        refine z_aload_n rfl rfl ?_
        refine z_iload_n rfl rfl ?_
        refine z_iconst 2 rfl rfl ?_
        obtain ⟨hc6, hw⟩ := hw
        refine z_cvi (M' := M_r_of) (post := fun v S' => (S 154 ((8 * l3) + 2).toNatClampNeg) = v ∧ S = S') [.int l3, .int 2] hx rfl w_754 cv_r_of hG.1 (by decide) rfl rfl rfl rfl (zr_of hx hG (⟨hc6, ⟨rfl, rfl⟩⟩)) ?_ (fun _ _ hf => hf.elim)
        rintro v S' ⟨rfl, rfl⟩
        refine z_aload_n rfl rfl ?_
        refine z_geti (ci := 7) 12 rfl hG.1 rfl w_670 ?_
        obtain ⟨hc11, hw⟩ := hw
        have hj82 : ∀ v : Int32, v = (if (S 148 12) ≤ (S 154 ((8 * l3) + 2).toNatClampNeg) then (S 148 12) else (S 154 ((8 * l3) + 2).toNatClampNeg) : Int32) → Z g M_r_findBox 0 0 98 [some (.ref 148), none, some (.int l2), some (.int l3), some (.int ((S 154 ((8 * l3) + 2).toNatClampNeg) + (S 154 ((8 * l3) + 4).toNatClampNeg))), some (.int ((S 154 ((8 * l3) + 3).toNatClampNeg) + (S 154 ((8 * l3) + 5).toNatClampNeg)))] [.int v, .ref 148] (S, G) (Qv G post noEx) := by
          intro v hv
          subst hv
          replace hw := hw _ rfl
          refine z_puti (ci := 7) 12 rfl hG.1 rfl w_670 rfl rfl rfl ?_
          refine z_aload_n rfl rfl ?_
          refine z_aload_n rfl rfl ?_
          refine z_iload_n rfl rfl ?_
          refine z_iconst 3 rfl rfl ?_
          obtain ⟨hc7, hw⟩ := hw
          refine z_cvi (M' := M_r_of) (post := fun v S' => ((up2 S 148 12 (if (S 148 12) ≤ (S 154 ((8 * l3) + 2).toNatClampNeg) then (S 148 12) else (S 154 ((8 * l3) + 2).toNatClampNeg) : Int32)) 154 ((8 * l3) + 3).toNatClampNeg) = v ∧ (up2 S 148 12 (if (S 148 12) ≤ (S 154 ((8 * l3) + 2).toNatClampNeg) then (S 148 12) else (S 154 ((8 * l3) + 2).toNatClampNeg) : Int32)) = S') [.int l3, .int 3] hx rfl w_754 cv_r_of hG.1 (by decide) rfl rfl rfl rfl (zr_of hx hG (⟨hc7, ⟨rfl, rfl⟩⟩)) ?_ (fun _ _ hf => hf.elim)
          rintro v S' ⟨rfl, rfl⟩
          refine z_aload_n rfl rfl ?_
          refine z_geti (ci := 7) 13 rfl hG.1 rfl w_671 ?_
          obtain ⟨hc10, hw⟩ := hw
          have hj112 : ∀ v : Int32, v = (if ((up2 S 148 12 (if (S 148 12) ≤ (S 154 ((8 * l3) + 2).toNatClampNeg) then (S 148 12) else (S 154 ((8 * l3) + 2).toNatClampNeg) : Int32)) 148 13) ≤ ((up2 S 148 12 (if (S 148 12) ≤ (S 154 ((8 * l3) + 2).toNatClampNeg) then (S 148 12) else (S 154 ((8 * l3) + 2).toNatClampNeg) : Int32)) 154 ((8 * l3) + 3).toNatClampNeg) then ((up2 S 148 12 (if (S 148 12) ≤ (S 154 ((8 * l3) + 2).toNatClampNeg) then (S 148 12) else (S 154 ((8 * l3) + 2).toNatClampNeg) : Int32)) 148 13) else ((up2 S 148 12 (if (S 148 12) ≤ (S 154 ((8 * l3) + 2).toNatClampNeg) then (S 148 12) else (S 154 ((8 * l3) + 2).toNatClampNeg) : Int32)) 154 ((8 * l3) + 3).toNatClampNeg) : Int32) → Z g M_r_findBox 0 0 128 [some (.ref 148), none, some (.int l2), some (.int l3), some (.int ((S 154 ((8 * l3) + 2).toNatClampNeg) + (S 154 ((8 * l3) + 4).toNatClampNeg))), some (.int ((S 154 ((8 * l3) + 3).toNatClampNeg) + (S 154 ((8 * l3) + 5).toNatClampNeg)))] [.int v, .ref 148] ((up2 S 148 12 (if (S 148 12) ≤ (S 154 ((8 * l3) + 2).toNatClampNeg) then (S 148 12) else (S 154 ((8 * l3) + 2).toNatClampNeg) : Int32)), G) (Qv G post noEx) := by
            intro v hv
            subst hv
            replace hw := hw _ rfl
            refine z_puti (ci := 7) 13 rfl hG.1 rfl w_671 rfl rfl rfl ?_
            refine z_aload_n rfl rfl ?_
            refine z_iload rfl rfl ?_
            refine z_aload_n rfl rfl ?_
            refine z_geti (ci := 7) 14 rfl hG.1 rfl w_672 ?_
            have hj138 : ∀ v : Int32, v = (if ((S 154 ((8 * l3) + 2).toNatClampNeg) + (S 154 ((8 * l3) + 4).toNatClampNeg)) ≤ ((up2 (up2 S 148 12 (if (S 148 12) ≤ (S 154 ((8 * l3) + 2).toNatClampNeg) then (S 148 12) else (S 154 ((8 * l3) + 2).toNatClampNeg) : Int32)) 148 13 (if ((up2 S 148 12 (if (S 148 12) ≤ (S 154 ((8 * l3) + 2).toNatClampNeg) then (S 148 12) else (S 154 ((8 * l3) + 2).toNatClampNeg) : Int32)) 148 13) ≤ ((up2 S 148 12 (if (S 148 12) ≤ (S 154 ((8 * l3) + 2).toNatClampNeg) then (S 148 12) else (S 154 ((8 * l3) + 2).toNatClampNeg) : Int32)) 154 ((8 * l3) + 3).toNatClampNeg) then ((up2 S 148 12 (if (S 148 12) ≤ (S 154 ((8 * l3) + 2).toNatClampNeg) then (S 148 12) else (S 154 ((8 * l3) + 2).toNatClampNeg) : Int32)) 148 13) else ((up2 S 148 12 (if (S 148 12) ≤ (S 154 ((8 * l3) + 2).toNatClampNeg) then (S 148 12) else (S 154 ((8 * l3) + 2).toNatClampNeg) : Int32)) 154 ((8 * l3) + 3).toNatClampNeg) : Int32)) 148 14) then ((up2 (up2 S 148 12 (if (S 148 12) ≤ (S 154 ((8 * l3) + 2).toNatClampNeg) then (S 148 12) else (S 154 ((8 * l3) + 2).toNatClampNeg) : Int32)) 148 13 (if ((up2 S 148 12 (if (S 148 12) ≤ (S 154 ((8 * l3) + 2).toNatClampNeg) then (S 148 12) else (S 154 ((8 * l3) + 2).toNatClampNeg) : Int32)) 148 13) ≤ ((up2 S 148 12 (if (S 148 12) ≤ (S 154 ((8 * l3) + 2).toNatClampNeg) then (S 148 12) else (S 154 ((8 * l3) + 2).toNatClampNeg) : Int32)) 154 ((8 * l3) + 3).toNatClampNeg) then ((up2 S 148 12 (if (S 148 12) ≤ (S 154 ((8 * l3) + 2).toNatClampNeg) then (S 148 12) else (S 154 ((8 * l3) + 2).toNatClampNeg) : Int32)) 148 13) else ((up2 S 148 12 (if (S 148 12) ≤ (S 154 ((8 * l3) + 2).toNatClampNeg) then (S 148 12) else (S 154 ((8 * l3) + 2).toNatClampNeg) : Int32)) 154 ((8 * l3) + 3).toNatClampNeg) : Int32)) 148 14) else ((S 154 ((8 * l3) + 2).toNatClampNeg) + (S 154 ((8 * l3) + 4).toNatClampNeg)) : Int32) → Z g M_r_findBox 0 0 150 [some (.ref 148), none, some (.int l2), some (.int l3), some (.int ((S 154 ((8 * l3) + 2).toNatClampNeg) + (S 154 ((8 * l3) + 4).toNatClampNeg))), some (.int ((S 154 ((8 * l3) + 3).toNatClampNeg) + (S 154 ((8 * l3) + 5).toNatClampNeg)))] [.int v, .ref 148] ((up2 (up2 S 148 12 (if (S 148 12) ≤ (S 154 ((8 * l3) + 2).toNatClampNeg) then (S 148 12) else (S 154 ((8 * l3) + 2).toNatClampNeg) : Int32)) 148 13 (if ((up2 S 148 12 (if (S 148 12) ≤ (S 154 ((8 * l3) + 2).toNatClampNeg) then (S 148 12) else (S 154 ((8 * l3) + 2).toNatClampNeg) : Int32)) 148 13) ≤ ((up2 S 148 12 (if (S 148 12) ≤ (S 154 ((8 * l3) + 2).toNatClampNeg) then (S 148 12) else (S 154 ((8 * l3) + 2).toNatClampNeg) : Int32)) 154 ((8 * l3) + 3).toNatClampNeg) then ((up2 S 148 12 (if (S 148 12) ≤ (S 154 ((8 * l3) + 2).toNatClampNeg) then (S 148 12) else (S 154 ((8 * l3) + 2).toNatClampNeg) : Int32)) 148 13) else ((up2 S 148 12 (if (S 148 12) ≤ (S 154 ((8 * l3) + 2).toNatClampNeg) then (S 148 12) else (S 154 ((8 * l3) + 2).toNatClampNeg) : Int32)) 154 ((8 * l3) + 3).toNatClampNeg) : Int32)), G) (Qv G post noEx) := by
              intro v hv
              subst hv
              replace hw := hw _ rfl
              refine z_puti (ci := 7) 14 rfl hG.1 rfl w_672 rfl rfl rfl ?_
              refine z_aload_n rfl rfl ?_
              refine z_iload rfl rfl ?_
              refine z_aload_n rfl rfl ?_
              refine z_geti (ci := 7) 15 rfl hG.1 rfl w_673 ?_
              have hj160 : ∀ v : Int32, v = (if ((S 154 ((8 * l3) + 3).toNatClampNeg) + (S 154 ((8 * l3) + 5).toNatClampNeg)) ≤ ((up2 (up2 (up2 S 148 12 (if (S 148 12) ≤ (S 154 ((8 * l3) + 2).toNatClampNeg) then (S 148 12) else (S 154 ((8 * l3) + 2).toNatClampNeg) : Int32)) 148 13 (if ((up2 S 148 12 (if (S 148 12) ≤ (S 154 ((8 * l3) + 2).toNatClampNeg) then (S 148 12) else (S 154 ((8 * l3) + 2).toNatClampNeg) : Int32)) 148 13) ≤ ((up2 S 148 12 (if (S 148 12) ≤ (S 154 ((8 * l3) + 2).toNatClampNeg) then (S 148 12) else (S 154 ((8 * l3) + 2).toNatClampNeg) : Int32)) 154 ((8 * l3) + 3).toNatClampNeg) then ((up2 S 148 12 (if (S 148 12) ≤ (S 154 ((8 * l3) + 2).toNatClampNeg) then (S 148 12) else (S 154 ((8 * l3) + 2).toNatClampNeg) : Int32)) 148 13) else ((up2 S 148 12 (if (S 148 12) ≤ (S 154 ((8 * l3) + 2).toNatClampNeg) then (S 148 12) else (S 154 ((8 * l3) + 2).toNatClampNeg) : Int32)) 154 ((8 * l3) + 3).toNatClampNeg) : Int32)) 148 14 (if ((S 154 ((8 * l3) + 2).toNatClampNeg) + (S 154 ((8 * l3) + 4).toNatClampNeg)) ≤ ((up2 (up2 S 148 12 (if (S 148 12) ≤ (S 154 ((8 * l3) + 2).toNatClampNeg) then (S 148 12) else (S 154 ((8 * l3) + 2).toNatClampNeg) : Int32)) 148 13 (if ((up2 S 148 12 (if (S 148 12) ≤ (S 154 ((8 * l3) + 2).toNatClampNeg) then (S 148 12) else (S 154 ((8 * l3) + 2).toNatClampNeg) : Int32)) 148 13) ≤ ((up2 S 148 12 (if (S 148 12) ≤ (S 154 ((8 * l3) + 2).toNatClampNeg) then (S 148 12) else (S 154 ((8 * l3) + 2).toNatClampNeg) : Int32)) 154 ((8 * l3) + 3).toNatClampNeg) then ((up2 S 148 12 (if (S 148 12) ≤ (S 154 ((8 * l3) + 2).toNatClampNeg) then (S 148 12) else (S 154 ((8 * l3) + 2).toNatClampNeg) : Int32)) 148 13) else ((up2 S 148 12 (if (S 148 12) ≤ (S 154 ((8 * l3) + 2).toNatClampNeg) then (S 148 12) else (S 154 ((8 * l3) + 2).toNatClampNeg) : Int32)) 154 ((8 * l3) + 3).toNatClampNeg) : Int32)) 148 14) then ((up2 (up2 S 148 12 (if (S 148 12) ≤ (S 154 ((8 * l3) + 2).toNatClampNeg) then (S 148 12) else (S 154 ((8 * l3) + 2).toNatClampNeg) : Int32)) 148 13 (if ((up2 S 148 12 (if (S 148 12) ≤ (S 154 ((8 * l3) + 2).toNatClampNeg) then (S 148 12) else (S 154 ((8 * l3) + 2).toNatClampNeg) : Int32)) 148 13) ≤ ((up2 S 148 12 (if (S 148 12) ≤ (S 154 ((8 * l3) + 2).toNatClampNeg) then (S 148 12) else (S 154 ((8 * l3) + 2).toNatClampNeg) : Int32)) 154 ((8 * l3) + 3).toNatClampNeg) then ((up2 S 148 12 (if (S 148 12) ≤ (S 154 ((8 * l3) + 2).toNatClampNeg) then (S 148 12) else (S 154 ((8 * l3) + 2).toNatClampNeg) : Int32)) 148 13) else ((up2 S 148 12 (if (S 148 12) ≤ (S 154 ((8 * l3) + 2).toNatClampNeg) then (S 148 12) else (S 154 ((8 * l3) + 2).toNatClampNeg) : Int32)) 154 ((8 * l3) + 3).toNatClampNeg) : Int32)) 148 14) else ((S 154 ((8 * l3) + 2).toNatClampNeg) + (S 154 ((8 * l3) + 4).toNatClampNeg)) : Int32)) 148 15) then ((up2 (up2 (up2 S 148 12 (if (S 148 12) ≤ (S 154 ((8 * l3) + 2).toNatClampNeg) then (S 148 12) else (S 154 ((8 * l3) + 2).toNatClampNeg) : Int32)) 148 13 (if ((up2 S 148 12 (if (S 148 12) ≤ (S 154 ((8 * l3) + 2).toNatClampNeg) then (S 148 12) else (S 154 ((8 * l3) + 2).toNatClampNeg) : Int32)) 148 13) ≤ ((up2 S 148 12 (if (S 148 12) ≤ (S 154 ((8 * l3) + 2).toNatClampNeg) then (S 148 12) else (S 154 ((8 * l3) + 2).toNatClampNeg) : Int32)) 154 ((8 * l3) + 3).toNatClampNeg) then ((up2 S 148 12 (if (S 148 12) ≤ (S 154 ((8 * l3) + 2).toNatClampNeg) then (S 148 12) else (S 154 ((8 * l3) + 2).toNatClampNeg) : Int32)) 148 13) else ((up2 S 148 12 (if (S 148 12) ≤ (S 154 ((8 * l3) + 2).toNatClampNeg) then (S 148 12) else (S 154 ((8 * l3) + 2).toNatClampNeg) : Int32)) 154 ((8 * l3) + 3).toNatClampNeg) : Int32)) 148 14 (if ((S 154 ((8 * l3) + 2).toNatClampNeg) + (S 154 ((8 * l3) + 4).toNatClampNeg)) ≤ ((up2 (up2 S 148 12 (if (S 148 12) ≤ (S 154 ((8 * l3) + 2).toNatClampNeg) then (S 148 12) else (S 154 ((8 * l3) + 2).toNatClampNeg) : Int32)) 148 13 (if ((up2 S 148 12 (if (S 148 12) ≤ (S 154 ((8 * l3) + 2).toNatClampNeg) then (S 148 12) else (S 154 ((8 * l3) + 2).toNatClampNeg) : Int32)) 148 13) ≤ ((up2 S 148 12 (if (S 148 12) ≤ (S 154 ((8 * l3) + 2).toNatClampNeg) then (S 148 12) else (S 154 ((8 * l3) + 2).toNatClampNeg) : Int32)) 154 ((8 * l3) + 3).toNatClampNeg) then ((up2 S 148 12 (if (S 148 12) ≤ (S 154 ((8 * l3) + 2).toNatClampNeg) then (S 148 12) else (S 154 ((8 * l3) + 2).toNatClampNeg) : Int32)) 148 13) else ((up2 S 148 12 (if (S 148 12) ≤ (S 154 ((8 * l3) + 2).toNatClampNeg) then (S 148 12) else (S 154 ((8 * l3) + 2).toNatClampNeg) : Int32)) 154 ((8 * l3) + 3).toNatClampNeg) : Int32)) 148 14) then ((up2 (up2 S 148 12 (if (S 148 12) ≤ (S 154 ((8 * l3) + 2).toNatClampNeg) then (S 148 12) else (S 154 ((8 * l3) + 2).toNatClampNeg) : Int32)) 148 13 (if ((up2 S 148 12 (if (S 148 12) ≤ (S 154 ((8 * l3) + 2).toNatClampNeg) then (S 148 12) else (S 154 ((8 * l3) + 2).toNatClampNeg) : Int32)) 148 13) ≤ ((up2 S 148 12 (if (S 148 12) ≤ (S 154 ((8 * l3) + 2).toNatClampNeg) then (S 148 12) else (S 154 ((8 * l3) + 2).toNatClampNeg) : Int32)) 154 ((8 * l3) + 3).toNatClampNeg) then ((up2 S 148 12 (if (S 148 12) ≤ (S 154 ((8 * l3) + 2).toNatClampNeg) then (S 148 12) else (S 154 ((8 * l3) + 2).toNatClampNeg) : Int32)) 148 13) else ((up2 S 148 12 (if (S 148 12) ≤ (S 154 ((8 * l3) + 2).toNatClampNeg) then (S 148 12) else (S 154 ((8 * l3) + 2).toNatClampNeg) : Int32)) 154 ((8 * l3) + 3).toNatClampNeg) : Int32)) 148 14) else ((S 154 ((8 * l3) + 2).toNatClampNeg) + (S 154 ((8 * l3) + 4).toNatClampNeg)) : Int32)) 148 15) else ((S 154 ((8 * l3) + 3).toNatClampNeg) + (S 154 ((8 * l3) + 5).toNatClampNeg)) : Int32) → Z g M_r_findBox 0 0 172 [some (.ref 148), none, some (.int l2), some (.int l3), some (.int ((S 154 ((8 * l3) + 2).toNatClampNeg) + (S 154 ((8 * l3) + 4).toNatClampNeg))), some (.int ((S 154 ((8 * l3) + 3).toNatClampNeg) + (S 154 ((8 * l3) + 5).toNatClampNeg)))] [.int v, .ref 148] ((up2 (up2 (up2 S 148 12 (if (S 148 12) ≤ (S 154 ((8 * l3) + 2).toNatClampNeg) then (S 148 12) else (S 154 ((8 * l3) + 2).toNatClampNeg) : Int32)) 148 13 (if ((up2 S 148 12 (if (S 148 12) ≤ (S 154 ((8 * l3) + 2).toNatClampNeg) then (S 148 12) else (S 154 ((8 * l3) + 2).toNatClampNeg) : Int32)) 148 13) ≤ ((up2 S 148 12 (if (S 148 12) ≤ (S 154 ((8 * l3) + 2).toNatClampNeg) then (S 148 12) else (S 154 ((8 * l3) + 2).toNatClampNeg) : Int32)) 154 ((8 * l3) + 3).toNatClampNeg) then ((up2 S 148 12 (if (S 148 12) ≤ (S 154 ((8 * l3) + 2).toNatClampNeg) then (S 148 12) else (S 154 ((8 * l3) + 2).toNatClampNeg) : Int32)) 148 13) else ((up2 S 148 12 (if (S 148 12) ≤ (S 154 ((8 * l3) + 2).toNatClampNeg) then (S 148 12) else (S 154 ((8 * l3) + 2).toNatClampNeg) : Int32)) 154 ((8 * l3) + 3).toNatClampNeg) : Int32)) 148 14 (if ((S 154 ((8 * l3) + 2).toNatClampNeg) + (S 154 ((8 * l3) + 4).toNatClampNeg)) ≤ ((up2 (up2 S 148 12 (if (S 148 12) ≤ (S 154 ((8 * l3) + 2).toNatClampNeg) then (S 148 12) else (S 154 ((8 * l3) + 2).toNatClampNeg) : Int32)) 148 13 (if ((up2 S 148 12 (if (S 148 12) ≤ (S 154 ((8 * l3) + 2).toNatClampNeg) then (S 148 12) else (S 154 ((8 * l3) + 2).toNatClampNeg) : Int32)) 148 13) ≤ ((up2 S 148 12 (if (S 148 12) ≤ (S 154 ((8 * l3) + 2).toNatClampNeg) then (S 148 12) else (S 154 ((8 * l3) + 2).toNatClampNeg) : Int32)) 154 ((8 * l3) + 3).toNatClampNeg) then ((up2 S 148 12 (if (S 148 12) ≤ (S 154 ((8 * l3) + 2).toNatClampNeg) then (S 148 12) else (S 154 ((8 * l3) + 2).toNatClampNeg) : Int32)) 148 13) else ((up2 S 148 12 (if (S 148 12) ≤ (S 154 ((8 * l3) + 2).toNatClampNeg) then (S 148 12) else (S 154 ((8 * l3) + 2).toNatClampNeg) : Int32)) 154 ((8 * l3) + 3).toNatClampNeg) : Int32)) 148 14) then ((up2 (up2 S 148 12 (if (S 148 12) ≤ (S 154 ((8 * l3) + 2).toNatClampNeg) then (S 148 12) else (S 154 ((8 * l3) + 2).toNatClampNeg) : Int32)) 148 13 (if ((up2 S 148 12 (if (S 148 12) ≤ (S 154 ((8 * l3) + 2).toNatClampNeg) then (S 148 12) else (S 154 ((8 * l3) + 2).toNatClampNeg) : Int32)) 148 13) ≤ ((up2 S 148 12 (if (S 148 12) ≤ (S 154 ((8 * l3) + 2).toNatClampNeg) then (S 148 12) else (S 154 ((8 * l3) + 2).toNatClampNeg) : Int32)) 154 ((8 * l3) + 3).toNatClampNeg) then ((up2 S 148 12 (if (S 148 12) ≤ (S 154 ((8 * l3) + 2).toNatClampNeg) then (S 148 12) else (S 154 ((8 * l3) + 2).toNatClampNeg) : Int32)) 148 13) else ((up2 S 148 12 (if (S 148 12) ≤ (S 154 ((8 * l3) + 2).toNatClampNeg) then (S 148 12) else (S 154 ((8 * l3) + 2).toNatClampNeg) : Int32)) 154 ((8 * l3) + 3).toNatClampNeg) : Int32)) 148 14) else ((S 154 ((8 * l3) + 2).toNatClampNeg) + (S 154 ((8 * l3) + 4).toNatClampNeg)) : Int32)), G) (Qv G post noEx) := by
                intro v hv
                subst hv
                replace hw := hw _ rfl
                refine z_puti (ci := 7) 15 rfl hG.1 rfl w_673 rfl rfl rfl ?_
                refine z_iinc 1 [some (.ref 148), none, some (.int l2), some (.int (l3 + 1)), some (.int ((S 154 ((8 * l3) + 2).toNatClampNeg) + (S 154 ((8 * l3) + 4).toNatClampNeg))), some (.int ((S 154 ((8 * l3) + 3).toNatClampNeg) + (S 154 ((8 * l3) + 5).toNatClampNeg)))] rfl rfl rfl rfl ?_
                refine z_goto rfl ?_
                refine Z.forget' [some (.ref 148), none, some (.int l2), some (.int (l3 + 1)), none, none] ⟨rfl, ⟨rfl, ⟨rfl, trivial⟩⟩⟩ ?_
                exact ih hw
              refine z_icmp_le rfl (fun hp160 => ?_) (fun hp160 => ?_)
              · refine z_aload_n rfl rfl ?_
                refine z_geti (ci := 7) 15 rfl hG.1 rfl w_673 ?_
                exact hj160 _ (by rw [if_pos hp160])
              · refine z_iload rfl rfl ?_
                refine z_goto rfl ?_
                exact hj160 _ (by rw [if_neg hp160])
            refine z_icmp_le rfl (fun hp138 => ?_) (fun hp138 => ?_)
            · refine z_aload_n rfl rfl ?_
              refine z_geti (ci := 7) 14 rfl hG.1 rfl w_672 ?_
              exact hj138 _ (by rw [if_pos hp138])
            · refine z_iload rfl rfl ?_
              refine z_goto rfl ?_
              exact hj138 _ (by rw [if_neg hp138])
          refine z_icmp_ge rfl (fun hp112 => ?_) (fun hp112 => ?_)
          · refine z_aload_n rfl rfl ?_
            refine z_geti (ci := 7) 13 rfl hG.1 rfl w_671 ?_
            exact hj112 _ (by rw [if_pos hp112])
          · refine z_aload_n rfl rfl ?_
            refine z_iload_n rfl rfl ?_
            refine z_iconst 3 rfl rfl ?_
            refine z_cvi (M' := M_r_of) (post := fun v S' => ((up2 S 148 12 (if (S 148 12) ≤ (S 154 ((8 * l3) + 2).toNatClampNeg) then (S 148 12) else (S 154 ((8 * l3) + 2).toNatClampNeg) : Int32)) 154 ((8 * l3) + 3).toNatClampNeg) = v ∧ (up2 S 148 12 (if (S 148 12) ≤ (S 154 ((8 * l3) + 2).toNatClampNeg) then (S 148 12) else (S 154 ((8 * l3) + 2).toNatClampNeg) : Int32)) = S') [.int l3, .int 3] hx rfl w_754 cv_r_of hG.1 (by decide) rfl rfl rfl rfl (zr_of hx hG  (⟨(hc10 hp112), ⟨rfl, rfl⟩⟩)) ?_ (fun _ _ hf => hf.elim)
            rintro v S' ⟨rfl, rfl⟩
            refine z_goto rfl ?_
            exact hj112 _ (by rw [if_neg hp112])
        refine z_icmp_ge rfl (fun hp82 => ?_) (fun hp82 => ?_)
        · refine z_aload_n rfl rfl ?_
          refine z_geti (ci := 7) 12 rfl hG.1 rfl w_670 ?_
          exact hj82 _ (by rw [if_pos hp82])
        · refine z_aload_n rfl rfl ?_
          refine z_iload_n rfl rfl ?_
          refine z_iconst 2 rfl rfl ?_
          refine z_cvi (M' := M_r_of) (post := fun v S' => (S 154 ((8 * l3) + 2).toNatClampNeg) = v ∧ S = S') [.int l3, .int 2] hx rfl w_754 cv_r_of hG.1 (by decide) rfl rfl rfl rfl (zr_of hx hG  (⟨(hc11 hp82), ⟨rfl, rfl⟩⟩)) ?_ (fun _ _ hf => hf.elim)
          rintro v S' ⟨rfl, rfl⟩
          refine z_goto rfl ?_
          exact hj82 _ (by rw [if_neg hp82])
def r_findBox (post : Mem → Prop) (S : Mem) (l1 : Int32) (l2 : Int32) : Prop :=
  ∀ S1, S1 = up2 S 148 12 100000 → ∀ S2, S2 = up2 S1 148 13 100000 → ∀ S3, S3 = up2 S2 148 14 (-100000) → ∀ S4, S4 = up2 S3 148 15 (-100000) → ∃ n, r_findBox_L26 post n S4 l2 l1
set_option maxRecDepth 100000 in
set_option maxHeartbeats 1000000 in
theorem zr_findBox {g : Gm} {G : Gp} {S : Mem} {post : Mem → Prop} {l1 : Int32} {l2 : Int32} (hx : G.2.2.2 = false) (hG : isR G) (hw : r_findBox post S l1 l2) : Z g M_r_findBox 0 0 0 (entryL [.ref 148, .int l1, .int l2] (mL M_r_findBox)) [] (S, G) (Qv G post noEx) := by
  unfold r_findBox at hw
  show Z g M_r_findBox 0 0 0 [some (.ref 148), some (.int l1), some (.int l2), none, none, none] [] (S, G) (Qv G post noEx)
  refine z_aload_n rfl rfl ?_
  refine z_ldc rfl w_806 ?_
  replace hw := hw _ rfl
  refine z_puti (ci := 7) 12 rfl hG.1 rfl w_670 rfl rfl rfl ?_
  refine z_aload_n rfl rfl ?_
  refine z_ldc rfl w_806 ?_
  replace hw := hw _ rfl
  refine z_puti (ci := 7) 13 rfl hG.1 rfl w_671 rfl rfl rfl ?_
  refine z_aload_n rfl rfl ?_
  refine z_ldc rfl w_807 ?_
  replace hw := hw _ rfl
  refine z_puti (ci := 7) 14 rfl hG.1 rfl w_672 rfl rfl rfl ?_
  refine z_aload_n rfl rfl ?_
  refine z_ldc rfl w_807 ?_
  replace hw := hw _ rfl
  refine z_puti (ci := 7) 15 rfl hG.1 rfl w_673 rfl rfl rfl ?_
  refine z_iload_n rfl rfl ?_
  refine z_istore_n [some (.ref 148), some (.int l1), some (.int l2), some (.int l1), none, none] rfl rfl rfl ?_
  refine Z.forget' [some (.ref 148), none, some (.int l2), some (.int l1), none, none] ⟨rfl, ⟨rfl, ⟨rfl, trivial⟩⟩⟩ ?_
  obtain ⟨n, hw⟩ := hw
  exact zr_findBox_L26 hx hG n hw
def r_shift_L3 (post : Mem → Prop)  : Nat → Mem → Int32 → Int32 → Int32 → Int32 → Prop
  | 0, _, _, _, _, _ => False
  | n + 1, S, l2, l3, l4, l5 =>
  ((l2 ≤ l5) →
   post S) ∧
  ((¬ l2 ≤ l5) →
   (vp_in ((8 * l5) + 2) 112) ∧ 
   (vp_in ((8 * l5) + 2) 112) ∧ ∀ S1, S1 = up2 S 154 ((8 * l5) + 2).toNatClampNeg ((S 154 ((8 * l5) + 2).toNatClampNeg) + l3) → 
   (vp_in ((8 * l5) + 3) 112) ∧ 
   (vp_in ((8 * l5) + 3) 112) ∧ ∀ S2, S2 = up2 S1 154 ((8 * l5) + 3).toNatClampNeg ((S1 154 ((8 * l5) + 3).toNatClampNeg) + l4) → 
   r_shift_L3 post n S2 l2 l3 l4 (l5 + 1))
set_option maxRecDepth 100000 in
set_option maxHeartbeats 1000000 in
theorem zr_shift_L3 {g : Gm} {G : Gp} {post : Mem → Prop} (hx : G.2.2.2 = false) (hG : isR G) : ∀ (n : Nat) {S : Mem} {l2 : Int32} {l3 : Int32} {l4 : Int32} {l5 : Int32} , r_shift_L3 post n S l2 l3 l4 l5 → Z g M_r_shift 0 0 3 [some (.ref 148), none, some (.int l2), some (.int l3), some (.int l4), some (.int l5)] [] (S, G) (Qv G post noEx) := by
  intro n
  induction n with
  | zero =>
    intros
    rename_i hw
    exact hw.elim
  | succ n ih =>
    intro S l2 l3 l4 l5 hw
    rw [r_shift_L3] at hw
    refine z_iload rfl rfl ?_
    refine z_iload_n rfl rfl ?_
    refine z_icmp_ge rfl (fun hq => ?_) (fun hq => ?_)
    · replace hw := hw.1 hq
      exact z_vret rfl rfl rfl rfl (Or.inl ⟨_, rfl, rfl, hw⟩)
    · replace hw := hw.2 hq
      refine z_aload_n rfl rfl ?_
      refine z_iload rfl rfl ?_
      refine z_iconst 2 rfl rfl ?_
      refine z_aload_n rfl rfl ?_
      refine z_iload rfl rfl ?_
      refine z_iconst 2 rfl rfl ?_
      obtain ⟨hc1, hw⟩ := hw
      refine z_cvi (M' := M_r_of) (post := fun v S' => (S 154 ((8 * l5) + 2).toNatClampNeg) = v ∧ S = S') [.int l5, .int 2] hx rfl w_754 cv_r_of hG.1 (by decide) rfl rfl rfl rfl (zr_of hx hG (⟨hc1, ⟨rfl, rfl⟩⟩)) ?_ (fun _ _ hf => hf.elim)
      rintro v S' ⟨rfl, rfl⟩
      refine z_iload_n rfl rfl ?_
      refine z_iadd rfl ?_
      obtain ⟨hc2, hw⟩ := hw
      replace hw := hw _ rfl
      refine z_cvv (M' := M_r_put) (post := fun S' => (up2 S 154 ((8 * l5) + 2).toNatClampNeg ((S 154 ((8 * l5) + 2).toNatClampNeg) + l3)) = S') [.int l5, .int 2, .int ((S 154 ((8 * l5) + 2).toNatClampNeg) + l3)] hx rfl w_774 cv_r_put hG.1 (by decide) rfl rfl rfl rfl (zr_put hx hG (⟨hc2, fun _ hS => by subst hS; exact rfl⟩)) ?_ (fun _ _ hf => hf.elim)
      rintro S' rfl
      refine z_aload_n rfl rfl ?_
      refine z_iload rfl rfl ?_
      refine z_iconst 3 rfl rfl ?_
      refine z_aload_n rfl rfl ?_
      refine z_iload rfl rfl ?_
      refine z_iconst 3 rfl rfl ?_
      obtain ⟨hc3, hw⟩ := hw
      refine z_cvi (M' := M_r_of) (post := fun v S' => ((up2 S 154 ((8 * l5) + 2).toNatClampNeg ((S 154 ((8 * l5) + 2).toNatClampNeg) + l3)) 154 ((8 * l5) + 3).toNatClampNeg) = v ∧ (up2 S 154 ((8 * l5) + 2).toNatClampNeg ((S 154 ((8 * l5) + 2).toNatClampNeg) + l3)) = S') [.int l5, .int 3] hx rfl w_754 cv_r_of hG.1 (by decide) rfl rfl rfl rfl (zr_of hx hG (⟨hc3, ⟨rfl, rfl⟩⟩)) ?_ (fun _ _ hf => hf.elim)
      rintro v S' ⟨rfl, rfl⟩
      refine z_iload rfl rfl ?_
      refine z_iadd rfl ?_
      obtain ⟨hc4, hw⟩ := hw
      replace hw := hw _ rfl
      refine z_cvv (M' := M_r_put) (post := fun S' => (up2 (up2 S 154 ((8 * l5) + 2).toNatClampNeg ((S 154 ((8 * l5) + 2).toNatClampNeg) + l3)) 154 ((8 * l5) + 3).toNatClampNeg (((up2 S 154 ((8 * l5) + 2).toNatClampNeg ((S 154 ((8 * l5) + 2).toNatClampNeg) + l3)) 154 ((8 * l5) + 3).toNatClampNeg) + l4)) = S') [.int l5, .int 3, .int (((up2 S 154 ((8 * l5) + 2).toNatClampNeg ((S 154 ((8 * l5) + 2).toNatClampNeg) + l3)) 154 ((8 * l5) + 3).toNatClampNeg) + l4)] hx rfl w_774 cv_r_put hG.1 (by decide) rfl rfl rfl rfl (zr_put hx hG (⟨hc4, fun _ hS => by subst hS; exact rfl⟩)) ?_ (fun _ _ hf => hf.elim)
      rintro S' rfl
      refine z_iinc 1 [some (.ref 148), none, some (.int l2), some (.int l3), some (.int l4), some (.int (l5 + 1))] rfl rfl rfl rfl ?_
      refine z_goto rfl ?_
      refine Z.forget' [some (.ref 148), none, some (.int l2), some (.int l3), some (.int l4), some (.int (l5 + 1))] ⟨rfl, ⟨rfl, ⟨rfl, ⟨rfl, ⟨rfl, trivial⟩⟩⟩⟩⟩ ?_
      exact ih hw
def r_shift (post : Mem → Prop) (S : Mem) (l1 : Int32) (l2 : Int32) (l3 : Int32) (l4 : Int32) : Prop :=
  ∃ n, r_shift_L3 post n S l2 l3 l4 l1
set_option maxRecDepth 100000 in
set_option maxHeartbeats 1000000 in
theorem zr_shift {g : Gm} {G : Gp} {S : Mem} {post : Mem → Prop} {l1 : Int32} {l2 : Int32} {l3 : Int32} {l4 : Int32} (hx : G.2.2.2 = false) (hG : isR G) (hw : r_shift post S l1 l2 l3 l4) : Z g M_r_shift 0 0 0 (entryL [.ref 148, .int l1, .int l2, .int l3, .int l4] (mL M_r_shift)) [] (S, G) (Qv G post noEx) := by
  unfold r_shift at hw
  show Z g M_r_shift 0 0 0 [some (.ref 148), some (.int l1), some (.int l2), some (.int l3), some (.int l4), none] [] (S, G) (Qv G post noEx)
  refine z_iload_n rfl rfl ?_
  refine z_istore [some (.ref 148), some (.int l1), some (.int l2), some (.int l3), some (.int l4), some (.int l1)] rfl rfl rfl ?_
  refine Z.forget' [some (.ref 148), none, some (.int l2), some (.int l3), some (.int l4), some (.int l1)] ⟨rfl, ⟨rfl, ⟨rfl, ⟨rfl, ⟨rfl, trivial⟩⟩⟩⟩⟩ ?_
  obtain ⟨n, hw⟩ := hw
  exact zr_shift_L3 hx hG n hw
def r_holdLimits_L17 (post : Int32 → Mem → Prop)  : Nat → Mem → Int32 → Int32 → Prop
  | 0, _, _, _ => False
  | n + 1, S, l1, l2 =>
  (((S 148 7) ≤ l2) →
   vp_nar .boolean l1 = l1 ∧ post l1 S) ∧
  ((¬ (S 148 7) ≤ l2) →
   (vp_in ((8 * l2) + 1) 112) ∧ 
   (((S 154 ((8 * l2) + 1).toNatClampNeg) = 3) →
    r_holdLimits_L17 post n S l1 (l2 + 1)) ∧
   ((¬ (S 154 ((8 * l2) + 1).toNatClampNeg) = 3) →
    ((¬ l1 = 0 → (vp_in ((8 * l2) + 2) 112) ∧ (¬ (S 154 ((8 * l2) + 2).toNatClampNeg) < (-200) → (vp_in ((8 * l2) + 3) 112) ∧ (¬ (S 154 ((8 * l2) + 3).toNatClampNeg) < (-200) → (vp_in ((8 * l2) + 2) 112) ∧ (vp_in ((8 * l2) + 4) 112) ∧ (¬ 200 < ((S 154 ((8 * l2) + 2).toNatClampNeg) + (S 154 ((8 * l2) + 4).toNatClampNeg)) → (vp_in ((8 * l2) + 3) 112) ∧ (vp_in ((8 * l2) + 5) 112)))))) ∧ 
    r_holdLimits_L17 post n S (if l1 = 0 then 0 else (if (S 154 ((8 * l2) + 2).toNatClampNeg) < (-200) then 0 else (if (S 154 ((8 * l2) + 3).toNatClampNeg) < (-200) then 0 else (if 200 < ((S 154 ((8 * l2) + 2).toNatClampNeg) + (S 154 ((8 * l2) + 4).toNatClampNeg)) then 0 else (if 200 < ((S 154 ((8 * l2) + 3).toNatClampNeg) + (S 154 ((8 * l2) + 5).toNatClampNeg)) then 0 else 1 : Int32) : Int32) : Int32) : Int32) : Int32) (l2 + 1)))
set_option maxRecDepth 100000 in
set_option maxHeartbeats 1000000 in
theorem zr_holdLimits_L17 {g : Gm} {G : Gp} {post : Int32 → Mem → Prop} (hx : G.2.2.2 = false) (hG : isR G) : ∀ (n : Nat) {S : Mem} {l1 : Int32} {l2 : Int32} , r_holdLimits_L17 post n S l1 l2 → Z g M_r_holdLimits 0 0 17 [some (.ref 148), some (.int l1), some (.int l2)] [] (S, G) (Qi G post noEx) := by
  intro n
  induction n with
  | zero =>
    intros
    rename_i hw
    exact hw.elim
  | succ n ih =>
    intro S l1 l2 hw
    rw [r_holdLimits_L17] at hw
    refine z_iload_n rfl rfl ?_
    refine z_aload_n rfl rfl ?_
    refine z_geti (ci := 7) 7 rfl hG.1 rfl w_665 ?_
    refine z_icmp_ge rfl (fun hq => ?_) (fun hq => ?_)
    · replace hw := hw.1 hq
      refine z_iload_n rfl rfl ?_
      obtain ⟨hc1, hw⟩ := hw
      exact z_zret rfl rfl (nar_of hc1) rfl rfl (Or.inl ⟨_, _, rfl, rfl, hw⟩)
    · replace hw := hw.2 hq
      refine z_aload_n rfl rfl ?_
      refine z_iload_n rfl rfl ?_
      refine z_iconst 1 rfl rfl ?_
      obtain ⟨hc2, hw⟩ := hw
      refine z_cvi (M' := M_r_of) (post := fun v S' => (S 154 ((8 * l2) + 1).toNatClampNeg) = v ∧ S = S') [.int l2, .int 1] hx rfl w_754 cv_r_of hG.1 (by decide) rfl rfl rfl rfl (zr_of hx hG (⟨hc2, ⟨rfl, rfl⟩⟩)) ?_ (fun _ _ hf => hf.elim)
      rintro v S' ⟨rfl, rfl⟩
      refine z_iconst 3 rfl rfl ?_
      refine z_icmp_eq rfl (fun hq => ?_) (fun hq => ?_)
      · replace hw := hw.1 hq
        refine z_iinc 1 [some (.ref 148), some (.int l1), some (.int (l2 + 1))] rfl rfl rfl rfl ?_
        refine z_goto rfl ?_
        refine Z.forget' [some (.ref 148), some (.int l1), some (.int (l2 + 1))] ⟨rfl, ⟨rfl, ⟨rfl, trivial⟩⟩⟩ ?_
        exact ih hw
      · replace hw := hw.2 hq
        refine z_iload_n rfl rfl ?_
        obtain ⟨hc3, hw⟩ := hw
        have hj36 : ∀ v : Int32, v = (if l1 = 0 then 0 else (if (S 154 ((8 * l2) + 2).toNatClampNeg) < (-200) then 0 else (if (S 154 ((8 * l2) + 3).toNatClampNeg) < (-200) then 0 else (if 200 < ((S 154 ((8 * l2) + 2).toNatClampNeg) + (S 154 ((8 * l2) + 4).toNatClampNeg)) then 0 else (if 200 < ((S 154 ((8 * l2) + 3).toNatClampNeg) + (S 154 ((8 * l2) + 5).toNatClampNeg)) then 0 else 1 : Int32) : Int32) : Int32) : Int32) : Int32) → Z g M_r_holdLimits 0 0 106 [some (.ref 148), some (.int l1), some (.int l2)] [.int v] (S, G) (Qi G post noEx) := by
          intro v hv
          subst hv
          refine z_istore_n [some (.ref 148), some (.int (if l1 = 0 then 0 else (if (S 154 ((8 * l2) + 2).toNatClampNeg) < (-200) then 0 else (if (S 154 ((8 * l2) + 3).toNatClampNeg) < (-200) then 0 else (if 200 < ((S 154 ((8 * l2) + 2).toNatClampNeg) + (S 154 ((8 * l2) + 4).toNatClampNeg)) then 0 else (if 200 < ((S 154 ((8 * l2) + 3).toNatClampNeg) + (S 154 ((8 * l2) + 5).toNatClampNeg)) then 0 else 1 : Int32) : Int32) : Int32) : Int32) : Int32)), some (.int l2)] rfl rfl rfl ?_
          refine z_iinc 1 [some (.ref 148), some (.int (if l1 = 0 then 0 else (if (S 154 ((8 * l2) + 2).toNatClampNeg) < (-200) then 0 else (if (S 154 ((8 * l2) + 3).toNatClampNeg) < (-200) then 0 else (if 200 < ((S 154 ((8 * l2) + 2).toNatClampNeg) + (S 154 ((8 * l2) + 4).toNatClampNeg)) then 0 else (if 200 < ((S 154 ((8 * l2) + 3).toNatClampNeg) + (S 154 ((8 * l2) + 5).toNatClampNeg)) then 0 else 1 : Int32) : Int32) : Int32) : Int32) : Int32)), some (.int (l2 + 1))] rfl rfl rfl rfl ?_
          refine z_goto rfl ?_
          refine Z.forget' [some (.ref 148), some (.int (if l1 = 0 then 0 else (if (S 154 ((8 * l2) + 2).toNatClampNeg) < (-200) then 0 else (if (S 154 ((8 * l2) + 3).toNatClampNeg) < (-200) then 0 else (if 200 < ((S 154 ((8 * l2) + 2).toNatClampNeg) + (S 154 ((8 * l2) + 4).toNatClampNeg)) then 0 else (if 200 < ((S 154 ((8 * l2) + 3).toNatClampNeg) + (S 154 ((8 * l2) + 5).toNatClampNeg)) then 0 else 1 : Int32) : Int32) : Int32) : Int32) : Int32)), some (.int (l2 + 1))] ⟨rfl, ⟨rfl, ⟨rfl, trivial⟩⟩⟩ ?_
          exact ih hw
        refine z_if_eq rfl (fun hp36 => ?_) (fun hp36 => ?_)
        · refine z_iconst 0 rfl rfl ?_
          exact hj36 _ (by rw [if_pos hp36])
        · refine z_aload_n rfl rfl ?_
          refine z_iload_n rfl rfl ?_
          refine z_iconst 2 rfl rfl ?_
          refine z_cvi (M' := M_r_of) (post := fun v S' => (S 154 ((8 * l2) + 2).toNatClampNeg) = v ∧ S = S') [.int l2, .int 2] hx rfl w_754 cv_r_of hG.1 (by decide) rfl rfl rfl rfl (zr_of hx hG  (⟨(hc3 hp36).1, ⟨rfl, rfl⟩⟩)) ?_ (fun _ _ hf => hf.elim)
          rintro v S' ⟨rfl, rfl⟩
          refine z_sipush (-200) rfl rfl ?_
          refine z_icmp_lt rfl (fun hp48 => ?_) (fun hp48 => ?_)
          · refine z_iconst 0 rfl rfl ?_
            exact hj36 _ (by rw [if_neg hp36, if_pos hp48])
          · refine z_aload_n rfl rfl ?_
            refine z_iload_n rfl rfl ?_
            refine z_iconst 3 rfl rfl ?_
            refine z_cvi (M' := M_r_of) (post := fun v S' => (S 154 ((8 * l2) + 3).toNatClampNeg) = v ∧ S = S') [.int l2, .int 3] hx rfl w_754 cv_r_of hG.1 (by decide) rfl rfl rfl rfl (zr_of hx hG  (⟨((hc3 hp36).2 hp48).1, ⟨rfl, rfl⟩⟩)) ?_ (fun _ _ hf => hf.elim)
            rintro v S' ⟨rfl, rfl⟩
            refine z_sipush (-200) rfl rfl ?_
            refine z_icmp_lt rfl (fun hp60 => ?_) (fun hp60 => ?_)
            · refine z_iconst 0 rfl rfl ?_
              exact hj36 _ (by rw [if_neg hp36, if_neg hp48, if_pos hp60])
            · refine z_aload_n rfl rfl ?_
              refine z_iload_n rfl rfl ?_
              refine z_iconst 2 rfl rfl ?_
              refine z_cvi (M' := M_r_of) (post := fun v S' => (S 154 ((8 * l2) + 2).toNatClampNeg) = v ∧ S = S') [.int l2, .int 2] hx rfl w_754 cv_r_of hG.1 (by decide) rfl rfl rfl rfl (zr_of hx hG  (⟨(((hc3 hp36).2 hp48).2 hp60).1, ⟨rfl, rfl⟩⟩)) ?_ (fun _ _ hf => hf.elim)
              rintro v S' ⟨rfl, rfl⟩
              refine z_aload_n rfl rfl ?_
              refine z_iload_n rfl rfl ?_
              refine z_iconst 4 rfl rfl ?_
              refine z_cvi (M' := M_r_of) (post := fun v S' => (S 154 ((8 * l2) + 4).toNatClampNeg) = v ∧ S = S') [.int l2, .int 4] hx rfl w_754 cv_r_of hG.1 (by decide) rfl rfl rfl rfl (zr_of hx hG  (⟨(((hc3 hp36).2 hp48).2 hp60).2.1, ⟨rfl, rfl⟩⟩)) ?_ (fun _ _ hf => hf.elim)
              rintro v S' ⟨rfl, rfl⟩
              refine z_iadd rfl ?_
              refine z_sipush 200 rfl rfl ?_
              refine z_icmp_gt rfl (fun hp79 => ?_) (fun hp79 => ?_)
              · refine z_iconst 0 rfl rfl ?_
                exact hj36 _ (by rw [if_neg hp36, if_neg hp48, if_neg hp60, if_pos hp79])
              · refine z_aload_n rfl rfl ?_
                refine z_iload_n rfl rfl ?_
                refine z_iconst 3 rfl rfl ?_
                refine z_cvi (M' := M_r_of) (post := fun v S' => (S 154 ((8 * l2) + 3).toNatClampNeg) = v ∧ S = S') [.int l2, .int 3] hx rfl w_754 cv_r_of hG.1 (by decide) rfl rfl rfl rfl (zr_of hx hG  (⟨((((hc3 hp36).2 hp48).2 hp60).2.2 hp79).1, ⟨rfl, rfl⟩⟩)) ?_ (fun _ _ hf => hf.elim)
                rintro v S' ⟨rfl, rfl⟩
                refine z_aload_n rfl rfl ?_
                refine z_iload_n rfl rfl ?_
                refine z_iconst 5 rfl rfl ?_
                refine z_cvi (M' := M_r_of) (post := fun v S' => (S 154 ((8 * l2) + 5).toNatClampNeg) = v ∧ S = S') [.int l2, .int 5] hx rfl w_754 cv_r_of hG.1 (by decide) rfl rfl rfl rfl (zr_of hx hG  (⟨((((hc3 hp36).2 hp48).2 hp60).2.2 hp79).2, ⟨rfl, rfl⟩⟩)) ?_ (fun _ _ hf => hf.elim)
                rintro v S' ⟨rfl, rfl⟩
                refine z_iadd rfl ?_
                refine z_sipush 200 rfl rfl ?_
                refine z_icmp_gt rfl (fun hp98 => ?_) (fun hp98 => ?_)
                · refine z_iconst 0 rfl rfl ?_
                  exact hj36 _ (by rw [if_neg hp36, if_neg hp48, if_neg hp60, if_neg hp79, if_pos hp98])
                · refine z_iconst 1 rfl rfl ?_
                  refine z_goto rfl ?_
                  exact hj36 _ (by rw [if_neg hp36, if_neg hp48, if_neg hp60, if_neg hp79, if_neg hp98])
def r_holdLimits (post : Int32 → Mem → Prop) (S : Mem)  : Prop :=
  ∃ n, r_holdLimits_L17 post n S (if 12 < (S 148 7) then 0 else 1 : Int32) 0
set_option maxRecDepth 100000 in
set_option maxHeartbeats 1000000 in
theorem zr_holdLimits {g : Gm} {G : Gp} {S : Mem} {post : Int32 → Mem → Prop}  (hx : G.2.2.2 = false) (hG : isR G) (hw : r_holdLimits post S ) : Z g M_r_holdLimits 0 0 0 (entryL [.ref 148] (mL M_r_holdLimits)) [] (S, G) (Qi G post noEx) := by
  unfold r_holdLimits at hw
  show Z g M_r_holdLimits 0 0 0 [some (.ref 148), none, none] [] (S, G) (Qi G post noEx)
  refine z_aload_n rfl rfl ?_
  refine z_geti (ci := 7) 7 rfl hG.1 rfl w_665 ?_
  refine z_bipush 12 rfl rfl ?_
  have hj6 : ∀ v : Int32, v = (if 12 < (S 148 7) then 0 else 1 : Int32) → Z g M_r_holdLimits 0 0 14 [some (.ref 148), none, none] [.int v] (S, G) (Qi G post noEx) := by
    intro v hv
    subst hv
    refine z_istore_n [some (.ref 148), some (.int (if 12 < (S 148 7) then 0 else 1 : Int32)), none] rfl rfl rfl ?_
    refine z_iconst 0 rfl rfl ?_
    refine z_istore_n [some (.ref 148), some (.int (if 12 < (S 148 7) then 0 else 1 : Int32)), some (.int 0)] rfl rfl rfl ?_
    refine Z.forget' [some (.ref 148), some (.int (if 12 < (S 148 7) then 0 else 1 : Int32)), some (.int 0)] ⟨rfl, ⟨rfl, ⟨rfl, trivial⟩⟩⟩ ?_
    obtain ⟨n, hw⟩ := hw
    exact zr_holdLimits_L17 hx hG n hw
  refine z_icmp_gt rfl (fun hp6 => ?_) (fun hp6 => ?_)
  · refine z_iconst 0 rfl rfl ?_
    exact hj6 _ (by rw [if_pos hp6])
  · refine z_iconst 1 rfl rfl ?_
    refine z_goto rfl ?_
    exact hj6 _ (by rw [if_neg hp6])
def r_arg (post : Int32 → Mem → Prop) (S : Mem) (l1 : Int32) (l2 : Int32) : Prop :=
  (vp_in ((4 * l1) + l2) 96) ∧ post (S 150 ((4 * l1) + l2).toNatClampNeg) S
set_option maxRecDepth 100000 in
set_option maxHeartbeats 1000000 in
theorem zr_arg {g : Gm} {G : Gp} {S : Mem} {post : Int32 → Mem → Prop} {l1 : Int32} {l2 : Int32} (hx : G.2.2.2 = false) (hG : isR G) (hw : r_arg post S l1 l2) : Z g M_r_arg 0 0 0 (entryL [.ref 148, .int l1, .int l2] (mL M_r_arg)) [] (S, G) (Qi G post noEx) := by
  unfold r_arg at hw
  show Z g M_r_arg 0 0 0 [some (.ref 148), some (.int l1), some (.int l2)] [] (S, G) (Qi G post noEx)
  refine z_aload_n rfl rfl ?_
  refine z_getr (ci := 7) 3 rfl hG.1 rfl w_661 hG.2.2.2.1 ?_
  refine z_iconst 4 rfl rfl ?_
  refine z_iload_n rfl rfl ?_
  refine z_imul rfl ?_
  refine z_iload_n rfl rfl ?_
  refine z_iadd rfl ?_
  obtain ⟨hc1, hw⟩ := hw
  refine z_iald (((4 * l1) + l2).toNatClampNeg) rfl hG.2.2.2.2.1 hc1 rfl ?_
  exact z_iret rfl rfl rfl rfl (Or.inl ⟨_, _, rfl, rfl, hw⟩)
def r_make (post : Mem → Prop) (S : Mem) (l1 : Int32) : Prop :=
  (vp_in ((4 * l1) + 3) 96) ∧ 
  (vp_in ((8 * (S 148 7)) + 0) 112) ∧ ∀ S1, S1 = up2 S 154 ((8 * (S 148 7)) + 0).toNatClampNeg l1 → 
  (vp_in ((4 * l1) + 0) 96) ∧ 
  (vp_in ((8 * (S1 148 7)) + 1) 112) ∧ ∀ S2, S2 = up2 S1 154 ((8 * (S1 148 7)) + 1).toNatClampNeg (S1 150 ((4 * l1) + 0).toNatClampNeg) → 
  (vp_in ((4 * l1) + 1) 96) ∧ 
  (vp_in ((8 * (S2 148 7)) + 2) 112) ∧ ∀ S3, S3 = up2 S2 154 ((8 * (S2 148 7)) + 2).toNatClampNeg (S2 150 ((4 * l1) + 1).toNatClampNeg) → 
  (vp_in ((4 * l1) + 2) 96) ∧ 
  (vp_in ((8 * (S3 148 7)) + 3) 112) ∧ ∀ S4, S4 = up2 S3 154 ((8 * (S3 148 7)) + 3).toNatClampNeg (S3 150 ((4 * l1) + 2).toNatClampNeg) → 
  (vp_in ((8 * (S4 148 7)) + 4) 112) ∧ ∀ S5, S5 = up2 S4 154 ((8 * (S4 148 7)) + 4).toNatClampNeg ((S 150 ((4 * l1) + 3).toNatClampNeg) - (S 150 ((4 * l1) + 3).toNatClampNeg) / 128 * 128) → 
  (vp_in ((8 * (S5 148 7)) + 5) 112) ∧ ∀ S6, S6 = up2 S5 154 ((8 * (S5 148 7)) + 5).toNatClampNeg ((S 150 ((4 * l1) + 3).toNatClampNeg) / 128) → 
  (vp_in ((8 * (S6 148 7)) + 6) 112) ∧ ∀ S7, S7 = up2 S6 154 ((8 * (S6 148 7)) + 6).toNatClampNeg 0 → 
  (vp_in ((8 * (S7 148 7)) + 7) 112) ∧ ∀ S8, S8 = up2 S7 154 ((8 * (S7 148 7)) + 7).toNatClampNeg (-1) → 
  ∀ S9, S9 = up2 S8 148 7 ((S8 148 7) + 1) → post S9
set_option maxRecDepth 100000 in
set_option maxHeartbeats 1000000 in
theorem zr_make {g : Gm} {G : Gp} {S : Mem} {post : Mem → Prop} {l1 : Int32} (hx : G.2.2.2 = false) (hG : isR G) (hw : r_make post S l1) : Z g M_r_make 0 0 0 (entryL [.ref 148, .int l1] (mL M_r_make)) [] (S, G) (Qv G post noEx) := by
  unfold r_make at hw
  show Z g M_r_make 0 0 0 [some (.ref 148), some (.int l1), none] [] (S, G) (Qv G post noEx)
  refine z_aload_n rfl rfl ?_
  refine z_iload_n rfl rfl ?_
  refine z_iconst 3 rfl rfl ?_
  obtain ⟨hc1, hw⟩ := hw
  refine z_cvi (M' := M_r_arg) (post := fun v S' => (S 150 ((4 * l1) + 3).toNatClampNeg) = v ∧ S = S') [.int l1, .int 3] hx rfl w_734 cv_r_arg hG.1 (by decide) rfl rfl rfl rfl (zr_arg hx hG (⟨hc1, ⟨rfl, rfl⟩⟩)) ?_ (fun _ _ hf => hf.elim)
  rintro v S' ⟨rfl, rfl⟩
  refine z_istore_n [some (.ref 148), some (.int l1), some (.int (S 150 ((4 * l1) + 3).toNatClampNeg))] rfl rfl rfl ?_
  refine z_aload_n rfl rfl ?_
  refine z_aload_n rfl rfl ?_
  refine z_geti (ci := 7) 7 rfl hG.1 rfl w_665 ?_
  refine z_iconst 0 rfl rfl ?_
  refine z_iload_n rfl rfl ?_
  obtain ⟨hc2, hw⟩ := hw
  replace hw := hw _ rfl
  refine z_cvv (M' := M_r_put) (post := fun S' => (up2 S 154 ((8 * (S 148 7)) + 0).toNatClampNeg l1) = S') [.int (S 148 7), .int 0, .int l1] hx rfl w_774 cv_r_put hG.1 (by decide) rfl rfl rfl rfl (zr_put hx hG (⟨hc2, fun _ hS => by subst hS; exact rfl⟩)) ?_ (fun _ _ hf => hf.elim)
  rintro S' rfl
  refine z_aload_n rfl rfl ?_
  refine z_aload_n rfl rfl ?_
  refine z_geti (ci := 7) 7 rfl hG.1 rfl w_665 ?_
  refine z_iconst 1 rfl rfl ?_
  refine z_aload_n rfl rfl ?_
  refine z_iload_n rfl rfl ?_
  refine z_iconst 0 rfl rfl ?_
  obtain ⟨hc3, hw⟩ := hw
  refine z_cvi (M' := M_r_arg) (post := fun v S' => ((up2 S 154 ((8 * (S 148 7)) + 0).toNatClampNeg l1) 150 ((4 * l1) + 0).toNatClampNeg) = v ∧ (up2 S 154 ((8 * (S 148 7)) + 0).toNatClampNeg l1) = S') [.int l1, .int 0] hx rfl w_734 cv_r_arg hG.1 (by decide) rfl rfl rfl rfl (zr_arg hx hG (⟨hc3, ⟨rfl, rfl⟩⟩)) ?_ (fun _ _ hf => hf.elim)
  rintro v S' ⟨rfl, rfl⟩
  obtain ⟨hc4, hw⟩ := hw
  replace hw := hw _ rfl
  refine z_cvv (M' := M_r_put) (post := fun S' => (up2 (up2 S 154 ((8 * (S 148 7)) + 0).toNatClampNeg l1) 154 ((8 * ((up2 S 154 ((8 * (S 148 7)) + 0).toNatClampNeg l1) 148 7)) + 1).toNatClampNeg ((up2 S 154 ((8 * (S 148 7)) + 0).toNatClampNeg l1) 150 ((4 * l1) + 0).toNatClampNeg)) = S') [.int ((up2 S 154 ((8 * (S 148 7)) + 0).toNatClampNeg l1) 148 7), .int 1, .int ((up2 S 154 ((8 * (S 148 7)) + 0).toNatClampNeg l1) 150 ((4 * l1) + 0).toNatClampNeg)] hx rfl w_774 cv_r_put hG.1 (by decide) rfl rfl rfl rfl (zr_put hx hG (⟨hc4, fun _ hS => by subst hS; exact rfl⟩)) ?_ (fun _ _ hf => hf.elim)
  rintro S' rfl
  refine z_aload_n rfl rfl ?_
  refine z_aload_n rfl rfl ?_
  refine z_geti (ci := 7) 7 rfl hG.1 rfl w_665 ?_
  refine z_iconst 2 rfl rfl ?_
  refine z_aload_n rfl rfl ?_
  refine z_iload_n rfl rfl ?_
  refine z_iconst 1 rfl rfl ?_
  obtain ⟨hc5, hw⟩ := hw
  refine z_cvi (M' := M_r_arg) (post := fun v S' => ((up2 (up2 S 154 ((8 * (S 148 7)) + 0).toNatClampNeg l1) 154 ((8 * ((up2 S 154 ((8 * (S 148 7)) + 0).toNatClampNeg l1) 148 7)) + 1).toNatClampNeg ((up2 S 154 ((8 * (S 148 7)) + 0).toNatClampNeg l1) 150 ((4 * l1) + 0).toNatClampNeg)) 150 ((4 * l1) + 1).toNatClampNeg) = v ∧ (up2 (up2 S 154 ((8 * (S 148 7)) + 0).toNatClampNeg l1) 154 ((8 * ((up2 S 154 ((8 * (S 148 7)) + 0).toNatClampNeg l1) 148 7)) + 1).toNatClampNeg ((up2 S 154 ((8 * (S 148 7)) + 0).toNatClampNeg l1) 150 ((4 * l1) + 0).toNatClampNeg)) = S') [.int l1, .int 1] hx rfl w_734 cv_r_arg hG.1 (by decide) rfl rfl rfl rfl (zr_arg hx hG (⟨hc5, ⟨rfl, rfl⟩⟩)) ?_ (fun _ _ hf => hf.elim)
  rintro v S' ⟨rfl, rfl⟩
  obtain ⟨hc6, hw⟩ := hw
  replace hw := hw _ rfl
  refine z_cvv (M' := M_r_put) (post := fun S' => (up2 (up2 (up2 S 154 ((8 * (S 148 7)) + 0).toNatClampNeg l1) 154 ((8 * ((up2 S 154 ((8 * (S 148 7)) + 0).toNatClampNeg l1) 148 7)) + 1).toNatClampNeg ((up2 S 154 ((8 * (S 148 7)) + 0).toNatClampNeg l1) 150 ((4 * l1) + 0).toNatClampNeg)) 154 ((8 * ((up2 (up2 S 154 ((8 * (S 148 7)) + 0).toNatClampNeg l1) 154 ((8 * ((up2 S 154 ((8 * (S 148 7)) + 0).toNatClampNeg l1) 148 7)) + 1).toNatClampNeg ((up2 S 154 ((8 * (S 148 7)) + 0).toNatClampNeg l1) 150 ((4 * l1) + 0).toNatClampNeg)) 148 7)) + 2).toNatClampNeg ((up2 (up2 S 154 ((8 * (S 148 7)) + 0).toNatClampNeg l1) 154 ((8 * ((up2 S 154 ((8 * (S 148 7)) + 0).toNatClampNeg l1) 148 7)) + 1).toNatClampNeg ((up2 S 154 ((8 * (S 148 7)) + 0).toNatClampNeg l1) 150 ((4 * l1) + 0).toNatClampNeg)) 150 ((4 * l1) + 1).toNatClampNeg)) = S') [.int ((up2 (up2 S 154 ((8 * (S 148 7)) + 0).toNatClampNeg l1) 154 ((8 * ((up2 S 154 ((8 * (S 148 7)) + 0).toNatClampNeg l1) 148 7)) + 1).toNatClampNeg ((up2 S 154 ((8 * (S 148 7)) + 0).toNatClampNeg l1) 150 ((4 * l1) + 0).toNatClampNeg)) 148 7), .int 2, .int ((up2 (up2 S 154 ((8 * (S 148 7)) + 0).toNatClampNeg l1) 154 ((8 * ((up2 S 154 ((8 * (S 148 7)) + 0).toNatClampNeg l1) 148 7)) + 1).toNatClampNeg ((up2 S 154 ((8 * (S 148 7)) + 0).toNatClampNeg l1) 150 ((4 * l1) + 0).toNatClampNeg)) 150 ((4 * l1) + 1).toNatClampNeg)] hx rfl w_774 cv_r_put hG.1 (by decide) rfl rfl rfl rfl (zr_put hx hG (⟨hc6, fun _ hS => by subst hS; exact rfl⟩)) ?_ (fun _ _ hf => hf.elim)
  rintro S' rfl
  refine z_aload_n rfl rfl ?_
  refine z_aload_n rfl rfl ?_
  refine z_geti (ci := 7) 7 rfl hG.1 rfl w_665 ?_
  refine z_iconst 3 rfl rfl ?_
  refine z_aload_n rfl rfl ?_
  refine z_iload_n rfl rfl ?_
  refine z_iconst 2 rfl rfl ?_
  obtain ⟨hc7, hw⟩ := hw
  refine z_cvi (M' := M_r_arg) (post := fun v S' => ((up2 (up2 (up2 S 154 ((8 * (S 148 7)) + 0).toNatClampNeg l1) 154 ((8 * ((up2 S 154 ((8 * (S 148 7)) + 0).toNatClampNeg l1) 148 7)) + 1).toNatClampNeg ((up2 S 154 ((8 * (S 148 7)) + 0).toNatClampNeg l1) 150 ((4 * l1) + 0).toNatClampNeg)) 154 ((8 * ((up2 (up2 S 154 ((8 * (S 148 7)) + 0).toNatClampNeg l1) 154 ((8 * ((up2 S 154 ((8 * (S 148 7)) + 0).toNatClampNeg l1) 148 7)) + 1).toNatClampNeg ((up2 S 154 ((8 * (S 148 7)) + 0).toNatClampNeg l1) 150 ((4 * l1) + 0).toNatClampNeg)) 148 7)) + 2).toNatClampNeg ((up2 (up2 S 154 ((8 * (S 148 7)) + 0).toNatClampNeg l1) 154 ((8 * ((up2 S 154 ((8 * (S 148 7)) + 0).toNatClampNeg l1) 148 7)) + 1).toNatClampNeg ((up2 S 154 ((8 * (S 148 7)) + 0).toNatClampNeg l1) 150 ((4 * l1) + 0).toNatClampNeg)) 150 ((4 * l1) + 1).toNatClampNeg)) 150 ((4 * l1) + 2).toNatClampNeg) = v ∧ (up2 (up2 (up2 S 154 ((8 * (S 148 7)) + 0).toNatClampNeg l1) 154 ((8 * ((up2 S 154 ((8 * (S 148 7)) + 0).toNatClampNeg l1) 148 7)) + 1).toNatClampNeg ((up2 S 154 ((8 * (S 148 7)) + 0).toNatClampNeg l1) 150 ((4 * l1) + 0).toNatClampNeg)) 154 ((8 * ((up2 (up2 S 154 ((8 * (S 148 7)) + 0).toNatClampNeg l1) 154 ((8 * ((up2 S 154 ((8 * (S 148 7)) + 0).toNatClampNeg l1) 148 7)) + 1).toNatClampNeg ((up2 S 154 ((8 * (S 148 7)) + 0).toNatClampNeg l1) 150 ((4 * l1) + 0).toNatClampNeg)) 148 7)) + 2).toNatClampNeg ((up2 (up2 S 154 ((8 * (S 148 7)) + 0).toNatClampNeg l1) 154 ((8 * ((up2 S 154 ((8 * (S 148 7)) + 0).toNatClampNeg l1) 148 7)) + 1).toNatClampNeg ((up2 S 154 ((8 * (S 148 7)) + 0).toNatClampNeg l1) 150 ((4 * l1) + 0).toNatClampNeg)) 150 ((4 * l1) + 1).toNatClampNeg)) = S') [.int l1, .int 2] hx rfl w_734 cv_r_arg hG.1 (by decide) rfl rfl rfl rfl (zr_arg hx hG (⟨hc7, ⟨rfl, rfl⟩⟩)) ?_ (fun _ _ hf => hf.elim)
  rintro v S' ⟨rfl, rfl⟩
  obtain ⟨hc8, hw⟩ := hw
  replace hw := hw _ rfl
  refine z_cvv (M' := M_r_put) (post := fun S' => (up2 (up2 (up2 (up2 S 154 ((8 * (S 148 7)) + 0).toNatClampNeg l1) 154 ((8 * ((up2 S 154 ((8 * (S 148 7)) + 0).toNatClampNeg l1) 148 7)) + 1).toNatClampNeg ((up2 S 154 ((8 * (S 148 7)) + 0).toNatClampNeg l1) 150 ((4 * l1) + 0).toNatClampNeg)) 154 ((8 * ((up2 (up2 S 154 ((8 * (S 148 7)) + 0).toNatClampNeg l1) 154 ((8 * ((up2 S 154 ((8 * (S 148 7)) + 0).toNatClampNeg l1) 148 7)) + 1).toNatClampNeg ((up2 S 154 ((8 * (S 148 7)) + 0).toNatClampNeg l1) 150 ((4 * l1) + 0).toNatClampNeg)) 148 7)) + 2).toNatClampNeg ((up2 (up2 S 154 ((8 * (S 148 7)) + 0).toNatClampNeg l1) 154 ((8 * ((up2 S 154 ((8 * (S 148 7)) + 0).toNatClampNeg l1) 148 7)) + 1).toNatClampNeg ((up2 S 154 ((8 * (S 148 7)) + 0).toNatClampNeg l1) 150 ((4 * l1) + 0).toNatClampNeg)) 150 ((4 * l1) + 1).toNatClampNeg)) 154 ((8 * ((up2 (up2 (up2 S 154 ((8 * (S 148 7)) + 0).toNatClampNeg l1) 154 ((8 * ((up2 S 154 ((8 * (S 148 7)) + 0).toNatClampNeg l1) 148 7)) + 1).toNatClampNeg ((up2 S 154 ((8 * (S 148 7)) + 0).toNatClampNeg l1) 150 ((4 * l1) + 0).toNatClampNeg)) 154 ((8 * ((up2 (up2 S 154 ((8 * (S 148 7)) + 0).toNatClampNeg l1) 154 ((8 * ((up2 S 154 ((8 * (S 148 7)) + 0).toNatClampNeg l1) 148 7)) + 1).toNatClampNeg ((up2 S 154 ((8 * (S 148 7)) + 0).toNatClampNeg l1) 150 ((4 * l1) + 0).toNatClampNeg)) 148 7)) + 2).toNatClampNeg ((up2 (up2 S 154 ((8 * (S 148 7)) + 0).toNatClampNeg l1) 154 ((8 * ((up2 S 154 ((8 * (S 148 7)) + 0).toNatClampNeg l1) 148 7)) + 1).toNatClampNeg ((up2 S 154 ((8 * (S 148 7)) + 0).toNatClampNeg l1) 150 ((4 * l1) + 0).toNatClampNeg)) 150 ((4 * l1) + 1).toNatClampNeg)) 148 7)) + 3).toNatClampNeg ((up2 (up2 (up2 S 154 ((8 * (S 148 7)) + 0).toNatClampNeg l1) 154 ((8 * ((up2 S 154 ((8 * (S 148 7)) + 0).toNatClampNeg l1) 148 7)) + 1).toNatClampNeg ((up2 S 154 ((8 * (S 148 7)) + 0).toNatClampNeg l1) 150 ((4 * l1) + 0).toNatClampNeg)) 154 ((8 * ((up2 (up2 S 154 ((8 * (S 148 7)) + 0).toNatClampNeg l1) 154 ((8 * ((up2 S 154 ((8 * (S 148 7)) + 0).toNatClampNeg l1) 148 7)) + 1).toNatClampNeg ((up2 S 154 ((8 * (S 148 7)) + 0).toNatClampNeg l1) 150 ((4 * l1) + 0).toNatClampNeg)) 148 7)) + 2).toNatClampNeg ((up2 (up2 S 154 ((8 * (S 148 7)) + 0).toNatClampNeg l1) 154 ((8 * ((up2 S 154 ((8 * (S 148 7)) + 0).toNatClampNeg l1) 148 7)) + 1).toNatClampNeg ((up2 S 154 ((8 * (S 148 7)) + 0).toNatClampNeg l1) 150 ((4 * l1) + 0).toNatClampNeg)) 150 ((4 * l1) + 1).toNatClampNeg)) 150 ((4 * l1) + 2).toNatClampNeg)) = S') [.int ((up2 (up2 (up2 S 154 ((8 * (S 148 7)) + 0).toNatClampNeg l1) 154 ((8 * ((up2 S 154 ((8 * (S 148 7)) + 0).toNatClampNeg l1) 148 7)) + 1).toNatClampNeg ((up2 S 154 ((8 * (S 148 7)) + 0).toNatClampNeg l1) 150 ((4 * l1) + 0).toNatClampNeg)) 154 ((8 * ((up2 (up2 S 154 ((8 * (S 148 7)) + 0).toNatClampNeg l1) 154 ((8 * ((up2 S 154 ((8 * (S 148 7)) + 0).toNatClampNeg l1) 148 7)) + 1).toNatClampNeg ((up2 S 154 ((8 * (S 148 7)) + 0).toNatClampNeg l1) 150 ((4 * l1) + 0).toNatClampNeg)) 148 7)) + 2).toNatClampNeg ((up2 (up2 S 154 ((8 * (S 148 7)) + 0).toNatClampNeg l1) 154 ((8 * ((up2 S 154 ((8 * (S 148 7)) + 0).toNatClampNeg l1) 148 7)) + 1).toNatClampNeg ((up2 S 154 ((8 * (S 148 7)) + 0).toNatClampNeg l1) 150 ((4 * l1) + 0).toNatClampNeg)) 150 ((4 * l1) + 1).toNatClampNeg)) 148 7), .int 3, .int ((up2 (up2 (up2 S 154 ((8 * (S 148 7)) + 0).toNatClampNeg l1) 154 ((8 * ((up2 S 154 ((8 * (S 148 7)) + 0).toNatClampNeg l1) 148 7)) + 1).toNatClampNeg ((up2 S 154 ((8 * (S 148 7)) + 0).toNatClampNeg l1) 150 ((4 * l1) + 0).toNatClampNeg)) 154 ((8 * ((up2 (up2 S 154 ((8 * (S 148 7)) + 0).toNatClampNeg l1) 154 ((8 * ((up2 S 154 ((8 * (S 148 7)) + 0).toNatClampNeg l1) 148 7)) + 1).toNatClampNeg ((up2 S 154 ((8 * (S 148 7)) + 0).toNatClampNeg l1) 150 ((4 * l1) + 0).toNatClampNeg)) 148 7)) + 2).toNatClampNeg ((up2 (up2 S 154 ((8 * (S 148 7)) + 0).toNatClampNeg l1) 154 ((8 * ((up2 S 154 ((8 * (S 148 7)) + 0).toNatClampNeg l1) 148 7)) + 1).toNatClampNeg ((up2 S 154 ((8 * (S 148 7)) + 0).toNatClampNeg l1) 150 ((4 * l1) + 0).toNatClampNeg)) 150 ((4 * l1) + 1).toNatClampNeg)) 150 ((4 * l1) + 2).toNatClampNeg)] hx rfl w_774 cv_r_put hG.1 (by decide) rfl rfl rfl rfl (zr_put hx hG (⟨hc8, fun _ hS => by subst hS; exact rfl⟩)) ?_ (fun _ _ hf => hf.elim)
  rintro S' rfl
  refine z_aload_n rfl rfl ?_
  refine z_aload_n rfl rfl ?_
  refine z_geti (ci := 7) 7 rfl hG.1 rfl w_665 ?_
  refine z_iconst 4 rfl rfl ?_
  refine z_iload_n rfl rfl ?_
  refine z_sipush 128 rfl rfl ?_
  refine z_irem rfl (by decide) ?_
  obtain ⟨hc9, hw⟩ := hw
  replace hw := hw _ rfl
  refine z_cvv (M' := M_r_put) (post := fun S' => (up2 (up2 (up2 (up2 (up2 S 154 ((8 * (S 148 7)) + 0).toNatClampNeg l1) 154 ((8 * ((up2 S 154 ((8 * (S 148 7)) + 0).toNatClampNeg l1) 148 7)) + 1).toNatClampNeg ((up2 S 154 ((8 * (S 148 7)) + 0).toNatClampNeg l1) 150 ((4 * l1) + 0).toNatClampNeg)) 154 ((8 * ((up2 (up2 S 154 ((8 * (S 148 7)) + 0).toNatClampNeg l1) 154 ((8 * ((up2 S 154 ((8 * (S 148 7)) + 0).toNatClampNeg l1) 148 7)) + 1).toNatClampNeg ((up2 S 154 ((8 * (S 148 7)) + 0).toNatClampNeg l1) 150 ((4 * l1) + 0).toNatClampNeg)) 148 7)) + 2).toNatClampNeg ((up2 (up2 S 154 ((8 * (S 148 7)) + 0).toNatClampNeg l1) 154 ((8 * ((up2 S 154 ((8 * (S 148 7)) + 0).toNatClampNeg l1) 148 7)) + 1).toNatClampNeg ((up2 S 154 ((8 * (S 148 7)) + 0).toNatClampNeg l1) 150 ((4 * l1) + 0).toNatClampNeg)) 150 ((4 * l1) + 1).toNatClampNeg)) 154 ((8 * ((up2 (up2 (up2 S 154 ((8 * (S 148 7)) + 0).toNatClampNeg l1) 154 ((8 * ((up2 S 154 ((8 * (S 148 7)) + 0).toNatClampNeg l1) 148 7)) + 1).toNatClampNeg ((up2 S 154 ((8 * (S 148 7)) + 0).toNatClampNeg l1) 150 ((4 * l1) + 0).toNatClampNeg)) 154 ((8 * ((up2 (up2 S 154 ((8 * (S 148 7)) + 0).toNatClampNeg l1) 154 ((8 * ((up2 S 154 ((8 * (S 148 7)) + 0).toNatClampNeg l1) 148 7)) + 1).toNatClampNeg ((up2 S 154 ((8 * (S 148 7)) + 0).toNatClampNeg l1) 150 ((4 * l1) + 0).toNatClampNeg)) 148 7)) + 2).toNatClampNeg ((up2 (up2 S 154 ((8 * (S 148 7)) + 0).toNatClampNeg l1) 154 ((8 * ((up2 S 154 ((8 * (S 148 7)) + 0).toNatClampNeg l1) 148 7)) + 1).toNatClampNeg ((up2 S 154 ((8 * (S 148 7)) + 0).toNatClampNeg l1) 150 ((4 * l1) + 0).toNatClampNeg)) 150 ((4 * l1) + 1).toNatClampNeg)) 148 7)) + 3).toNatClampNeg ((up2 (up2 (up2 S 154 ((8 * (S 148 7)) + 0).toNatClampNeg l1) 154 ((8 * ((up2 S 154 ((8 * (S 148 7)) + 0).toNatClampNeg l1) 148 7)) + 1).toNatClampNeg ((up2 S 154 ((8 * (S 148 7)) + 0).toNatClampNeg l1) 150 ((4 * l1) + 0).toNatClampNeg)) 154 ((8 * ((up2 (up2 S 154 ((8 * (S 148 7)) + 0).toNatClampNeg l1) 154 ((8 * ((up2 S 154 ((8 * (S 148 7)) + 0).toNatClampNeg l1) 148 7)) + 1).toNatClampNeg ((up2 S 154 ((8 * (S 148 7)) + 0).toNatClampNeg l1) 150 ((4 * l1) + 0).toNatClampNeg)) 148 7)) + 2).toNatClampNeg ((up2 (up2 S 154 ((8 * (S 148 7)) + 0).toNatClampNeg l1) 154 ((8 * ((up2 S 154 ((8 * (S 148 7)) + 0).toNatClampNeg l1) 148 7)) + 1).toNatClampNeg ((up2 S 154 ((8 * (S 148 7)) + 0).toNatClampNeg l1) 150 ((4 * l1) + 0).toNatClampNeg)) 150 ((4 * l1) + 1).toNatClampNeg)) 150 ((4 * l1) + 2).toNatClampNeg)) 154 ((8 * ((up2 (up2 (up2 (up2 S 154 ((8 * (S 148 7)) + 0).toNatClampNeg l1) 154 ((8 * ((up2 S 154 ((8 * (S 148 7)) + 0).toNatClampNeg l1) 148 7)) + 1).toNatClampNeg ((up2 S 154 ((8 * (S 148 7)) + 0).toNatClampNeg l1) 150 ((4 * l1) + 0).toNatClampNeg)) 154 ((8 * ((up2 (up2 S 154 ((8 * (S 148 7)) + 0).toNatClampNeg l1) 154 ((8 * ((up2 S 154 ((8 * (S 148 7)) + 0).toNatClampNeg l1) 148 7)) + 1).toNatClampNeg ((up2 S 154 ((8 * (S 148 7)) + 0).toNatClampNeg l1) 150 ((4 * l1) + 0).toNatClampNeg)) 148 7)) + 2).toNatClampNeg ((up2 (up2 S 154 ((8 * (S 148 7)) + 0).toNatClampNeg l1) 154 ((8 * ((up2 S 154 ((8 * (S 148 7)) + 0).toNatClampNeg l1) 148 7)) + 1).toNatClampNeg ((up2 S 154 ((8 * (S 148 7)) + 0).toNatClampNeg l1) 150 ((4 * l1) + 0).toNatClampNeg)) 150 ((4 * l1) + 1).toNatClampNeg)) 154 ((8 * ((up2 (up2 (up2 S 154 ((8 * (S 148 7)) + 0).toNatClampNeg l1) 154 ((8 * ((up2 S 154 ((8 * (S 148 7)) + 0).toNatClampNeg l1) 148 7)) + 1).toNatClampNeg ((up2 S 154 ((8 * (S 148 7)) + 0).toNatClampNeg l1) 150 ((4 * l1) + 0).toNatClampNeg)) 154 ((8 * ((up2 (up2 S 154 ((8 * (S 148 7)) + 0).toNatClampNeg l1) 154 ((8 * ((up2 S 154 ((8 * (S 148 7)) + 0).toNatClampNeg l1) 148 7)) + 1).toNatClampNeg ((up2 S 154 ((8 * (S 148 7)) + 0).toNatClampNeg l1) 150 ((4 * l1) + 0).toNatClampNeg)) 148 7)) + 2).toNatClampNeg ((up2 (up2 S 154 ((8 * (S 148 7)) + 0).toNatClampNeg l1) 154 ((8 * ((up2 S 154 ((8 * (S 148 7)) + 0).toNatClampNeg l1) 148 7)) + 1).toNatClampNeg ((up2 S 154 ((8 * (S 148 7)) + 0).toNatClampNeg l1) 150 ((4 * l1) + 0).toNatClampNeg)) 150 ((4 * l1) + 1).toNatClampNeg)) 148 7)) + 3).toNatClampNeg ((up2 (up2 (up2 S 154 ((8 * (S 148 7)) + 0).toNatClampNeg l1) 154 ((8 * ((up2 S 154 ((8 * (S 148 7)) + 0).toNatClampNeg l1) 148 7)) + 1).toNatClampNeg ((up2 S 154 ((8 * (S 148 7)) + 0).toNatClampNeg l1) 150 ((4 * l1) + 0).toNatClampNeg)) 154 ((8 * ((up2 (up2 S 154 ((8 * (S 148 7)) + 0).toNatClampNeg l1) 154 ((8 * ((up2 S 154 ((8 * (S 148 7)) + 0).toNatClampNeg l1) 148 7)) + 1).toNatClampNeg ((up2 S 154 ((8 * (S 148 7)) + 0).toNatClampNeg l1) 150 ((4 * l1) + 0).toNatClampNeg)) 148 7)) + 2).toNatClampNeg ((up2 (up2 S 154 ((8 * (S 148 7)) + 0).toNatClampNeg l1) 154 ((8 * ((up2 S 154 ((8 * (S 148 7)) + 0).toNatClampNeg l1) 148 7)) + 1).toNatClampNeg ((up2 S 154 ((8 * (S 148 7)) + 0).toNatClampNeg l1) 150 ((4 * l1) + 0).toNatClampNeg)) 150 ((4 * l1) + 1).toNatClampNeg)) 150 ((4 * l1) + 2).toNatClampNeg)) 148 7)) + 4).toNatClampNeg ((S 150 ((4 * l1) + 3).toNatClampNeg) - (S 150 ((4 * l1) + 3).toNatClampNeg) / 128 * 128)) = S') [.int ((up2 (up2 (up2 (up2 S 154 ((8 * (S 148 7)) + 0).toNatClampNeg l1) 154 ((8 * ((up2 S 154 ((8 * (S 148 7)) + 0).toNatClampNeg l1) 148 7)) + 1).toNatClampNeg ((up2 S 154 ((8 * (S 148 7)) + 0).toNatClampNeg l1) 150 ((4 * l1) + 0).toNatClampNeg)) 154 ((8 * ((up2 (up2 S 154 ((8 * (S 148 7)) + 0).toNatClampNeg l1) 154 ((8 * ((up2 S 154 ((8 * (S 148 7)) + 0).toNatClampNeg l1) 148 7)) + 1).toNatClampNeg ((up2 S 154 ((8 * (S 148 7)) + 0).toNatClampNeg l1) 150 ((4 * l1) + 0).toNatClampNeg)) 148 7)) + 2).toNatClampNeg ((up2 (up2 S 154 ((8 * (S 148 7)) + 0).toNatClampNeg l1) 154 ((8 * ((up2 S 154 ((8 * (S 148 7)) + 0).toNatClampNeg l1) 148 7)) + 1).toNatClampNeg ((up2 S 154 ((8 * (S 148 7)) + 0).toNatClampNeg l1) 150 ((4 * l1) + 0).toNatClampNeg)) 150 ((4 * l1) + 1).toNatClampNeg)) 154 ((8 * ((up2 (up2 (up2 S 154 ((8 * (S 148 7)) + 0).toNatClampNeg l1) 154 ((8 * ((up2 S 154 ((8 * (S 148 7)) + 0).toNatClampNeg l1) 148 7)) + 1).toNatClampNeg ((up2 S 154 ((8 * (S 148 7)) + 0).toNatClampNeg l1) 150 ((4 * l1) + 0).toNatClampNeg)) 154 ((8 * ((up2 (up2 S 154 ((8 * (S 148 7)) + 0).toNatClampNeg l1) 154 ((8 * ((up2 S 154 ((8 * (S 148 7)) + 0).toNatClampNeg l1) 148 7)) + 1).toNatClampNeg ((up2 S 154 ((8 * (S 148 7)) + 0).toNatClampNeg l1) 150 ((4 * l1) + 0).toNatClampNeg)) 148 7)) + 2).toNatClampNeg ((up2 (up2 S 154 ((8 * (S 148 7)) + 0).toNatClampNeg l1) 154 ((8 * ((up2 S 154 ((8 * (S 148 7)) + 0).toNatClampNeg l1) 148 7)) + 1).toNatClampNeg ((up2 S 154 ((8 * (S 148 7)) + 0).toNatClampNeg l1) 150 ((4 * l1) + 0).toNatClampNeg)) 150 ((4 * l1) + 1).toNatClampNeg)) 148 7)) + 3).toNatClampNeg ((up2 (up2 (up2 S 154 ((8 * (S 148 7)) + 0).toNatClampNeg l1) 154 ((8 * ((up2 S 154 ((8 * (S 148 7)) + 0).toNatClampNeg l1) 148 7)) + 1).toNatClampNeg ((up2 S 154 ((8 * (S 148 7)) + 0).toNatClampNeg l1) 150 ((4 * l1) + 0).toNatClampNeg)) 154 ((8 * ((up2 (up2 S 154 ((8 * (S 148 7)) + 0).toNatClampNeg l1) 154 ((8 * ((up2 S 154 ((8 * (S 148 7)) + 0).toNatClampNeg l1) 148 7)) + 1).toNatClampNeg ((up2 S 154 ((8 * (S 148 7)) + 0).toNatClampNeg l1) 150 ((4 * l1) + 0).toNatClampNeg)) 148 7)) + 2).toNatClampNeg ((up2 (up2 S 154 ((8 * (S 148 7)) + 0).toNatClampNeg l1) 154 ((8 * ((up2 S 154 ((8 * (S 148 7)) + 0).toNatClampNeg l1) 148 7)) + 1).toNatClampNeg ((up2 S 154 ((8 * (S 148 7)) + 0).toNatClampNeg l1) 150 ((4 * l1) + 0).toNatClampNeg)) 150 ((4 * l1) + 1).toNatClampNeg)) 150 ((4 * l1) + 2).toNatClampNeg)) 148 7), .int 4, .int ((S 150 ((4 * l1) + 3).toNatClampNeg) - (S 150 ((4 * l1) + 3).toNatClampNeg) / 128 * 128)] hx rfl w_774 cv_r_put hG.1 (by decide) rfl rfl rfl rfl (zr_put hx hG (⟨hc9, fun _ hS => by subst hS; exact rfl⟩)) ?_ (fun _ _ hf => hf.elim)
  rintro S' rfl
  refine z_aload_n rfl rfl ?_
  refine z_aload_n rfl rfl ?_
  refine z_geti (ci := 7) 7 rfl hG.1 rfl w_665 ?_
  refine z_iconst 5 rfl rfl ?_
  refine z_iload_n rfl rfl ?_
  refine z_sipush 128 rfl rfl ?_
  refine z_idiv rfl (by decide) ?_
  obtain ⟨hc10, hw⟩ := hw
  replace hw := hw _ rfl
  refine z_cvv (M' := M_r_put) (post := fun S' => (up2 (up2 (up2 (up2 (up2 (up2 S 154 ((8 * (S 148 7)) + 0).toNatClampNeg l1) 154 ((8 * ((up2 S 154 ((8 * (S 148 7)) + 0).toNatClampNeg l1) 148 7)) + 1).toNatClampNeg ((up2 S 154 ((8 * (S 148 7)) + 0).toNatClampNeg l1) 150 ((4 * l1) + 0).toNatClampNeg)) 154 ((8 * ((up2 (up2 S 154 ((8 * (S 148 7)) + 0).toNatClampNeg l1) 154 ((8 * ((up2 S 154 ((8 * (S 148 7)) + 0).toNatClampNeg l1) 148 7)) + 1).toNatClampNeg ((up2 S 154 ((8 * (S 148 7)) + 0).toNatClampNeg l1) 150 ((4 * l1) + 0).toNatClampNeg)) 148 7)) + 2).toNatClampNeg ((up2 (up2 S 154 ((8 * (S 148 7)) + 0).toNatClampNeg l1) 154 ((8 * ((up2 S 154 ((8 * (S 148 7)) + 0).toNatClampNeg l1) 148 7)) + 1).toNatClampNeg ((up2 S 154 ((8 * (S 148 7)) + 0).toNatClampNeg l1) 150 ((4 * l1) + 0).toNatClampNeg)) 150 ((4 * l1) + 1).toNatClampNeg)) 154 ((8 * ((up2 (up2 (up2 S 154 ((8 * (S 148 7)) + 0).toNatClampNeg l1) 154 ((8 * ((up2 S 154 ((8 * (S 148 7)) + 0).toNatClampNeg l1) 148 7)) + 1).toNatClampNeg ((up2 S 154 ((8 * (S 148 7)) + 0).toNatClampNeg l1) 150 ((4 * l1) + 0).toNatClampNeg)) 154 ((8 * ((up2 (up2 S 154 ((8 * (S 148 7)) + 0).toNatClampNeg l1) 154 ((8 * ((up2 S 154 ((8 * (S 148 7)) + 0).toNatClampNeg l1) 148 7)) + 1).toNatClampNeg ((up2 S 154 ((8 * (S 148 7)) + 0).toNatClampNeg l1) 150 ((4 * l1) + 0).toNatClampNeg)) 148 7)) + 2).toNatClampNeg ((up2 (up2 S 154 ((8 * (S 148 7)) + 0).toNatClampNeg l1) 154 ((8 * ((up2 S 154 ((8 * (S 148 7)) + 0).toNatClampNeg l1) 148 7)) + 1).toNatClampNeg ((up2 S 154 ((8 * (S 148 7)) + 0).toNatClampNeg l1) 150 ((4 * l1) + 0).toNatClampNeg)) 150 ((4 * l1) + 1).toNatClampNeg)) 148 7)) + 3).toNatClampNeg ((up2 (up2 (up2 S 154 ((8 * (S 148 7)) + 0).toNatClampNeg l1) 154 ((8 * ((up2 S 154 ((8 * (S 148 7)) + 0).toNatClampNeg l1) 148 7)) + 1).toNatClampNeg ((up2 S 154 ((8 * (S 148 7)) + 0).toNatClampNeg l1) 150 ((4 * l1) + 0).toNatClampNeg)) 154 ((8 * ((up2 (up2 S 154 ((8 * (S 148 7)) + 0).toNatClampNeg l1) 154 ((8 * ((up2 S 154 ((8 * (S 148 7)) + 0).toNatClampNeg l1) 148 7)) + 1).toNatClampNeg ((up2 S 154 ((8 * (S 148 7)) + 0).toNatClampNeg l1) 150 ((4 * l1) + 0).toNatClampNeg)) 148 7)) + 2).toNatClampNeg ((up2 (up2 S 154 ((8 * (S 148 7)) + 0).toNatClampNeg l1) 154 ((8 * ((up2 S 154 ((8 * (S 148 7)) + 0).toNatClampNeg l1) 148 7)) + 1).toNatClampNeg ((up2 S 154 ((8 * (S 148 7)) + 0).toNatClampNeg l1) 150 ((4 * l1) + 0).toNatClampNeg)) 150 ((4 * l1) + 1).toNatClampNeg)) 150 ((4 * l1) + 2).toNatClampNeg)) 154 ((8 * ((up2 (up2 (up2 (up2 S 154 ((8 * (S 148 7)) + 0).toNatClampNeg l1) 154 ((8 * ((up2 S 154 ((8 * (S 148 7)) + 0).toNatClampNeg l1) 148 7)) + 1).toNatClampNeg ((up2 S 154 ((8 * (S 148 7)) + 0).toNatClampNeg l1) 150 ((4 * l1) + 0).toNatClampNeg)) 154 ((8 * ((up2 (up2 S 154 ((8 * (S 148 7)) + 0).toNatClampNeg l1) 154 ((8 * ((up2 S 154 ((8 * (S 148 7)) + 0).toNatClampNeg l1) 148 7)) + 1).toNatClampNeg ((up2 S 154 ((8 * (S 148 7)) + 0).toNatClampNeg l1) 150 ((4 * l1) + 0).toNatClampNeg)) 148 7)) + 2).toNatClampNeg ((up2 (up2 S 154 ((8 * (S 148 7)) + 0).toNatClampNeg l1) 154 ((8 * ((up2 S 154 ((8 * (S 148 7)) + 0).toNatClampNeg l1) 148 7)) + 1).toNatClampNeg ((up2 S 154 ((8 * (S 148 7)) + 0).toNatClampNeg l1) 150 ((4 * l1) + 0).toNatClampNeg)) 150 ((4 * l1) + 1).toNatClampNeg)) 154 ((8 * ((up2 (up2 (up2 S 154 ((8 * (S 148 7)) + 0).toNatClampNeg l1) 154 ((8 * ((up2 S 154 ((8 * (S 148 7)) + 0).toNatClampNeg l1) 148 7)) + 1).toNatClampNeg ((up2 S 154 ((8 * (S 148 7)) + 0).toNatClampNeg l1) 150 ((4 * l1) + 0).toNatClampNeg)) 154 ((8 * ((up2 (up2 S 154 ((8 * (S 148 7)) + 0).toNatClampNeg l1) 154 ((8 * ((up2 S 154 ((8 * (S 148 7)) + 0).toNatClampNeg l1) 148 7)) + 1).toNatClampNeg ((up2 S 154 ((8 * (S 148 7)) + 0).toNatClampNeg l1) 150 ((4 * l1) + 0).toNatClampNeg)) 148 7)) + 2).toNatClampNeg ((up2 (up2 S 154 ((8 * (S 148 7)) + 0).toNatClampNeg l1) 154 ((8 * ((up2 S 154 ((8 * (S 148 7)) + 0).toNatClampNeg l1) 148 7)) + 1).toNatClampNeg ((up2 S 154 ((8 * (S 148 7)) + 0).toNatClampNeg l1) 150 ((4 * l1) + 0).toNatClampNeg)) 150 ((4 * l1) + 1).toNatClampNeg)) 148 7)) + 3).toNatClampNeg ((up2 (up2 (up2 S 154 ((8 * (S 148 7)) + 0).toNatClampNeg l1) 154 ((8 * ((up2 S 154 ((8 * (S 148 7)) + 0).toNatClampNeg l1) 148 7)) + 1).toNatClampNeg ((up2 S 154 ((8 * (S 148 7)) + 0).toNatClampNeg l1) 150 ((4 * l1) + 0).toNatClampNeg)) 154 ((8 * ((up2 (up2 S 154 ((8 * (S 148 7)) + 0).toNatClampNeg l1) 154 ((8 * ((up2 S 154 ((8 * (S 148 7)) + 0).toNatClampNeg l1) 148 7)) + 1).toNatClampNeg ((up2 S 154 ((8 * (S 148 7)) + 0).toNatClampNeg l1) 150 ((4 * l1) + 0).toNatClampNeg)) 148 7)) + 2).toNatClampNeg ((up2 (up2 S 154 ((8 * (S 148 7)) + 0).toNatClampNeg l1) 154 ((8 * ((up2 S 154 ((8 * (S 148 7)) + 0).toNatClampNeg l1) 148 7)) + 1).toNatClampNeg ((up2 S 154 ((8 * (S 148 7)) + 0).toNatClampNeg l1) 150 ((4 * l1) + 0).toNatClampNeg)) 150 ((4 * l1) + 1).toNatClampNeg)) 150 ((4 * l1) + 2).toNatClampNeg)) 148 7)) + 4).toNatClampNeg ((S 150 ((4 * l1) + 3).toNatClampNeg) - (S 150 ((4 * l1) + 3).toNatClampNeg) / 128 * 128)) 154 ((8 * ((up2 (up2 (up2 (up2 (up2 S 154 ((8 * (S 148 7)) + 0).toNatClampNeg l1) 154 ((8 * ((up2 S 154 ((8 * (S 148 7)) + 0).toNatClampNeg l1) 148 7)) + 1).toNatClampNeg ((up2 S 154 ((8 * (S 148 7)) + 0).toNatClampNeg l1) 150 ((4 * l1) + 0).toNatClampNeg)) 154 ((8 * ((up2 (up2 S 154 ((8 * (S 148 7)) + 0).toNatClampNeg l1) 154 ((8 * ((up2 S 154 ((8 * (S 148 7)) + 0).toNatClampNeg l1) 148 7)) + 1).toNatClampNeg ((up2 S 154 ((8 * (S 148 7)) + 0).toNatClampNeg l1) 150 ((4 * l1) + 0).toNatClampNeg)) 148 7)) + 2).toNatClampNeg ((up2 (up2 S 154 ((8 * (S 148 7)) + 0).toNatClampNeg l1) 154 ((8 * ((up2 S 154 ((8 * (S 148 7)) + 0).toNatClampNeg l1) 148 7)) + 1).toNatClampNeg ((up2 S 154 ((8 * (S 148 7)) + 0).toNatClampNeg l1) 150 ((4 * l1) + 0).toNatClampNeg)) 150 ((4 * l1) + 1).toNatClampNeg)) 154 ((8 * ((up2 (up2 (up2 S 154 ((8 * (S 148 7)) + 0).toNatClampNeg l1) 154 ((8 * ((up2 S 154 ((8 * (S 148 7)) + 0).toNatClampNeg l1) 148 7)) + 1).toNatClampNeg ((up2 S 154 ((8 * (S 148 7)) + 0).toNatClampNeg l1) 150 ((4 * l1) + 0).toNatClampNeg)) 154 ((8 * ((up2 (up2 S 154 ((8 * (S 148 7)) + 0).toNatClampNeg l1) 154 ((8 * ((up2 S 154 ((8 * (S 148 7)) + 0).toNatClampNeg l1) 148 7)) + 1).toNatClampNeg ((up2 S 154 ((8 * (S 148 7)) + 0).toNatClampNeg l1) 150 ((4 * l1) + 0).toNatClampNeg)) 148 7)) + 2).toNatClampNeg ((up2 (up2 S 154 ((8 * (S 148 7)) + 0).toNatClampNeg l1) 154 ((8 * ((up2 S 154 ((8 * (S 148 7)) + 0).toNatClampNeg l1) 148 7)) + 1).toNatClampNeg ((up2 S 154 ((8 * (S 148 7)) + 0).toNatClampNeg l1) 150 ((4 * l1) + 0).toNatClampNeg)) 150 ((4 * l1) + 1).toNatClampNeg)) 148 7)) + 3).toNatClampNeg ((up2 (up2 (up2 S 154 ((8 * (S 148 7)) + 0).toNatClampNeg l1) 154 ((8 * ((up2 S 154 ((8 * (S 148 7)) + 0).toNatClampNeg l1) 148 7)) + 1).toNatClampNeg ((up2 S 154 ((8 * (S 148 7)) + 0).toNatClampNeg l1) 150 ((4 * l1) + 0).toNatClampNeg)) 154 ((8 * ((up2 (up2 S 154 ((8 * (S 148 7)) + 0).toNatClampNeg l1) 154 ((8 * ((up2 S 154 ((8 * (S 148 7)) + 0).toNatClampNeg l1) 148 7)) + 1).toNatClampNeg ((up2 S 154 ((8 * (S 148 7)) + 0).toNatClampNeg l1) 150 ((4 * l1) + 0).toNatClampNeg)) 148 7)) + 2).toNatClampNeg ((up2 (up2 S 154 ((8 * (S 148 7)) + 0).toNatClampNeg l1) 154 ((8 * ((up2 S 154 ((8 * (S 148 7)) + 0).toNatClampNeg l1) 148 7)) + 1).toNatClampNeg ((up2 S 154 ((8 * (S 148 7)) + 0).toNatClampNeg l1) 150 ((4 * l1) + 0).toNatClampNeg)) 150 ((4 * l1) + 1).toNatClampNeg)) 150 ((4 * l1) + 2).toNatClampNeg)) 154 ((8 * ((up2 (up2 (up2 (up2 S 154 ((8 * (S 148 7)) + 0).toNatClampNeg l1) 154 ((8 * ((up2 S 154 ((8 * (S 148 7)) + 0).toNatClampNeg l1) 148 7)) + 1).toNatClampNeg ((up2 S 154 ((8 * (S 148 7)) + 0).toNatClampNeg l1) 150 ((4 * l1) + 0).toNatClampNeg)) 154 ((8 * ((up2 (up2 S 154 ((8 * (S 148 7)) + 0).toNatClampNeg l1) 154 ((8 * ((up2 S 154 ((8 * (S 148 7)) + 0).toNatClampNeg l1) 148 7)) + 1).toNatClampNeg ((up2 S 154 ((8 * (S 148 7)) + 0).toNatClampNeg l1) 150 ((4 * l1) + 0).toNatClampNeg)) 148 7)) + 2).toNatClampNeg ((up2 (up2 S 154 ((8 * (S 148 7)) + 0).toNatClampNeg l1) 154 ((8 * ((up2 S 154 ((8 * (S 148 7)) + 0).toNatClampNeg l1) 148 7)) + 1).toNatClampNeg ((up2 S 154 ((8 * (S 148 7)) + 0).toNatClampNeg l1) 150 ((4 * l1) + 0).toNatClampNeg)) 150 ((4 * l1) + 1).toNatClampNeg)) 154 ((8 * ((up2 (up2 (up2 S 154 ((8 * (S 148 7)) + 0).toNatClampNeg l1) 154 ((8 * ((up2 S 154 ((8 * (S 148 7)) + 0).toNatClampNeg l1) 148 7)) + 1).toNatClampNeg ((up2 S 154 ((8 * (S 148 7)) + 0).toNatClampNeg l1) 150 ((4 * l1) + 0).toNatClampNeg)) 154 ((8 * ((up2 (up2 S 154 ((8 * (S 148 7)) + 0).toNatClampNeg l1) 154 ((8 * ((up2 S 154 ((8 * (S 148 7)) + 0).toNatClampNeg l1) 148 7)) + 1).toNatClampNeg ((up2 S 154 ((8 * (S 148 7)) + 0).toNatClampNeg l1) 150 ((4 * l1) + 0).toNatClampNeg)) 148 7)) + 2).toNatClampNeg ((up2 (up2 S 154 ((8 * (S 148 7)) + 0).toNatClampNeg l1) 154 ((8 * ((up2 S 154 ((8 * (S 148 7)) + 0).toNatClampNeg l1) 148 7)) + 1).toNatClampNeg ((up2 S 154 ((8 * (S 148 7)) + 0).toNatClampNeg l1) 150 ((4 * l1) + 0).toNatClampNeg)) 150 ((4 * l1) + 1).toNatClampNeg)) 148 7)) + 3).toNatClampNeg ((up2 (up2 (up2 S 154 ((8 * (S 148 7)) + 0).toNatClampNeg l1) 154 ((8 * ((up2 S 154 ((8 * (S 148 7)) + 0).toNatClampNeg l1) 148 7)) + 1).toNatClampNeg ((up2 S 154 ((8 * (S 148 7)) + 0).toNatClampNeg l1) 150 ((4 * l1) + 0).toNatClampNeg)) 154 ((8 * ((up2 (up2 S 154 ((8 * (S 148 7)) + 0).toNatClampNeg l1) 154 ((8 * ((up2 S 154 ((8 * (S 148 7)) + 0).toNatClampNeg l1) 148 7)) + 1).toNatClampNeg ((up2 S 154 ((8 * (S 148 7)) + 0).toNatClampNeg l1) 150 ((4 * l1) + 0).toNatClampNeg)) 148 7)) + 2).toNatClampNeg ((up2 (up2 S 154 ((8 * (S 148 7)) + 0).toNatClampNeg l1) 154 ((8 * ((up2 S 154 ((8 * (S 148 7)) + 0).toNatClampNeg l1) 148 7)) + 1).toNatClampNeg ((up2 S 154 ((8 * (S 148 7)) + 0).toNatClampNeg l1) 150 ((4 * l1) + 0).toNatClampNeg)) 150 ((4 * l1) + 1).toNatClampNeg)) 150 ((4 * l1) + 2).toNatClampNeg)) 148 7)) + 4).toNatClampNeg ((S 150 ((4 * l1) + 3).toNatClampNeg) - (S 150 ((4 * l1) + 3).toNatClampNeg) / 128 * 128)) 148 7)) + 5).toNatClampNeg ((S 150 ((4 * l1) + 3).toNatClampNeg) / 128)) = S') [.int ((up2 (up2 (up2 (up2 (up2 S 154 ((8 * (S 148 7)) + 0).toNatClampNeg l1) 154 ((8 * ((up2 S 154 ((8 * (S 148 7)) + 0).toNatClampNeg l1) 148 7)) + 1).toNatClampNeg ((up2 S 154 ((8 * (S 148 7)) + 0).toNatClampNeg l1) 150 ((4 * l1) + 0).toNatClampNeg)) 154 ((8 * ((up2 (up2 S 154 ((8 * (S 148 7)) + 0).toNatClampNeg l1) 154 ((8 * ((up2 S 154 ((8 * (S 148 7)) + 0).toNatClampNeg l1) 148 7)) + 1).toNatClampNeg ((up2 S 154 ((8 * (S 148 7)) + 0).toNatClampNeg l1) 150 ((4 * l1) + 0).toNatClampNeg)) 148 7)) + 2).toNatClampNeg ((up2 (up2 S 154 ((8 * (S 148 7)) + 0).toNatClampNeg l1) 154 ((8 * ((up2 S 154 ((8 * (S 148 7)) + 0).toNatClampNeg l1) 148 7)) + 1).toNatClampNeg ((up2 S 154 ((8 * (S 148 7)) + 0).toNatClampNeg l1) 150 ((4 * l1) + 0).toNatClampNeg)) 150 ((4 * l1) + 1).toNatClampNeg)) 154 ((8 * ((up2 (up2 (up2 S 154 ((8 * (S 148 7)) + 0).toNatClampNeg l1) 154 ((8 * ((up2 S 154 ((8 * (S 148 7)) + 0).toNatClampNeg l1) 148 7)) + 1).toNatClampNeg ((up2 S 154 ((8 * (S 148 7)) + 0).toNatClampNeg l1) 150 ((4 * l1) + 0).toNatClampNeg)) 154 ((8 * ((up2 (up2 S 154 ((8 * (S 148 7)) + 0).toNatClampNeg l1) 154 ((8 * ((up2 S 154 ((8 * (S 148 7)) + 0).toNatClampNeg l1) 148 7)) + 1).toNatClampNeg ((up2 S 154 ((8 * (S 148 7)) + 0).toNatClampNeg l1) 150 ((4 * l1) + 0).toNatClampNeg)) 148 7)) + 2).toNatClampNeg ((up2 (up2 S 154 ((8 * (S 148 7)) + 0).toNatClampNeg l1) 154 ((8 * ((up2 S 154 ((8 * (S 148 7)) + 0).toNatClampNeg l1) 148 7)) + 1).toNatClampNeg ((up2 S 154 ((8 * (S 148 7)) + 0).toNatClampNeg l1) 150 ((4 * l1) + 0).toNatClampNeg)) 150 ((4 * l1) + 1).toNatClampNeg)) 148 7)) + 3).toNatClampNeg ((up2 (up2 (up2 S 154 ((8 * (S 148 7)) + 0).toNatClampNeg l1) 154 ((8 * ((up2 S 154 ((8 * (S 148 7)) + 0).toNatClampNeg l1) 148 7)) + 1).toNatClampNeg ((up2 S 154 ((8 * (S 148 7)) + 0).toNatClampNeg l1) 150 ((4 * l1) + 0).toNatClampNeg)) 154 ((8 * ((up2 (up2 S 154 ((8 * (S 148 7)) + 0).toNatClampNeg l1) 154 ((8 * ((up2 S 154 ((8 * (S 148 7)) + 0).toNatClampNeg l1) 148 7)) + 1).toNatClampNeg ((up2 S 154 ((8 * (S 148 7)) + 0).toNatClampNeg l1) 150 ((4 * l1) + 0).toNatClampNeg)) 148 7)) + 2).toNatClampNeg ((up2 (up2 S 154 ((8 * (S 148 7)) + 0).toNatClampNeg l1) 154 ((8 * ((up2 S 154 ((8 * (S 148 7)) + 0).toNatClampNeg l1) 148 7)) + 1).toNatClampNeg ((up2 S 154 ((8 * (S 148 7)) + 0).toNatClampNeg l1) 150 ((4 * l1) + 0).toNatClampNeg)) 150 ((4 * l1) + 1).toNatClampNeg)) 150 ((4 * l1) + 2).toNatClampNeg)) 154 ((8 * ((up2 (up2 (up2 (up2 S 154 ((8 * (S 148 7)) + 0).toNatClampNeg l1) 154 ((8 * ((up2 S 154 ((8 * (S 148 7)) + 0).toNatClampNeg l1) 148 7)) + 1).toNatClampNeg ((up2 S 154 ((8 * (S 148 7)) + 0).toNatClampNeg l1) 150 ((4 * l1) + 0).toNatClampNeg)) 154 ((8 * ((up2 (up2 S 154 ((8 * (S 148 7)) + 0).toNatClampNeg l1) 154 ((8 * ((up2 S 154 ((8 * (S 148 7)) + 0).toNatClampNeg l1) 148 7)) + 1).toNatClampNeg ((up2 S 154 ((8 * (S 148 7)) + 0).toNatClampNeg l1) 150 ((4 * l1) + 0).toNatClampNeg)) 148 7)) + 2).toNatClampNeg ((up2 (up2 S 154 ((8 * (S 148 7)) + 0).toNatClampNeg l1) 154 ((8 * ((up2 S 154 ((8 * (S 148 7)) + 0).toNatClampNeg l1) 148 7)) + 1).toNatClampNeg ((up2 S 154 ((8 * (S 148 7)) + 0).toNatClampNeg l1) 150 ((4 * l1) + 0).toNatClampNeg)) 150 ((4 * l1) + 1).toNatClampNeg)) 154 ((8 * ((up2 (up2 (up2 S 154 ((8 * (S 148 7)) + 0).toNatClampNeg l1) 154 ((8 * ((up2 S 154 ((8 * (S 148 7)) + 0).toNatClampNeg l1) 148 7)) + 1).toNatClampNeg ((up2 S 154 ((8 * (S 148 7)) + 0).toNatClampNeg l1) 150 ((4 * l1) + 0).toNatClampNeg)) 154 ((8 * ((up2 (up2 S 154 ((8 * (S 148 7)) + 0).toNatClampNeg l1) 154 ((8 * ((up2 S 154 ((8 * (S 148 7)) + 0).toNatClampNeg l1) 148 7)) + 1).toNatClampNeg ((up2 S 154 ((8 * (S 148 7)) + 0).toNatClampNeg l1) 150 ((4 * l1) + 0).toNatClampNeg)) 148 7)) + 2).toNatClampNeg ((up2 (up2 S 154 ((8 * (S 148 7)) + 0).toNatClampNeg l1) 154 ((8 * ((up2 S 154 ((8 * (S 148 7)) + 0).toNatClampNeg l1) 148 7)) + 1).toNatClampNeg ((up2 S 154 ((8 * (S 148 7)) + 0).toNatClampNeg l1) 150 ((4 * l1) + 0).toNatClampNeg)) 150 ((4 * l1) + 1).toNatClampNeg)) 148 7)) + 3).toNatClampNeg ((up2 (up2 (up2 S 154 ((8 * (S 148 7)) + 0).toNatClampNeg l1) 154 ((8 * ((up2 S 154 ((8 * (S 148 7)) + 0).toNatClampNeg l1) 148 7)) + 1).toNatClampNeg ((up2 S 154 ((8 * (S 148 7)) + 0).toNatClampNeg l1) 150 ((4 * l1) + 0).toNatClampNeg)) 154 ((8 * ((up2 (up2 S 154 ((8 * (S 148 7)) + 0).toNatClampNeg l1) 154 ((8 * ((up2 S 154 ((8 * (S 148 7)) + 0).toNatClampNeg l1) 148 7)) + 1).toNatClampNeg ((up2 S 154 ((8 * (S 148 7)) + 0).toNatClampNeg l1) 150 ((4 * l1) + 0).toNatClampNeg)) 148 7)) + 2).toNatClampNeg ((up2 (up2 S 154 ((8 * (S 148 7)) + 0).toNatClampNeg l1) 154 ((8 * ((up2 S 154 ((8 * (S 148 7)) + 0).toNatClampNeg l1) 148 7)) + 1).toNatClampNeg ((up2 S 154 ((8 * (S 148 7)) + 0).toNatClampNeg l1) 150 ((4 * l1) + 0).toNatClampNeg)) 150 ((4 * l1) + 1).toNatClampNeg)) 150 ((4 * l1) + 2).toNatClampNeg)) 148 7)) + 4).toNatClampNeg ((S 150 ((4 * l1) + 3).toNatClampNeg) - (S 150 ((4 * l1) + 3).toNatClampNeg) / 128 * 128)) 148 7), .int 5, .int ((S 150 ((4 * l1) + 3).toNatClampNeg) / 128)] hx rfl w_774 cv_r_put hG.1 (by decide) rfl rfl rfl rfl (zr_put hx hG (⟨hc10, fun _ hS => by subst hS; exact rfl⟩)) ?_ (fun _ _ hf => hf.elim)
  rintro S' rfl
  refine z_aload_n rfl rfl ?_
  refine z_aload_n rfl rfl ?_
  refine z_geti (ci := 7) 7 rfl hG.1 rfl w_665 ?_
  refine z_bipush 6 rfl rfl ?_
  refine z_iconst 0 rfl rfl ?_
  obtain ⟨hc11, hw⟩ := hw
  replace hw := hw _ rfl
  refine z_cvv (M' := M_r_put) (post := fun S' => (up2 (up2 (up2 (up2 (up2 (up2 (up2 S 154 ((8 * (S 148 7)) + 0).toNatClampNeg l1) 154 ((8 * ((up2 S 154 ((8 * (S 148 7)) + 0).toNatClampNeg l1) 148 7)) + 1).toNatClampNeg ((up2 S 154 ((8 * (S 148 7)) + 0).toNatClampNeg l1) 150 ((4 * l1) + 0).toNatClampNeg)) 154 ((8 * ((up2 (up2 S 154 ((8 * (S 148 7)) + 0).toNatClampNeg l1) 154 ((8 * ((up2 S 154 ((8 * (S 148 7)) + 0).toNatClampNeg l1) 148 7)) + 1).toNatClampNeg ((up2 S 154 ((8 * (S 148 7)) + 0).toNatClampNeg l1) 150 ((4 * l1) + 0).toNatClampNeg)) 148 7)) + 2).toNatClampNeg ((up2 (up2 S 154 ((8 * (S 148 7)) + 0).toNatClampNeg l1) 154 ((8 * ((up2 S 154 ((8 * (S 148 7)) + 0).toNatClampNeg l1) 148 7)) + 1).toNatClampNeg ((up2 S 154 ((8 * (S 148 7)) + 0).toNatClampNeg l1) 150 ((4 * l1) + 0).toNatClampNeg)) 150 ((4 * l1) + 1).toNatClampNeg)) 154 ((8 * ((up2 (up2 (up2 S 154 ((8 * (S 148 7)) + 0).toNatClampNeg l1) 154 ((8 * ((up2 S 154 ((8 * (S 148 7)) + 0).toNatClampNeg l1) 148 7)) + 1).toNatClampNeg ((up2 S 154 ((8 * (S 148 7)) + 0).toNatClampNeg l1) 150 ((4 * l1) + 0).toNatClampNeg)) 154 ((8 * ((up2 (up2 S 154 ((8 * (S 148 7)) + 0).toNatClampNeg l1) 154 ((8 * ((up2 S 154 ((8 * (S 148 7)) + 0).toNatClampNeg l1) 148 7)) + 1).toNatClampNeg ((up2 S 154 ((8 * (S 148 7)) + 0).toNatClampNeg l1) 150 ((4 * l1) + 0).toNatClampNeg)) 148 7)) + 2).toNatClampNeg ((up2 (up2 S 154 ((8 * (S 148 7)) + 0).toNatClampNeg l1) 154 ((8 * ((up2 S 154 ((8 * (S 148 7)) + 0).toNatClampNeg l1) 148 7)) + 1).toNatClampNeg ((up2 S 154 ((8 * (S 148 7)) + 0).toNatClampNeg l1) 150 ((4 * l1) + 0).toNatClampNeg)) 150 ((4 * l1) + 1).toNatClampNeg)) 148 7)) + 3).toNatClampNeg ((up2 (up2 (up2 S 154 ((8 * (S 148 7)) + 0).toNatClampNeg l1) 154 ((8 * ((up2 S 154 ((8 * (S 148 7)) + 0).toNatClampNeg l1) 148 7)) + 1).toNatClampNeg ((up2 S 154 ((8 * (S 148 7)) + 0).toNatClampNeg l1) 150 ((4 * l1) + 0).toNatClampNeg)) 154 ((8 * ((up2 (up2 S 154 ((8 * (S 148 7)) + 0).toNatClampNeg l1) 154 ((8 * ((up2 S 154 ((8 * (S 148 7)) + 0).toNatClampNeg l1) 148 7)) + 1).toNatClampNeg ((up2 S 154 ((8 * (S 148 7)) + 0).toNatClampNeg l1) 150 ((4 * l1) + 0).toNatClampNeg)) 148 7)) + 2).toNatClampNeg ((up2 (up2 S 154 ((8 * (S 148 7)) + 0).toNatClampNeg l1) 154 ((8 * ((up2 S 154 ((8 * (S 148 7)) + 0).toNatClampNeg l1) 148 7)) + 1).toNatClampNeg ((up2 S 154 ((8 * (S 148 7)) + 0).toNatClampNeg l1) 150 ((4 * l1) + 0).toNatClampNeg)) 150 ((4 * l1) + 1).toNatClampNeg)) 150 ((4 * l1) + 2).toNatClampNeg)) 154 ((8 * ((up2 (up2 (up2 (up2 S 154 ((8 * (S 148 7)) + 0).toNatClampNeg l1) 154 ((8 * ((up2 S 154 ((8 * (S 148 7)) + 0).toNatClampNeg l1) 148 7)) + 1).toNatClampNeg ((up2 S 154 ((8 * (S 148 7)) + 0).toNatClampNeg l1) 150 ((4 * l1) + 0).toNatClampNeg)) 154 ((8 * ((up2 (up2 S 154 ((8 * (S 148 7)) + 0).toNatClampNeg l1) 154 ((8 * ((up2 S 154 ((8 * (S 148 7)) + 0).toNatClampNeg l1) 148 7)) + 1).toNatClampNeg ((up2 S 154 ((8 * (S 148 7)) + 0).toNatClampNeg l1) 150 ((4 * l1) + 0).toNatClampNeg)) 148 7)) + 2).toNatClampNeg ((up2 (up2 S 154 ((8 * (S 148 7)) + 0).toNatClampNeg l1) 154 ((8 * ((up2 S 154 ((8 * (S 148 7)) + 0).toNatClampNeg l1) 148 7)) + 1).toNatClampNeg ((up2 S 154 ((8 * (S 148 7)) + 0).toNatClampNeg l1) 150 ((4 * l1) + 0).toNatClampNeg)) 150 ((4 * l1) + 1).toNatClampNeg)) 154 ((8 * ((up2 (up2 (up2 S 154 ((8 * (S 148 7)) + 0).toNatClampNeg l1) 154 ((8 * ((up2 S 154 ((8 * (S 148 7)) + 0).toNatClampNeg l1) 148 7)) + 1).toNatClampNeg ((up2 S 154 ((8 * (S 148 7)) + 0).toNatClampNeg l1) 150 ((4 * l1) + 0).toNatClampNeg)) 154 ((8 * ((up2 (up2 S 154 ((8 * (S 148 7)) + 0).toNatClampNeg l1) 154 ((8 * ((up2 S 154 ((8 * (S 148 7)) + 0).toNatClampNeg l1) 148 7)) + 1).toNatClampNeg ((up2 S 154 ((8 * (S 148 7)) + 0).toNatClampNeg l1) 150 ((4 * l1) + 0).toNatClampNeg)) 148 7)) + 2).toNatClampNeg ((up2 (up2 S 154 ((8 * (S 148 7)) + 0).toNatClampNeg l1) 154 ((8 * ((up2 S 154 ((8 * (S 148 7)) + 0).toNatClampNeg l1) 148 7)) + 1).toNatClampNeg ((up2 S 154 ((8 * (S 148 7)) + 0).toNatClampNeg l1) 150 ((4 * l1) + 0).toNatClampNeg)) 150 ((4 * l1) + 1).toNatClampNeg)) 148 7)) + 3).toNatClampNeg ((up2 (up2 (up2 S 154 ((8 * (S 148 7)) + 0).toNatClampNeg l1) 154 ((8 * ((up2 S 154 ((8 * (S 148 7)) + 0).toNatClampNeg l1) 148 7)) + 1).toNatClampNeg ((up2 S 154 ((8 * (S 148 7)) + 0).toNatClampNeg l1) 150 ((4 * l1) + 0).toNatClampNeg)) 154 ((8 * ((up2 (up2 S 154 ((8 * (S 148 7)) + 0).toNatClampNeg l1) 154 ((8 * ((up2 S 154 ((8 * (S 148 7)) + 0).toNatClampNeg l1) 148 7)) + 1).toNatClampNeg ((up2 S 154 ((8 * (S 148 7)) + 0).toNatClampNeg l1) 150 ((4 * l1) + 0).toNatClampNeg)) 148 7)) + 2).toNatClampNeg ((up2 (up2 S 154 ((8 * (S 148 7)) + 0).toNatClampNeg l1) 154 ((8 * ((up2 S 154 ((8 * (S 148 7)) + 0).toNatClampNeg l1) 148 7)) + 1).toNatClampNeg ((up2 S 154 ((8 * (S 148 7)) + 0).toNatClampNeg l1) 150 ((4 * l1) + 0).toNatClampNeg)) 150 ((4 * l1) + 1).toNatClampNeg)) 150 ((4 * l1) + 2).toNatClampNeg)) 148 7)) + 4).toNatClampNeg ((S 150 ((4 * l1) + 3).toNatClampNeg) - (S 150 ((4 * l1) + 3).toNatClampNeg) / 128 * 128)) 154 ((8 * ((up2 (up2 (up2 (up2 (up2 S 154 ((8 * (S 148 7)) + 0).toNatClampNeg l1) 154 ((8 * ((up2 S 154 ((8 * (S 148 7)) + 0).toNatClampNeg l1) 148 7)) + 1).toNatClampNeg ((up2 S 154 ((8 * (S 148 7)) + 0).toNatClampNeg l1) 150 ((4 * l1) + 0).toNatClampNeg)) 154 ((8 * ((up2 (up2 S 154 ((8 * (S 148 7)) + 0).toNatClampNeg l1) 154 ((8 * ((up2 S 154 ((8 * (S 148 7)) + 0).toNatClampNeg l1) 148 7)) + 1).toNatClampNeg ((up2 S 154 ((8 * (S 148 7)) + 0).toNatClampNeg l1) 150 ((4 * l1) + 0).toNatClampNeg)) 148 7)) + 2).toNatClampNeg ((up2 (up2 S 154 ((8 * (S 148 7)) + 0).toNatClampNeg l1) 154 ((8 * ((up2 S 154 ((8 * (S 148 7)) + 0).toNatClampNeg l1) 148 7)) + 1).toNatClampNeg ((up2 S 154 ((8 * (S 148 7)) + 0).toNatClampNeg l1) 150 ((4 * l1) + 0).toNatClampNeg)) 150 ((4 * l1) + 1).toNatClampNeg)) 154 ((8 * ((up2 (up2 (up2 S 154 ((8 * (S 148 7)) + 0).toNatClampNeg l1) 154 ((8 * ((up2 S 154 ((8 * (S 148 7)) + 0).toNatClampNeg l1) 148 7)) + 1).toNatClampNeg ((up2 S 154 ((8 * (S 148 7)) + 0).toNatClampNeg l1) 150 ((4 * l1) + 0).toNatClampNeg)) 154 ((8 * ((up2 (up2 S 154 ((8 * (S 148 7)) + 0).toNatClampNeg l1) 154 ((8 * ((up2 S 154 ((8 * (S 148 7)) + 0).toNatClampNeg l1) 148 7)) + 1).toNatClampNeg ((up2 S 154 ((8 * (S 148 7)) + 0).toNatClampNeg l1) 150 ((4 * l1) + 0).toNatClampNeg)) 148 7)) + 2).toNatClampNeg ((up2 (up2 S 154 ((8 * (S 148 7)) + 0).toNatClampNeg l1) 154 ((8 * ((up2 S 154 ((8 * (S 148 7)) + 0).toNatClampNeg l1) 148 7)) + 1).toNatClampNeg ((up2 S 154 ((8 * (S 148 7)) + 0).toNatClampNeg l1) 150 ((4 * l1) + 0).toNatClampNeg)) 150 ((4 * l1) + 1).toNatClampNeg)) 148 7)) + 3).toNatClampNeg ((up2 (up2 (up2 S 154 ((8 * (S 148 7)) + 0).toNatClampNeg l1) 154 ((8 * ((up2 S 154 ((8 * (S 148 7)) + 0).toNatClampNeg l1) 148 7)) + 1).toNatClampNeg ((up2 S 154 ((8 * (S 148 7)) + 0).toNatClampNeg l1) 150 ((4 * l1) + 0).toNatClampNeg)) 154 ((8 * ((up2 (up2 S 154 ((8 * (S 148 7)) + 0).toNatClampNeg l1) 154 ((8 * ((up2 S 154 ((8 * (S 148 7)) + 0).toNatClampNeg l1) 148 7)) + 1).toNatClampNeg ((up2 S 154 ((8 * (S 148 7)) + 0).toNatClampNeg l1) 150 ((4 * l1) + 0).toNatClampNeg)) 148 7)) + 2).toNatClampNeg ((up2 (up2 S 154 ((8 * (S 148 7)) + 0).toNatClampNeg l1) 154 ((8 * ((up2 S 154 ((8 * (S 148 7)) + 0).toNatClampNeg l1) 148 7)) + 1).toNatClampNeg ((up2 S 154 ((8 * (S 148 7)) + 0).toNatClampNeg l1) 150 ((4 * l1) + 0).toNatClampNeg)) 150 ((4 * l1) + 1).toNatClampNeg)) 150 ((4 * l1) + 2).toNatClampNeg)) 154 ((8 * ((up2 (up2 (up2 (up2 S 154 ((8 * (S 148 7)) + 0).toNatClampNeg l1) 154 ((8 * ((up2 S 154 ((8 * (S 148 7)) + 0).toNatClampNeg l1) 148 7)) + 1).toNatClampNeg ((up2 S 154 ((8 * (S 148 7)) + 0).toNatClampNeg l1) 150 ((4 * l1) + 0).toNatClampNeg)) 154 ((8 * ((up2 (up2 S 154 ((8 * (S 148 7)) + 0).toNatClampNeg l1) 154 ((8 * ((up2 S 154 ((8 * (S 148 7)) + 0).toNatClampNeg l1) 148 7)) + 1).toNatClampNeg ((up2 S 154 ((8 * (S 148 7)) + 0).toNatClampNeg l1) 150 ((4 * l1) + 0).toNatClampNeg)) 148 7)) + 2).toNatClampNeg ((up2 (up2 S 154 ((8 * (S 148 7)) + 0).toNatClampNeg l1) 154 ((8 * ((up2 S 154 ((8 * (S 148 7)) + 0).toNatClampNeg l1) 148 7)) + 1).toNatClampNeg ((up2 S 154 ((8 * (S 148 7)) + 0).toNatClampNeg l1) 150 ((4 * l1) + 0).toNatClampNeg)) 150 ((4 * l1) + 1).toNatClampNeg)) 154 ((8 * ((up2 (up2 (up2 S 154 ((8 * (S 148 7)) + 0).toNatClampNeg l1) 154 ((8 * ((up2 S 154 ((8 * (S 148 7)) + 0).toNatClampNeg l1) 148 7)) + 1).toNatClampNeg ((up2 S 154 ((8 * (S 148 7)) + 0).toNatClampNeg l1) 150 ((4 * l1) + 0).toNatClampNeg)) 154 ((8 * ((up2 (up2 S 154 ((8 * (S 148 7)) + 0).toNatClampNeg l1) 154 ((8 * ((up2 S 154 ((8 * (S 148 7)) + 0).toNatClampNeg l1) 148 7)) + 1).toNatClampNeg ((up2 S 154 ((8 * (S 148 7)) + 0).toNatClampNeg l1) 150 ((4 * l1) + 0).toNatClampNeg)) 148 7)) + 2).toNatClampNeg ((up2 (up2 S 154 ((8 * (S 148 7)) + 0).toNatClampNeg l1) 154 ((8 * ((up2 S 154 ((8 * (S 148 7)) + 0).toNatClampNeg l1) 148 7)) + 1).toNatClampNeg ((up2 S 154 ((8 * (S 148 7)) + 0).toNatClampNeg l1) 150 ((4 * l1) + 0).toNatClampNeg)) 150 ((4 * l1) + 1).toNatClampNeg)) 148 7)) + 3).toNatClampNeg ((up2 (up2 (up2 S 154 ((8 * (S 148 7)) + 0).toNatClampNeg l1) 154 ((8 * ((up2 S 154 ((8 * (S 148 7)) + 0).toNatClampNeg l1) 148 7)) + 1).toNatClampNeg ((up2 S 154 ((8 * (S 148 7)) + 0).toNatClampNeg l1) 150 ((4 * l1) + 0).toNatClampNeg)) 154 ((8 * ((up2 (up2 S 154 ((8 * (S 148 7)) + 0).toNatClampNeg l1) 154 ((8 * ((up2 S 154 ((8 * (S 148 7)) + 0).toNatClampNeg l1) 148 7)) + 1).toNatClampNeg ((up2 S 154 ((8 * (S 148 7)) + 0).toNatClampNeg l1) 150 ((4 * l1) + 0).toNatClampNeg)) 148 7)) + 2).toNatClampNeg ((up2 (up2 S 154 ((8 * (S 148 7)) + 0).toNatClampNeg l1) 154 ((8 * ((up2 S 154 ((8 * (S 148 7)) + 0).toNatClampNeg l1) 148 7)) + 1).toNatClampNeg ((up2 S 154 ((8 * (S 148 7)) + 0).toNatClampNeg l1) 150 ((4 * l1) + 0).toNatClampNeg)) 150 ((4 * l1) + 1).toNatClampNeg)) 150 ((4 * l1) + 2).toNatClampNeg)) 148 7)) + 4).toNatClampNeg ((S 150 ((4 * l1) + 3).toNatClampNeg) - (S 150 ((4 * l1) + 3).toNatClampNeg) / 128 * 128)) 148 7)) + 5).toNatClampNeg ((S 150 ((4 * l1) + 3).toNatClampNeg) / 128)) 154 ((8 * ((up2 (up2 (up2 (up2 (up2 (up2 S 154 ((8 * (S 148 7)) + 0).toNatClampNeg l1) 154 ((8 * ((up2 S 154 ((8 * (S 148 7)) + 0).toNatClampNeg l1) 148 7)) + 1).toNatClampNeg ((up2 S 154 ((8 * (S 148 7)) + 0).toNatClampNeg l1) 150 ((4 * l1) + 0).toNatClampNeg)) 154 ((8 * ((up2 (up2 S 154 ((8 * (S 148 7)) + 0).toNatClampNeg l1) 154 ((8 * ((up2 S 154 ((8 * (S 148 7)) + 0).toNatClampNeg l1) 148 7)) + 1).toNatClampNeg ((up2 S 154 ((8 * (S 148 7)) + 0).toNatClampNeg l1) 150 ((4 * l1) + 0).toNatClampNeg)) 148 7)) + 2).toNatClampNeg ((up2 (up2 S 154 ((8 * (S 148 7)) + 0).toNatClampNeg l1) 154 ((8 * ((up2 S 154 ((8 * (S 148 7)) + 0).toNatClampNeg l1) 148 7)) + 1).toNatClampNeg ((up2 S 154 ((8 * (S 148 7)) + 0).toNatClampNeg l1) 150 ((4 * l1) + 0).toNatClampNeg)) 150 ((4 * l1) + 1).toNatClampNeg)) 154 ((8 * ((up2 (up2 (up2 S 154 ((8 * (S 148 7)) + 0).toNatClampNeg l1) 154 ((8 * ((up2 S 154 ((8 * (S 148 7)) + 0).toNatClampNeg l1) 148 7)) + 1).toNatClampNeg ((up2 S 154 ((8 * (S 148 7)) + 0).toNatClampNeg l1) 150 ((4 * l1) + 0).toNatClampNeg)) 154 ((8 * ((up2 (up2 S 154 ((8 * (S 148 7)) + 0).toNatClampNeg l1) 154 ((8 * ((up2 S 154 ((8 * (S 148 7)) + 0).toNatClampNeg l1) 148 7)) + 1).toNatClampNeg ((up2 S 154 ((8 * (S 148 7)) + 0).toNatClampNeg l1) 150 ((4 * l1) + 0).toNatClampNeg)) 148 7)) + 2).toNatClampNeg ((up2 (up2 S 154 ((8 * (S 148 7)) + 0).toNatClampNeg l1) 154 ((8 * ((up2 S 154 ((8 * (S 148 7)) + 0).toNatClampNeg l1) 148 7)) + 1).toNatClampNeg ((up2 S 154 ((8 * (S 148 7)) + 0).toNatClampNeg l1) 150 ((4 * l1) + 0).toNatClampNeg)) 150 ((4 * l1) + 1).toNatClampNeg)) 148 7)) + 3).toNatClampNeg ((up2 (up2 (up2 S 154 ((8 * (S 148 7)) + 0).toNatClampNeg l1) 154 ((8 * ((up2 S 154 ((8 * (S 148 7)) + 0).toNatClampNeg l1) 148 7)) + 1).toNatClampNeg ((up2 S 154 ((8 * (S 148 7)) + 0).toNatClampNeg l1) 150 ((4 * l1) + 0).toNatClampNeg)) 154 ((8 * ((up2 (up2 S 154 ((8 * (S 148 7)) + 0).toNatClampNeg l1) 154 ((8 * ((up2 S 154 ((8 * (S 148 7)) + 0).toNatClampNeg l1) 148 7)) + 1).toNatClampNeg ((up2 S 154 ((8 * (S 148 7)) + 0).toNatClampNeg l1) 150 ((4 * l1) + 0).toNatClampNeg)) 148 7)) + 2).toNatClampNeg ((up2 (up2 S 154 ((8 * (S 148 7)) + 0).toNatClampNeg l1) 154 ((8 * ((up2 S 154 ((8 * (S 148 7)) + 0).toNatClampNeg l1) 148 7)) + 1).toNatClampNeg ((up2 S 154 ((8 * (S 148 7)) + 0).toNatClampNeg l1) 150 ((4 * l1) + 0).toNatClampNeg)) 150 ((4 * l1) + 1).toNatClampNeg)) 150 ((4 * l1) + 2).toNatClampNeg)) 154 ((8 * ((up2 (up2 (up2 (up2 S 154 ((8 * (S 148 7)) + 0).toNatClampNeg l1) 154 ((8 * ((up2 S 154 ((8 * (S 148 7)) + 0).toNatClampNeg l1) 148 7)) + 1).toNatClampNeg ((up2 S 154 ((8 * (S 148 7)) + 0).toNatClampNeg l1) 150 ((4 * l1) + 0).toNatClampNeg)) 154 ((8 * ((up2 (up2 S 154 ((8 * (S 148 7)) + 0).toNatClampNeg l1) 154 ((8 * ((up2 S 154 ((8 * (S 148 7)) + 0).toNatClampNeg l1) 148 7)) + 1).toNatClampNeg ((up2 S 154 ((8 * (S 148 7)) + 0).toNatClampNeg l1) 150 ((4 * l1) + 0).toNatClampNeg)) 148 7)) + 2).toNatClampNeg ((up2 (up2 S 154 ((8 * (S 148 7)) + 0).toNatClampNeg l1) 154 ((8 * ((up2 S 154 ((8 * (S 148 7)) + 0).toNatClampNeg l1) 148 7)) + 1).toNatClampNeg ((up2 S 154 ((8 * (S 148 7)) + 0).toNatClampNeg l1) 150 ((4 * l1) + 0).toNatClampNeg)) 150 ((4 * l1) + 1).toNatClampNeg)) 154 ((8 * ((up2 (up2 (up2 S 154 ((8 * (S 148 7)) + 0).toNatClampNeg l1) 154 ((8 * ((up2 S 154 ((8 * (S 148 7)) + 0).toNatClampNeg l1) 148 7)) + 1).toNatClampNeg ((up2 S 154 ((8 * (S 148 7)) + 0).toNatClampNeg l1) 150 ((4 * l1) + 0).toNatClampNeg)) 154 ((8 * ((up2 (up2 S 154 ((8 * (S 148 7)) + 0).toNatClampNeg l1) 154 ((8 * ((up2 S 154 ((8 * (S 148 7)) + 0).toNatClampNeg l1) 148 7)) + 1).toNatClampNeg ((up2 S 154 ((8 * (S 148 7)) + 0).toNatClampNeg l1) 150 ((4 * l1) + 0).toNatClampNeg)) 148 7)) + 2).toNatClampNeg ((up2 (up2 S 154 ((8 * (S 148 7)) + 0).toNatClampNeg l1) 154 ((8 * ((up2 S 154 ((8 * (S 148 7)) + 0).toNatClampNeg l1) 148 7)) + 1).toNatClampNeg ((up2 S 154 ((8 * (S 148 7)) + 0).toNatClampNeg l1) 150 ((4 * l1) + 0).toNatClampNeg)) 150 ((4 * l1) + 1).toNatClampNeg)) 148 7)) + 3).toNatClampNeg ((up2 (up2 (up2 S 154 ((8 * (S 148 7)) + 0).toNatClampNeg l1) 154 ((8 * ((up2 S 154 ((8 * (S 148 7)) + 0).toNatClampNeg l1) 148 7)) + 1).toNatClampNeg ((up2 S 154 ((8 * (S 148 7)) + 0).toNatClampNeg l1) 150 ((4 * l1) + 0).toNatClampNeg)) 154 ((8 * ((up2 (up2 S 154 ((8 * (S 148 7)) + 0).toNatClampNeg l1) 154 ((8 * ((up2 S 154 ((8 * (S 148 7)) + 0).toNatClampNeg l1) 148 7)) + 1).toNatClampNeg ((up2 S 154 ((8 * (S 148 7)) + 0).toNatClampNeg l1) 150 ((4 * l1) + 0).toNatClampNeg)) 148 7)) + 2).toNatClampNeg ((up2 (up2 S 154 ((8 * (S 148 7)) + 0).toNatClampNeg l1) 154 ((8 * ((up2 S 154 ((8 * (S 148 7)) + 0).toNatClampNeg l1) 148 7)) + 1).toNatClampNeg ((up2 S 154 ((8 * (S 148 7)) + 0).toNatClampNeg l1) 150 ((4 * l1) + 0).toNatClampNeg)) 150 ((4 * l1) + 1).toNatClampNeg)) 150 ((4 * l1) + 2).toNatClampNeg)) 148 7)) + 4).toNatClampNeg ((S 150 ((4 * l1) + 3).toNatClampNeg) - (S 150 ((4 * l1) + 3).toNatClampNeg) / 128 * 128)) 154 ((8 * ((up2 (up2 (up2 (up2 (up2 S 154 ((8 * (S 148 7)) + 0).toNatClampNeg l1) 154 ((8 * ((up2 S 154 ((8 * (S 148 7)) + 0).toNatClampNeg l1) 148 7)) + 1).toNatClampNeg ((up2 S 154 ((8 * (S 148 7)) + 0).toNatClampNeg l1) 150 ((4 * l1) + 0).toNatClampNeg)) 154 ((8 * ((up2 (up2 S 154 ((8 * (S 148 7)) + 0).toNatClampNeg l1) 154 ((8 * ((up2 S 154 ((8 * (S 148 7)) + 0).toNatClampNeg l1) 148 7)) + 1).toNatClampNeg ((up2 S 154 ((8 * (S 148 7)) + 0).toNatClampNeg l1) 150 ((4 * l1) + 0).toNatClampNeg)) 148 7)) + 2).toNatClampNeg ((up2 (up2 S 154 ((8 * (S 148 7)) + 0).toNatClampNeg l1) 154 ((8 * ((up2 S 154 ((8 * (S 148 7)) + 0).toNatClampNeg l1) 148 7)) + 1).toNatClampNeg ((up2 S 154 ((8 * (S 148 7)) + 0).toNatClampNeg l1) 150 ((4 * l1) + 0).toNatClampNeg)) 150 ((4 * l1) + 1).toNatClampNeg)) 154 ((8 * ((up2 (up2 (up2 S 154 ((8 * (S 148 7)) + 0).toNatClampNeg l1) 154 ((8 * ((up2 S 154 ((8 * (S 148 7)) + 0).toNatClampNeg l1) 148 7)) + 1).toNatClampNeg ((up2 S 154 ((8 * (S 148 7)) + 0).toNatClampNeg l1) 150 ((4 * l1) + 0).toNatClampNeg)) 154 ((8 * ((up2 (up2 S 154 ((8 * (S 148 7)) + 0).toNatClampNeg l1) 154 ((8 * ((up2 S 154 ((8 * (S 148 7)) + 0).toNatClampNeg l1) 148 7)) + 1).toNatClampNeg ((up2 S 154 ((8 * (S 148 7)) + 0).toNatClampNeg l1) 150 ((4 * l1) + 0).toNatClampNeg)) 148 7)) + 2).toNatClampNeg ((up2 (up2 S 154 ((8 * (S 148 7)) + 0).toNatClampNeg l1) 154 ((8 * ((up2 S 154 ((8 * (S 148 7)) + 0).toNatClampNeg l1) 148 7)) + 1).toNatClampNeg ((up2 S 154 ((8 * (S 148 7)) + 0).toNatClampNeg l1) 150 ((4 * l1) + 0).toNatClampNeg)) 150 ((4 * l1) + 1).toNatClampNeg)) 148 7)) + 3).toNatClampNeg ((up2 (up2 (up2 S 154 ((8 * (S 148 7)) + 0).toNatClampNeg l1) 154 ((8 * ((up2 S 154 ((8 * (S 148 7)) + 0).toNatClampNeg l1) 148 7)) + 1).toNatClampNeg ((up2 S 154 ((8 * (S 148 7)) + 0).toNatClampNeg l1) 150 ((4 * l1) + 0).toNatClampNeg)) 154 ((8 * ((up2 (up2 S 154 ((8 * (S 148 7)) + 0).toNatClampNeg l1) 154 ((8 * ((up2 S 154 ((8 * (S 148 7)) + 0).toNatClampNeg l1) 148 7)) + 1).toNatClampNeg ((up2 S 154 ((8 * (S 148 7)) + 0).toNatClampNeg l1) 150 ((4 * l1) + 0).toNatClampNeg)) 148 7)) + 2).toNatClampNeg ((up2 (up2 S 154 ((8 * (S 148 7)) + 0).toNatClampNeg l1) 154 ((8 * ((up2 S 154 ((8 * (S 148 7)) + 0).toNatClampNeg l1) 148 7)) + 1).toNatClampNeg ((up2 S 154 ((8 * (S 148 7)) + 0).toNatClampNeg l1) 150 ((4 * l1) + 0).toNatClampNeg)) 150 ((4 * l1) + 1).toNatClampNeg)) 150 ((4 * l1) + 2).toNatClampNeg)) 154 ((8 * ((up2 (up2 (up2 (up2 S 154 ((8 * (S 148 7)) + 0).toNatClampNeg l1) 154 ((8 * ((up2 S 154 ((8 * (S 148 7)) + 0).toNatClampNeg l1) 148 7)) + 1).toNatClampNeg ((up2 S 154 ((8 * (S 148 7)) + 0).toNatClampNeg l1) 150 ((4 * l1) + 0).toNatClampNeg)) 154 ((8 * ((up2 (up2 S 154 ((8 * (S 148 7)) + 0).toNatClampNeg l1) 154 ((8 * ((up2 S 154 ((8 * (S 148 7)) + 0).toNatClampNeg l1) 148 7)) + 1).toNatClampNeg ((up2 S 154 ((8 * (S 148 7)) + 0).toNatClampNeg l1) 150 ((4 * l1) + 0).toNatClampNeg)) 148 7)) + 2).toNatClampNeg ((up2 (up2 S 154 ((8 * (S 148 7)) + 0).toNatClampNeg l1) 154 ((8 * ((up2 S 154 ((8 * (S 148 7)) + 0).toNatClampNeg l1) 148 7)) + 1).toNatClampNeg ((up2 S 154 ((8 * (S 148 7)) + 0).toNatClampNeg l1) 150 ((4 * l1) + 0).toNatClampNeg)) 150 ((4 * l1) + 1).toNatClampNeg)) 154 ((8 * ((up2 (up2 (up2 S 154 ((8 * (S 148 7)) + 0).toNatClampNeg l1) 154 ((8 * ((up2 S 154 ((8 * (S 148 7)) + 0).toNatClampNeg l1) 148 7)) + 1).toNatClampNeg ((up2 S 154 ((8 * (S 148 7)) + 0).toNatClampNeg l1) 150 ((4 * l1) + 0).toNatClampNeg)) 154 ((8 * ((up2 (up2 S 154 ((8 * (S 148 7)) + 0).toNatClampNeg l1) 154 ((8 * ((up2 S 154 ((8 * (S 148 7)) + 0).toNatClampNeg l1) 148 7)) + 1).toNatClampNeg ((up2 S 154 ((8 * (S 148 7)) + 0).toNatClampNeg l1) 150 ((4 * l1) + 0).toNatClampNeg)) 148 7)) + 2).toNatClampNeg ((up2 (up2 S 154 ((8 * (S 148 7)) + 0).toNatClampNeg l1) 154 ((8 * ((up2 S 154 ((8 * (S 148 7)) + 0).toNatClampNeg l1) 148 7)) + 1).toNatClampNeg ((up2 S 154 ((8 * (S 148 7)) + 0).toNatClampNeg l1) 150 ((4 * l1) + 0).toNatClampNeg)) 150 ((4 * l1) + 1).toNatClampNeg)) 148 7)) + 3).toNatClampNeg ((up2 (up2 (up2 S 154 ((8 * (S 148 7)) + 0).toNatClampNeg l1) 154 ((8 * ((up2 S 154 ((8 * (S 148 7)) + 0).toNatClampNeg l1) 148 7)) + 1).toNatClampNeg ((up2 S 154 ((8 * (S 148 7)) + 0).toNatClampNeg l1) 150 ((4 * l1) + 0).toNatClampNeg)) 154 ((8 * ((up2 (up2 S 154 ((8 * (S 148 7)) + 0).toNatClampNeg l1) 154 ((8 * ((up2 S 154 ((8 * (S 148 7)) + 0).toNatClampNeg l1) 148 7)) + 1).toNatClampNeg ((up2 S 154 ((8 * (S 148 7)) + 0).toNatClampNeg l1) 150 ((4 * l1) + 0).toNatClampNeg)) 148 7)) + 2).toNatClampNeg ((up2 (up2 S 154 ((8 * (S 148 7)) + 0).toNatClampNeg l1) 154 ((8 * ((up2 S 154 ((8 * (S 148 7)) + 0).toNatClampNeg l1) 148 7)) + 1).toNatClampNeg ((up2 S 154 ((8 * (S 148 7)) + 0).toNatClampNeg l1) 150 ((4 * l1) + 0).toNatClampNeg)) 150 ((4 * l1) + 1).toNatClampNeg)) 150 ((4 * l1) + 2).toNatClampNeg)) 148 7)) + 4).toNatClampNeg ((S 150 ((4 * l1) + 3).toNatClampNeg) - (S 150 ((4 * l1) + 3).toNatClampNeg) / 128 * 128)) 148 7)) + 5).toNatClampNeg ((S 150 ((4 * l1) + 3).toNatClampNeg) / 128)) 148 7)) + 6).toNatClampNeg 0) = S') [.int ((up2 (up2 (up2 (up2 (up2 (up2 S 154 ((8 * (S 148 7)) + 0).toNatClampNeg l1) 154 ((8 * ((up2 S 154 ((8 * (S 148 7)) + 0).toNatClampNeg l1) 148 7)) + 1).toNatClampNeg ((up2 S 154 ((8 * (S 148 7)) + 0).toNatClampNeg l1) 150 ((4 * l1) + 0).toNatClampNeg)) 154 ((8 * ((up2 (up2 S 154 ((8 * (S 148 7)) + 0).toNatClampNeg l1) 154 ((8 * ((up2 S 154 ((8 * (S 148 7)) + 0).toNatClampNeg l1) 148 7)) + 1).toNatClampNeg ((up2 S 154 ((8 * (S 148 7)) + 0).toNatClampNeg l1) 150 ((4 * l1) + 0).toNatClampNeg)) 148 7)) + 2).toNatClampNeg ((up2 (up2 S 154 ((8 * (S 148 7)) + 0).toNatClampNeg l1) 154 ((8 * ((up2 S 154 ((8 * (S 148 7)) + 0).toNatClampNeg l1) 148 7)) + 1).toNatClampNeg ((up2 S 154 ((8 * (S 148 7)) + 0).toNatClampNeg l1) 150 ((4 * l1) + 0).toNatClampNeg)) 150 ((4 * l1) + 1).toNatClampNeg)) 154 ((8 * ((up2 (up2 (up2 S 154 ((8 * (S 148 7)) + 0).toNatClampNeg l1) 154 ((8 * ((up2 S 154 ((8 * (S 148 7)) + 0).toNatClampNeg l1) 148 7)) + 1).toNatClampNeg ((up2 S 154 ((8 * (S 148 7)) + 0).toNatClampNeg l1) 150 ((4 * l1) + 0).toNatClampNeg)) 154 ((8 * ((up2 (up2 S 154 ((8 * (S 148 7)) + 0).toNatClampNeg l1) 154 ((8 * ((up2 S 154 ((8 * (S 148 7)) + 0).toNatClampNeg l1) 148 7)) + 1).toNatClampNeg ((up2 S 154 ((8 * (S 148 7)) + 0).toNatClampNeg l1) 150 ((4 * l1) + 0).toNatClampNeg)) 148 7)) + 2).toNatClampNeg ((up2 (up2 S 154 ((8 * (S 148 7)) + 0).toNatClampNeg l1) 154 ((8 * ((up2 S 154 ((8 * (S 148 7)) + 0).toNatClampNeg l1) 148 7)) + 1).toNatClampNeg ((up2 S 154 ((8 * (S 148 7)) + 0).toNatClampNeg l1) 150 ((4 * l1) + 0).toNatClampNeg)) 150 ((4 * l1) + 1).toNatClampNeg)) 148 7)) + 3).toNatClampNeg ((up2 (up2 (up2 S 154 ((8 * (S 148 7)) + 0).toNatClampNeg l1) 154 ((8 * ((up2 S 154 ((8 * (S 148 7)) + 0).toNatClampNeg l1) 148 7)) + 1).toNatClampNeg ((up2 S 154 ((8 * (S 148 7)) + 0).toNatClampNeg l1) 150 ((4 * l1) + 0).toNatClampNeg)) 154 ((8 * ((up2 (up2 S 154 ((8 * (S 148 7)) + 0).toNatClampNeg l1) 154 ((8 * ((up2 S 154 ((8 * (S 148 7)) + 0).toNatClampNeg l1) 148 7)) + 1).toNatClampNeg ((up2 S 154 ((8 * (S 148 7)) + 0).toNatClampNeg l1) 150 ((4 * l1) + 0).toNatClampNeg)) 148 7)) + 2).toNatClampNeg ((up2 (up2 S 154 ((8 * (S 148 7)) + 0).toNatClampNeg l1) 154 ((8 * ((up2 S 154 ((8 * (S 148 7)) + 0).toNatClampNeg l1) 148 7)) + 1).toNatClampNeg ((up2 S 154 ((8 * (S 148 7)) + 0).toNatClampNeg l1) 150 ((4 * l1) + 0).toNatClampNeg)) 150 ((4 * l1) + 1).toNatClampNeg)) 150 ((4 * l1) + 2).toNatClampNeg)) 154 ((8 * ((up2 (up2 (up2 (up2 S 154 ((8 * (S 148 7)) + 0).toNatClampNeg l1) 154 ((8 * ((up2 S 154 ((8 * (S 148 7)) + 0).toNatClampNeg l1) 148 7)) + 1).toNatClampNeg ((up2 S 154 ((8 * (S 148 7)) + 0).toNatClampNeg l1) 150 ((4 * l1) + 0).toNatClampNeg)) 154 ((8 * ((up2 (up2 S 154 ((8 * (S 148 7)) + 0).toNatClampNeg l1) 154 ((8 * ((up2 S 154 ((8 * (S 148 7)) + 0).toNatClampNeg l1) 148 7)) + 1).toNatClampNeg ((up2 S 154 ((8 * (S 148 7)) + 0).toNatClampNeg l1) 150 ((4 * l1) + 0).toNatClampNeg)) 148 7)) + 2).toNatClampNeg ((up2 (up2 S 154 ((8 * (S 148 7)) + 0).toNatClampNeg l1) 154 ((8 * ((up2 S 154 ((8 * (S 148 7)) + 0).toNatClampNeg l1) 148 7)) + 1).toNatClampNeg ((up2 S 154 ((8 * (S 148 7)) + 0).toNatClampNeg l1) 150 ((4 * l1) + 0).toNatClampNeg)) 150 ((4 * l1) + 1).toNatClampNeg)) 154 ((8 * ((up2 (up2 (up2 S 154 ((8 * (S 148 7)) + 0).toNatClampNeg l1) 154 ((8 * ((up2 S 154 ((8 * (S 148 7)) + 0).toNatClampNeg l1) 148 7)) + 1).toNatClampNeg ((up2 S 154 ((8 * (S 148 7)) + 0).toNatClampNeg l1) 150 ((4 * l1) + 0).toNatClampNeg)) 154 ((8 * ((up2 (up2 S 154 ((8 * (S 148 7)) + 0).toNatClampNeg l1) 154 ((8 * ((up2 S 154 ((8 * (S 148 7)) + 0).toNatClampNeg l1) 148 7)) + 1).toNatClampNeg ((up2 S 154 ((8 * (S 148 7)) + 0).toNatClampNeg l1) 150 ((4 * l1) + 0).toNatClampNeg)) 148 7)) + 2).toNatClampNeg ((up2 (up2 S 154 ((8 * (S 148 7)) + 0).toNatClampNeg l1) 154 ((8 * ((up2 S 154 ((8 * (S 148 7)) + 0).toNatClampNeg l1) 148 7)) + 1).toNatClampNeg ((up2 S 154 ((8 * (S 148 7)) + 0).toNatClampNeg l1) 150 ((4 * l1) + 0).toNatClampNeg)) 150 ((4 * l1) + 1).toNatClampNeg)) 148 7)) + 3).toNatClampNeg ((up2 (up2 (up2 S 154 ((8 * (S 148 7)) + 0).toNatClampNeg l1) 154 ((8 * ((up2 S 154 ((8 * (S 148 7)) + 0).toNatClampNeg l1) 148 7)) + 1).toNatClampNeg ((up2 S 154 ((8 * (S 148 7)) + 0).toNatClampNeg l1) 150 ((4 * l1) + 0).toNatClampNeg)) 154 ((8 * ((up2 (up2 S 154 ((8 * (S 148 7)) + 0).toNatClampNeg l1) 154 ((8 * ((up2 S 154 ((8 * (S 148 7)) + 0).toNatClampNeg l1) 148 7)) + 1).toNatClampNeg ((up2 S 154 ((8 * (S 148 7)) + 0).toNatClampNeg l1) 150 ((4 * l1) + 0).toNatClampNeg)) 148 7)) + 2).toNatClampNeg ((up2 (up2 S 154 ((8 * (S 148 7)) + 0).toNatClampNeg l1) 154 ((8 * ((up2 S 154 ((8 * (S 148 7)) + 0).toNatClampNeg l1) 148 7)) + 1).toNatClampNeg ((up2 S 154 ((8 * (S 148 7)) + 0).toNatClampNeg l1) 150 ((4 * l1) + 0).toNatClampNeg)) 150 ((4 * l1) + 1).toNatClampNeg)) 150 ((4 * l1) + 2).toNatClampNeg)) 148 7)) + 4).toNatClampNeg ((S 150 ((4 * l1) + 3).toNatClampNeg) - (S 150 ((4 * l1) + 3).toNatClampNeg) / 128 * 128)) 154 ((8 * ((up2 (up2 (up2 (up2 (up2 S 154 ((8 * (S 148 7)) + 0).toNatClampNeg l1) 154 ((8 * ((up2 S 154 ((8 * (S 148 7)) + 0).toNatClampNeg l1) 148 7)) + 1).toNatClampNeg ((up2 S 154 ((8 * (S 148 7)) + 0).toNatClampNeg l1) 150 ((4 * l1) + 0).toNatClampNeg)) 154 ((8 * ((up2 (up2 S 154 ((8 * (S 148 7)) + 0).toNatClampNeg l1) 154 ((8 * ((up2 S 154 ((8 * (S 148 7)) + 0).toNatClampNeg l1) 148 7)) + 1).toNatClampNeg ((up2 S 154 ((8 * (S 148 7)) + 0).toNatClampNeg l1) 150 ((4 * l1) + 0).toNatClampNeg)) 148 7)) + 2).toNatClampNeg ((up2 (up2 S 154 ((8 * (S 148 7)) + 0).toNatClampNeg l1) 154 ((8 * ((up2 S 154 ((8 * (S 148 7)) + 0).toNatClampNeg l1) 148 7)) + 1).toNatClampNeg ((up2 S 154 ((8 * (S 148 7)) + 0).toNatClampNeg l1) 150 ((4 * l1) + 0).toNatClampNeg)) 150 ((4 * l1) + 1).toNatClampNeg)) 154 ((8 * ((up2 (up2 (up2 S 154 ((8 * (S 148 7)) + 0).toNatClampNeg l1) 154 ((8 * ((up2 S 154 ((8 * (S 148 7)) + 0).toNatClampNeg l1) 148 7)) + 1).toNatClampNeg ((up2 S 154 ((8 * (S 148 7)) + 0).toNatClampNeg l1) 150 ((4 * l1) + 0).toNatClampNeg)) 154 ((8 * ((up2 (up2 S 154 ((8 * (S 148 7)) + 0).toNatClampNeg l1) 154 ((8 * ((up2 S 154 ((8 * (S 148 7)) + 0).toNatClampNeg l1) 148 7)) + 1).toNatClampNeg ((up2 S 154 ((8 * (S 148 7)) + 0).toNatClampNeg l1) 150 ((4 * l1) + 0).toNatClampNeg)) 148 7)) + 2).toNatClampNeg ((up2 (up2 S 154 ((8 * (S 148 7)) + 0).toNatClampNeg l1) 154 ((8 * ((up2 S 154 ((8 * (S 148 7)) + 0).toNatClampNeg l1) 148 7)) + 1).toNatClampNeg ((up2 S 154 ((8 * (S 148 7)) + 0).toNatClampNeg l1) 150 ((4 * l1) + 0).toNatClampNeg)) 150 ((4 * l1) + 1).toNatClampNeg)) 148 7)) + 3).toNatClampNeg ((up2 (up2 (up2 S 154 ((8 * (S 148 7)) + 0).toNatClampNeg l1) 154 ((8 * ((up2 S 154 ((8 * (S 148 7)) + 0).toNatClampNeg l1) 148 7)) + 1).toNatClampNeg ((up2 S 154 ((8 * (S 148 7)) + 0).toNatClampNeg l1) 150 ((4 * l1) + 0).toNatClampNeg)) 154 ((8 * ((up2 (up2 S 154 ((8 * (S 148 7)) + 0).toNatClampNeg l1) 154 ((8 * ((up2 S 154 ((8 * (S 148 7)) + 0).toNatClampNeg l1) 148 7)) + 1).toNatClampNeg ((up2 S 154 ((8 * (S 148 7)) + 0).toNatClampNeg l1) 150 ((4 * l1) + 0).toNatClampNeg)) 148 7)) + 2).toNatClampNeg ((up2 (up2 S 154 ((8 * (S 148 7)) + 0).toNatClampNeg l1) 154 ((8 * ((up2 S 154 ((8 * (S 148 7)) + 0).toNatClampNeg l1) 148 7)) + 1).toNatClampNeg ((up2 S 154 ((8 * (S 148 7)) + 0).toNatClampNeg l1) 150 ((4 * l1) + 0).toNatClampNeg)) 150 ((4 * l1) + 1).toNatClampNeg)) 150 ((4 * l1) + 2).toNatClampNeg)) 154 ((8 * ((up2 (up2 (up2 (up2 S 154 ((8 * (S 148 7)) + 0).toNatClampNeg l1) 154 ((8 * ((up2 S 154 ((8 * (S 148 7)) + 0).toNatClampNeg l1) 148 7)) + 1).toNatClampNeg ((up2 S 154 ((8 * (S 148 7)) + 0).toNatClampNeg l1) 150 ((4 * l1) + 0).toNatClampNeg)) 154 ((8 * ((up2 (up2 S 154 ((8 * (S 148 7)) + 0).toNatClampNeg l1) 154 ((8 * ((up2 S 154 ((8 * (S 148 7)) + 0).toNatClampNeg l1) 148 7)) + 1).toNatClampNeg ((up2 S 154 ((8 * (S 148 7)) + 0).toNatClampNeg l1) 150 ((4 * l1) + 0).toNatClampNeg)) 148 7)) + 2).toNatClampNeg ((up2 (up2 S 154 ((8 * (S 148 7)) + 0).toNatClampNeg l1) 154 ((8 * ((up2 S 154 ((8 * (S 148 7)) + 0).toNatClampNeg l1) 148 7)) + 1).toNatClampNeg ((up2 S 154 ((8 * (S 148 7)) + 0).toNatClampNeg l1) 150 ((4 * l1) + 0).toNatClampNeg)) 150 ((4 * l1) + 1).toNatClampNeg)) 154 ((8 * ((up2 (up2 (up2 S 154 ((8 * (S 148 7)) + 0).toNatClampNeg l1) 154 ((8 * ((up2 S 154 ((8 * (S 148 7)) + 0).toNatClampNeg l1) 148 7)) + 1).toNatClampNeg ((up2 S 154 ((8 * (S 148 7)) + 0).toNatClampNeg l1) 150 ((4 * l1) + 0).toNatClampNeg)) 154 ((8 * ((up2 (up2 S 154 ((8 * (S 148 7)) + 0).toNatClampNeg l1) 154 ((8 * ((up2 S 154 ((8 * (S 148 7)) + 0).toNatClampNeg l1) 148 7)) + 1).toNatClampNeg ((up2 S 154 ((8 * (S 148 7)) + 0).toNatClampNeg l1) 150 ((4 * l1) + 0).toNatClampNeg)) 148 7)) + 2).toNatClampNeg ((up2 (up2 S 154 ((8 * (S 148 7)) + 0).toNatClampNeg l1) 154 ((8 * ((up2 S 154 ((8 * (S 148 7)) + 0).toNatClampNeg l1) 148 7)) + 1).toNatClampNeg ((up2 S 154 ((8 * (S 148 7)) + 0).toNatClampNeg l1) 150 ((4 * l1) + 0).toNatClampNeg)) 150 ((4 * l1) + 1).toNatClampNeg)) 148 7)) + 3).toNatClampNeg ((up2 (up2 (up2 S 154 ((8 * (S 148 7)) + 0).toNatClampNeg l1) 154 ((8 * ((up2 S 154 ((8 * (S 148 7)) + 0).toNatClampNeg l1) 148 7)) + 1).toNatClampNeg ((up2 S 154 ((8 * (S 148 7)) + 0).toNatClampNeg l1) 150 ((4 * l1) + 0).toNatClampNeg)) 154 ((8 * ((up2 (up2 S 154 ((8 * (S 148 7)) + 0).toNatClampNeg l1) 154 ((8 * ((up2 S 154 ((8 * (S 148 7)) + 0).toNatClampNeg l1) 148 7)) + 1).toNatClampNeg ((up2 S 154 ((8 * (S 148 7)) + 0).toNatClampNeg l1) 150 ((4 * l1) + 0).toNatClampNeg)) 148 7)) + 2).toNatClampNeg ((up2 (up2 S 154 ((8 * (S 148 7)) + 0).toNatClampNeg l1) 154 ((8 * ((up2 S 154 ((8 * (S 148 7)) + 0).toNatClampNeg l1) 148 7)) + 1).toNatClampNeg ((up2 S 154 ((8 * (S 148 7)) + 0).toNatClampNeg l1) 150 ((4 * l1) + 0).toNatClampNeg)) 150 ((4 * l1) + 1).toNatClampNeg)) 150 ((4 * l1) + 2).toNatClampNeg)) 148 7)) + 4).toNatClampNeg ((S 150 ((4 * l1) + 3).toNatClampNeg) - (S 150 ((4 * l1) + 3).toNatClampNeg) / 128 * 128)) 148 7)) + 5).toNatClampNeg ((S 150 ((4 * l1) + 3).toNatClampNeg) / 128)) 148 7), .int 6, .int 0] hx rfl w_774 cv_r_put hG.1 (by decide) rfl rfl rfl rfl (zr_put hx hG (⟨hc11, fun _ hS => by subst hS; exact rfl⟩)) ?_ (fun _ _ hf => hf.elim)
  rintro S' rfl
  refine z_aload_n rfl rfl ?_
  refine z_aload_n rfl rfl ?_
  refine z_geti (ci := 7) 7 rfl hG.1 rfl w_665 ?_
  refine z_bipush 7 rfl rfl ?_
  refine z_iconst (-1) rfl rfl ?_
  obtain ⟨hc12, hw⟩ := hw
  replace hw := hw _ rfl
  refine z_cvv (M' := M_r_put) (post := fun S' => (up2 (up2 (up2 (up2 (up2 (up2 (up2 (up2 S 154 ((8 * (S 148 7)) + 0).toNatClampNeg l1) 154 ((8 * ((up2 S 154 ((8 * (S 148 7)) + 0).toNatClampNeg l1) 148 7)) + 1).toNatClampNeg ((up2 S 154 ((8 * (S 148 7)) + 0).toNatClampNeg l1) 150 ((4 * l1) + 0).toNatClampNeg)) 154 ((8 * ((up2 (up2 S 154 ((8 * (S 148 7)) + 0).toNatClampNeg l1) 154 ((8 * ((up2 S 154 ((8 * (S 148 7)) + 0).toNatClampNeg l1) 148 7)) + 1).toNatClampNeg ((up2 S 154 ((8 * (S 148 7)) + 0).toNatClampNeg l1) 150 ((4 * l1) + 0).toNatClampNeg)) 148 7)) + 2).toNatClampNeg ((up2 (up2 S 154 ((8 * (S 148 7)) + 0).toNatClampNeg l1) 154 ((8 * ((up2 S 154 ((8 * (S 148 7)) + 0).toNatClampNeg l1) 148 7)) + 1).toNatClampNeg ((up2 S 154 ((8 * (S 148 7)) + 0).toNatClampNeg l1) 150 ((4 * l1) + 0).toNatClampNeg)) 150 ((4 * l1) + 1).toNatClampNeg)) 154 ((8 * ((up2 (up2 (up2 S 154 ((8 * (S 148 7)) + 0).toNatClampNeg l1) 154 ((8 * ((up2 S 154 ((8 * (S 148 7)) + 0).toNatClampNeg l1) 148 7)) + 1).toNatClampNeg ((up2 S 154 ((8 * (S 148 7)) + 0).toNatClampNeg l1) 150 ((4 * l1) + 0).toNatClampNeg)) 154 ((8 * ((up2 (up2 S 154 ((8 * (S 148 7)) + 0).toNatClampNeg l1) 154 ((8 * ((up2 S 154 ((8 * (S 148 7)) + 0).toNatClampNeg l1) 148 7)) + 1).toNatClampNeg ((up2 S 154 ((8 * (S 148 7)) + 0).toNatClampNeg l1) 150 ((4 * l1) + 0).toNatClampNeg)) 148 7)) + 2).toNatClampNeg ((up2 (up2 S 154 ((8 * (S 148 7)) + 0).toNatClampNeg l1) 154 ((8 * ((up2 S 154 ((8 * (S 148 7)) + 0).toNatClampNeg l1) 148 7)) + 1).toNatClampNeg ((up2 S 154 ((8 * (S 148 7)) + 0).toNatClampNeg l1) 150 ((4 * l1) + 0).toNatClampNeg)) 150 ((4 * l1) + 1).toNatClampNeg)) 148 7)) + 3).toNatClampNeg ((up2 (up2 (up2 S 154 ((8 * (S 148 7)) + 0).toNatClampNeg l1) 154 ((8 * ((up2 S 154 ((8 * (S 148 7)) + 0).toNatClampNeg l1) 148 7)) + 1).toNatClampNeg ((up2 S 154 ((8 * (S 148 7)) + 0).toNatClampNeg l1) 150 ((4 * l1) + 0).toNatClampNeg)) 154 ((8 * ((up2 (up2 S 154 ((8 * (S 148 7)) + 0).toNatClampNeg l1) 154 ((8 * ((up2 S 154 ((8 * (S 148 7)) + 0).toNatClampNeg l1) 148 7)) + 1).toNatClampNeg ((up2 S 154 ((8 * (S 148 7)) + 0).toNatClampNeg l1) 150 ((4 * l1) + 0).toNatClampNeg)) 148 7)) + 2).toNatClampNeg ((up2 (up2 S 154 ((8 * (S 148 7)) + 0).toNatClampNeg l1) 154 ((8 * ((up2 S 154 ((8 * (S 148 7)) + 0).toNatClampNeg l1) 148 7)) + 1).toNatClampNeg ((up2 S 154 ((8 * (S 148 7)) + 0).toNatClampNeg l1) 150 ((4 * l1) + 0).toNatClampNeg)) 150 ((4 * l1) + 1).toNatClampNeg)) 150 ((4 * l1) + 2).toNatClampNeg)) 154 ((8 * ((up2 (up2 (up2 (up2 S 154 ((8 * (S 148 7)) + 0).toNatClampNeg l1) 154 ((8 * ((up2 S 154 ((8 * (S 148 7)) + 0).toNatClampNeg l1) 148 7)) + 1).toNatClampNeg ((up2 S 154 ((8 * (S 148 7)) + 0).toNatClampNeg l1) 150 ((4 * l1) + 0).toNatClampNeg)) 154 ((8 * ((up2 (up2 S 154 ((8 * (S 148 7)) + 0).toNatClampNeg l1) 154 ((8 * ((up2 S 154 ((8 * (S 148 7)) + 0).toNatClampNeg l1) 148 7)) + 1).toNatClampNeg ((up2 S 154 ((8 * (S 148 7)) + 0).toNatClampNeg l1) 150 ((4 * l1) + 0).toNatClampNeg)) 148 7)) + 2).toNatClampNeg ((up2 (up2 S 154 ((8 * (S 148 7)) + 0).toNatClampNeg l1) 154 ((8 * ((up2 S 154 ((8 * (S 148 7)) + 0).toNatClampNeg l1) 148 7)) + 1).toNatClampNeg ((up2 S 154 ((8 * (S 148 7)) + 0).toNatClampNeg l1) 150 ((4 * l1) + 0).toNatClampNeg)) 150 ((4 * l1) + 1).toNatClampNeg)) 154 ((8 * ((up2 (up2 (up2 S 154 ((8 * (S 148 7)) + 0).toNatClampNeg l1) 154 ((8 * ((up2 S 154 ((8 * (S 148 7)) + 0).toNatClampNeg l1) 148 7)) + 1).toNatClampNeg ((up2 S 154 ((8 * (S 148 7)) + 0).toNatClampNeg l1) 150 ((4 * l1) + 0).toNatClampNeg)) 154 ((8 * ((up2 (up2 S 154 ((8 * (S 148 7)) + 0).toNatClampNeg l1) 154 ((8 * ((up2 S 154 ((8 * (S 148 7)) + 0).toNatClampNeg l1) 148 7)) + 1).toNatClampNeg ((up2 S 154 ((8 * (S 148 7)) + 0).toNatClampNeg l1) 150 ((4 * l1) + 0).toNatClampNeg)) 148 7)) + 2).toNatClampNeg ((up2 (up2 S 154 ((8 * (S 148 7)) + 0).toNatClampNeg l1) 154 ((8 * ((up2 S 154 ((8 * (S 148 7)) + 0).toNatClampNeg l1) 148 7)) + 1).toNatClampNeg ((up2 S 154 ((8 * (S 148 7)) + 0).toNatClampNeg l1) 150 ((4 * l1) + 0).toNatClampNeg)) 150 ((4 * l1) + 1).toNatClampNeg)) 148 7)) + 3).toNatClampNeg ((up2 (up2 (up2 S 154 ((8 * (S 148 7)) + 0).toNatClampNeg l1) 154 ((8 * ((up2 S 154 ((8 * (S 148 7)) + 0).toNatClampNeg l1) 148 7)) + 1).toNatClampNeg ((up2 S 154 ((8 * (S 148 7)) + 0).toNatClampNeg l1) 150 ((4 * l1) + 0).toNatClampNeg)) 154 ((8 * ((up2 (up2 S 154 ((8 * (S 148 7)) + 0).toNatClampNeg l1) 154 ((8 * ((up2 S 154 ((8 * (S 148 7)) + 0).toNatClampNeg l1) 148 7)) + 1).toNatClampNeg ((up2 S 154 ((8 * (S 148 7)) + 0).toNatClampNeg l1) 150 ((4 * l1) + 0).toNatClampNeg)) 148 7)) + 2).toNatClampNeg ((up2 (up2 S 154 ((8 * (S 148 7)) + 0).toNatClampNeg l1) 154 ((8 * ((up2 S 154 ((8 * (S 148 7)) + 0).toNatClampNeg l1) 148 7)) + 1).toNatClampNeg ((up2 S 154 ((8 * (S 148 7)) + 0).toNatClampNeg l1) 150 ((4 * l1) + 0).toNatClampNeg)) 150 ((4 * l1) + 1).toNatClampNeg)) 150 ((4 * l1) + 2).toNatClampNeg)) 148 7)) + 4).toNatClampNeg ((S 150 ((4 * l1) + 3).toNatClampNeg) - (S 150 ((4 * l1) + 3).toNatClampNeg) / 128 * 128)) 154 ((8 * ((up2 (up2 (up2 (up2 (up2 S 154 ((8 * (S 148 7)) + 0).toNatClampNeg l1) 154 ((8 * ((up2 S 154 ((8 * (S 148 7)) + 0).toNatClampNeg l1) 148 7)) + 1).toNatClampNeg ((up2 S 154 ((8 * (S 148 7)) + 0).toNatClampNeg l1) 150 ((4 * l1) + 0).toNatClampNeg)) 154 ((8 * ((up2 (up2 S 154 ((8 * (S 148 7)) + 0).toNatClampNeg l1) 154 ((8 * ((up2 S 154 ((8 * (S 148 7)) + 0).toNatClampNeg l1) 148 7)) + 1).toNatClampNeg ((up2 S 154 ((8 * (S 148 7)) + 0).toNatClampNeg l1) 150 ((4 * l1) + 0).toNatClampNeg)) 148 7)) + 2).toNatClampNeg ((up2 (up2 S 154 ((8 * (S 148 7)) + 0).toNatClampNeg l1) 154 ((8 * ((up2 S 154 ((8 * (S 148 7)) + 0).toNatClampNeg l1) 148 7)) + 1).toNatClampNeg ((up2 S 154 ((8 * (S 148 7)) + 0).toNatClampNeg l1) 150 ((4 * l1) + 0).toNatClampNeg)) 150 ((4 * l1) + 1).toNatClampNeg)) 154 ((8 * ((up2 (up2 (up2 S 154 ((8 * (S 148 7)) + 0).toNatClampNeg l1) 154 ((8 * ((up2 S 154 ((8 * (S 148 7)) + 0).toNatClampNeg l1) 148 7)) + 1).toNatClampNeg ((up2 S 154 ((8 * (S 148 7)) + 0).toNatClampNeg l1) 150 ((4 * l1) + 0).toNatClampNeg)) 154 ((8 * ((up2 (up2 S 154 ((8 * (S 148 7)) + 0).toNatClampNeg l1) 154 ((8 * ((up2 S 154 ((8 * (S 148 7)) + 0).toNatClampNeg l1) 148 7)) + 1).toNatClampNeg ((up2 S 154 ((8 * (S 148 7)) + 0).toNatClampNeg l1) 150 ((4 * l1) + 0).toNatClampNeg)) 148 7)) + 2).toNatClampNeg ((up2 (up2 S 154 ((8 * (S 148 7)) + 0).toNatClampNeg l1) 154 ((8 * ((up2 S 154 ((8 * (S 148 7)) + 0).toNatClampNeg l1) 148 7)) + 1).toNatClampNeg ((up2 S 154 ((8 * (S 148 7)) + 0).toNatClampNeg l1) 150 ((4 * l1) + 0).toNatClampNeg)) 150 ((4 * l1) + 1).toNatClampNeg)) 148 7)) + 3).toNatClampNeg ((up2 (up2 (up2 S 154 ((8 * (S 148 7)) + 0).toNatClampNeg l1) 154 ((8 * ((up2 S 154 ((8 * (S 148 7)) + 0).toNatClampNeg l1) 148 7)) + 1).toNatClampNeg ((up2 S 154 ((8 * (S 148 7)) + 0).toNatClampNeg l1) 150 ((4 * l1) + 0).toNatClampNeg)) 154 ((8 * ((up2 (up2 S 154 ((8 * (S 148 7)) + 0).toNatClampNeg l1) 154 ((8 * ((up2 S 154 ((8 * (S 148 7)) + 0).toNatClampNeg l1) 148 7)) + 1).toNatClampNeg ((up2 S 154 ((8 * (S 148 7)) + 0).toNatClampNeg l1) 150 ((4 * l1) + 0).toNatClampNeg)) 148 7)) + 2).toNatClampNeg ((up2 (up2 S 154 ((8 * (S 148 7)) + 0).toNatClampNeg l1) 154 ((8 * ((up2 S 154 ((8 * (S 148 7)) + 0).toNatClampNeg l1) 148 7)) + 1).toNatClampNeg ((up2 S 154 ((8 * (S 148 7)) + 0).toNatClampNeg l1) 150 ((4 * l1) + 0).toNatClampNeg)) 150 ((4 * l1) + 1).toNatClampNeg)) 150 ((4 * l1) + 2).toNatClampNeg)) 154 ((8 * ((up2 (up2 (up2 (up2 S 154 ((8 * (S 148 7)) + 0).toNatClampNeg l1) 154 ((8 * ((up2 S 154 ((8 * (S 148 7)) + 0).toNatClampNeg l1) 148 7)) + 1).toNatClampNeg ((up2 S 154 ((8 * (S 148 7)) + 0).toNatClampNeg l1) 150 ((4 * l1) + 0).toNatClampNeg)) 154 ((8 * ((up2 (up2 S 154 ((8 * (S 148 7)) + 0).toNatClampNeg l1) 154 ((8 * ((up2 S 154 ((8 * (S 148 7)) + 0).toNatClampNeg l1) 148 7)) + 1).toNatClampNeg ((up2 S 154 ((8 * (S 148 7)) + 0).toNatClampNeg l1) 150 ((4 * l1) + 0).toNatClampNeg)) 148 7)) + 2).toNatClampNeg ((up2 (up2 S 154 ((8 * (S 148 7)) + 0).toNatClampNeg l1) 154 ((8 * ((up2 S 154 ((8 * (S 148 7)) + 0).toNatClampNeg l1) 148 7)) + 1).toNatClampNeg ((up2 S 154 ((8 * (S 148 7)) + 0).toNatClampNeg l1) 150 ((4 * l1) + 0).toNatClampNeg)) 150 ((4 * l1) + 1).toNatClampNeg)) 154 ((8 * ((up2 (up2 (up2 S 154 ((8 * (S 148 7)) + 0).toNatClampNeg l1) 154 ((8 * ((up2 S 154 ((8 * (S 148 7)) + 0).toNatClampNeg l1) 148 7)) + 1).toNatClampNeg ((up2 S 154 ((8 * (S 148 7)) + 0).toNatClampNeg l1) 150 ((4 * l1) + 0).toNatClampNeg)) 154 ((8 * ((up2 (up2 S 154 ((8 * (S 148 7)) + 0).toNatClampNeg l1) 154 ((8 * ((up2 S 154 ((8 * (S 148 7)) + 0).toNatClampNeg l1) 148 7)) + 1).toNatClampNeg ((up2 S 154 ((8 * (S 148 7)) + 0).toNatClampNeg l1) 150 ((4 * l1) + 0).toNatClampNeg)) 148 7)) + 2).toNatClampNeg ((up2 (up2 S 154 ((8 * (S 148 7)) + 0).toNatClampNeg l1) 154 ((8 * ((up2 S 154 ((8 * (S 148 7)) + 0).toNatClampNeg l1) 148 7)) + 1).toNatClampNeg ((up2 S 154 ((8 * (S 148 7)) + 0).toNatClampNeg l1) 150 ((4 * l1) + 0).toNatClampNeg)) 150 ((4 * l1) + 1).toNatClampNeg)) 148 7)) + 3).toNatClampNeg ((up2 (up2 (up2 S 154 ((8 * (S 148 7)) + 0).toNatClampNeg l1) 154 ((8 * ((up2 S 154 ((8 * (S 148 7)) + 0).toNatClampNeg l1) 148 7)) + 1).toNatClampNeg ((up2 S 154 ((8 * (S 148 7)) + 0).toNatClampNeg l1) 150 ((4 * l1) + 0).toNatClampNeg)) 154 ((8 * ((up2 (up2 S 154 ((8 * (S 148 7)) + 0).toNatClampNeg l1) 154 ((8 * ((up2 S 154 ((8 * (S 148 7)) + 0).toNatClampNeg l1) 148 7)) + 1).toNatClampNeg ((up2 S 154 ((8 * (S 148 7)) + 0).toNatClampNeg l1) 150 ((4 * l1) + 0).toNatClampNeg)) 148 7)) + 2).toNatClampNeg ((up2 (up2 S 154 ((8 * (S 148 7)) + 0).toNatClampNeg l1) 154 ((8 * ((up2 S 154 ((8 * (S 148 7)) + 0).toNatClampNeg l1) 148 7)) + 1).toNatClampNeg ((up2 S 154 ((8 * (S 148 7)) + 0).toNatClampNeg l1) 150 ((4 * l1) + 0).toNatClampNeg)) 150 ((4 * l1) + 1).toNatClampNeg)) 150 ((4 * l1) + 2).toNatClampNeg)) 148 7)) + 4).toNatClampNeg ((S 150 ((4 * l1) + 3).toNatClampNeg) - (S 150 ((4 * l1) + 3).toNatClampNeg) / 128 * 128)) 148 7)) + 5).toNatClampNeg ((S 150 ((4 * l1) + 3).toNatClampNeg) / 128)) 154 ((8 * ((up2 (up2 (up2 (up2 (up2 (up2 S 154 ((8 * (S 148 7)) + 0).toNatClampNeg l1) 154 ((8 * ((up2 S 154 ((8 * (S 148 7)) + 0).toNatClampNeg l1) 148 7)) + 1).toNatClampNeg ((up2 S 154 ((8 * (S 148 7)) + 0).toNatClampNeg l1) 150 ((4 * l1) + 0).toNatClampNeg)) 154 ((8 * ((up2 (up2 S 154 ((8 * (S 148 7)) + 0).toNatClampNeg l1) 154 ((8 * ((up2 S 154 ((8 * (S 148 7)) + 0).toNatClampNeg l1) 148 7)) + 1).toNatClampNeg ((up2 S 154 ((8 * (S 148 7)) + 0).toNatClampNeg l1) 150 ((4 * l1) + 0).toNatClampNeg)) 148 7)) + 2).toNatClampNeg ((up2 (up2 S 154 ((8 * (S 148 7)) + 0).toNatClampNeg l1) 154 ((8 * ((up2 S 154 ((8 * (S 148 7)) + 0).toNatClampNeg l1) 148 7)) + 1).toNatClampNeg ((up2 S 154 ((8 * (S 148 7)) + 0).toNatClampNeg l1) 150 ((4 * l1) + 0).toNatClampNeg)) 150 ((4 * l1) + 1).toNatClampNeg)) 154 ((8 * ((up2 (up2 (up2 S 154 ((8 * (S 148 7)) + 0).toNatClampNeg l1) 154 ((8 * ((up2 S 154 ((8 * (S 148 7)) + 0).toNatClampNeg l1) 148 7)) + 1).toNatClampNeg ((up2 S 154 ((8 * (S 148 7)) + 0).toNatClampNeg l1) 150 ((4 * l1) + 0).toNatClampNeg)) 154 ((8 * ((up2 (up2 S 154 ((8 * (S 148 7)) + 0).toNatClampNeg l1) 154 ((8 * ((up2 S 154 ((8 * (S 148 7)) + 0).toNatClampNeg l1) 148 7)) + 1).toNatClampNeg ((up2 S 154 ((8 * (S 148 7)) + 0).toNatClampNeg l1) 150 ((4 * l1) + 0).toNatClampNeg)) 148 7)) + 2).toNatClampNeg ((up2 (up2 S 154 ((8 * (S 148 7)) + 0).toNatClampNeg l1) 154 ((8 * ((up2 S 154 ((8 * (S 148 7)) + 0).toNatClampNeg l1) 148 7)) + 1).toNatClampNeg ((up2 S 154 ((8 * (S 148 7)) + 0).toNatClampNeg l1) 150 ((4 * l1) + 0).toNatClampNeg)) 150 ((4 * l1) + 1).toNatClampNeg)) 148 7)) + 3).toNatClampNeg ((up2 (up2 (up2 S 154 ((8 * (S 148 7)) + 0).toNatClampNeg l1) 154 ((8 * ((up2 S 154 ((8 * (S 148 7)) + 0).toNatClampNeg l1) 148 7)) + 1).toNatClampNeg ((up2 S 154 ((8 * (S 148 7)) + 0).toNatClampNeg l1) 150 ((4 * l1) + 0).toNatClampNeg)) 154 ((8 * ((up2 (up2 S 154 ((8 * (S 148 7)) + 0).toNatClampNeg l1) 154 ((8 * ((up2 S 154 ((8 * (S 148 7)) + 0).toNatClampNeg l1) 148 7)) + 1).toNatClampNeg ((up2 S 154 ((8 * (S 148 7)) + 0).toNatClampNeg l1) 150 ((4 * l1) + 0).toNatClampNeg)) 148 7)) + 2).toNatClampNeg ((up2 (up2 S 154 ((8 * (S 148 7)) + 0).toNatClampNeg l1) 154 ((8 * ((up2 S 154 ((8 * (S 148 7)) + 0).toNatClampNeg l1) 148 7)) + 1).toNatClampNeg ((up2 S 154 ((8 * (S 148 7)) + 0).toNatClampNeg l1) 150 ((4 * l1) + 0).toNatClampNeg)) 150 ((4 * l1) + 1).toNatClampNeg)) 150 ((4 * l1) + 2).toNatClampNeg)) 154 ((8 * ((up2 (up2 (up2 (up2 S 154 ((8 * (S 148 7)) + 0).toNatClampNeg l1) 154 ((8 * ((up2 S 154 ((8 * (S 148 7)) + 0).toNatClampNeg l1) 148 7)) + 1).toNatClampNeg ((up2 S 154 ((8 * (S 148 7)) + 0).toNatClampNeg l1) 150 ((4 * l1) + 0).toNatClampNeg)) 154 ((8 * ((up2 (up2 S 154 ((8 * (S 148 7)) + 0).toNatClampNeg l1) 154 ((8 * ((up2 S 154 ((8 * (S 148 7)) + 0).toNatClampNeg l1) 148 7)) + 1).toNatClampNeg ((up2 S 154 ((8 * (S 148 7)) + 0).toNatClampNeg l1) 150 ((4 * l1) + 0).toNatClampNeg)) 148 7)) + 2).toNatClampNeg ((up2 (up2 S 154 ((8 * (S 148 7)) + 0).toNatClampNeg l1) 154 ((8 * ((up2 S 154 ((8 * (S 148 7)) + 0).toNatClampNeg l1) 148 7)) + 1).toNatClampNeg ((up2 S 154 ((8 * (S 148 7)) + 0).toNatClampNeg l1) 150 ((4 * l1) + 0).toNatClampNeg)) 150 ((4 * l1) + 1).toNatClampNeg)) 154 ((8 * ((up2 (up2 (up2 S 154 ((8 * (S 148 7)) + 0).toNatClampNeg l1) 154 ((8 * ((up2 S 154 ((8 * (S 148 7)) + 0).toNatClampNeg l1) 148 7)) + 1).toNatClampNeg ((up2 S 154 ((8 * (S 148 7)) + 0).toNatClampNeg l1) 150 ((4 * l1) + 0).toNatClampNeg)) 154 ((8 * ((up2 (up2 S 154 ((8 * (S 148 7)) + 0).toNatClampNeg l1) 154 ((8 * ((up2 S 154 ((8 * (S 148 7)) + 0).toNatClampNeg l1) 148 7)) + 1).toNatClampNeg ((up2 S 154 ((8 * (S 148 7)) + 0).toNatClampNeg l1) 150 ((4 * l1) + 0).toNatClampNeg)) 148 7)) + 2).toNatClampNeg ((up2 (up2 S 154 ((8 * (S 148 7)) + 0).toNatClampNeg l1) 154 ((8 * ((up2 S 154 ((8 * (S 148 7)) + 0).toNatClampNeg l1) 148 7)) + 1).toNatClampNeg ((up2 S 154 ((8 * (S 148 7)) + 0).toNatClampNeg l1) 150 ((4 * l1) + 0).toNatClampNeg)) 150 ((4 * l1) + 1).toNatClampNeg)) 148 7)) + 3).toNatClampNeg ((up2 (up2 (up2 S 154 ((8 * (S 148 7)) + 0).toNatClampNeg l1) 154 ((8 * ((up2 S 154 ((8 * (S 148 7)) + 0).toNatClampNeg l1) 148 7)) + 1).toNatClampNeg ((up2 S 154 ((8 * (S 148 7)) + 0).toNatClampNeg l1) 150 ((4 * l1) + 0).toNatClampNeg)) 154 ((8 * ((up2 (up2 S 154 ((8 * (S 148 7)) + 0).toNatClampNeg l1) 154 ((8 * ((up2 S 154 ((8 * (S 148 7)) + 0).toNatClampNeg l1) 148 7)) + 1).toNatClampNeg ((up2 S 154 ((8 * (S 148 7)) + 0).toNatClampNeg l1) 150 ((4 * l1) + 0).toNatClampNeg)) 148 7)) + 2).toNatClampNeg ((up2 (up2 S 154 ((8 * (S 148 7)) + 0).toNatClampNeg l1) 154 ((8 * ((up2 S 154 ((8 * (S 148 7)) + 0).toNatClampNeg l1) 148 7)) + 1).toNatClampNeg ((up2 S 154 ((8 * (S 148 7)) + 0).toNatClampNeg l1) 150 ((4 * l1) + 0).toNatClampNeg)) 150 ((4 * l1) + 1).toNatClampNeg)) 150 ((4 * l1) + 2).toNatClampNeg)) 148 7)) + 4).toNatClampNeg ((S 150 ((4 * l1) + 3).toNatClampNeg) - (S 150 ((4 * l1) + 3).toNatClampNeg) / 128 * 128)) 154 ((8 * ((up2 (up2 (up2 (up2 (up2 S 154 ((8 * (S 148 7)) + 0).toNatClampNeg l1) 154 ((8 * ((up2 S 154 ((8 * (S 148 7)) + 0).toNatClampNeg l1) 148 7)) + 1).toNatClampNeg ((up2 S 154 ((8 * (S 148 7)) + 0).toNatClampNeg l1) 150 ((4 * l1) + 0).toNatClampNeg)) 154 ((8 * ((up2 (up2 S 154 ((8 * (S 148 7)) + 0).toNatClampNeg l1) 154 ((8 * ((up2 S 154 ((8 * (S 148 7)) + 0).toNatClampNeg l1) 148 7)) + 1).toNatClampNeg ((up2 S 154 ((8 * (S 148 7)) + 0).toNatClampNeg l1) 150 ((4 * l1) + 0).toNatClampNeg)) 148 7)) + 2).toNatClampNeg ((up2 (up2 S 154 ((8 * (S 148 7)) + 0).toNatClampNeg l1) 154 ((8 * ((up2 S 154 ((8 * (S 148 7)) + 0).toNatClampNeg l1) 148 7)) + 1).toNatClampNeg ((up2 S 154 ((8 * (S 148 7)) + 0).toNatClampNeg l1) 150 ((4 * l1) + 0).toNatClampNeg)) 150 ((4 * l1) + 1).toNatClampNeg)) 154 ((8 * ((up2 (up2 (up2 S 154 ((8 * (S 148 7)) + 0).toNatClampNeg l1) 154 ((8 * ((up2 S 154 ((8 * (S 148 7)) + 0).toNatClampNeg l1) 148 7)) + 1).toNatClampNeg ((up2 S 154 ((8 * (S 148 7)) + 0).toNatClampNeg l1) 150 ((4 * l1) + 0).toNatClampNeg)) 154 ((8 * ((up2 (up2 S 154 ((8 * (S 148 7)) + 0).toNatClampNeg l1) 154 ((8 * ((up2 S 154 ((8 * (S 148 7)) + 0).toNatClampNeg l1) 148 7)) + 1).toNatClampNeg ((up2 S 154 ((8 * (S 148 7)) + 0).toNatClampNeg l1) 150 ((4 * l1) + 0).toNatClampNeg)) 148 7)) + 2).toNatClampNeg ((up2 (up2 S 154 ((8 * (S 148 7)) + 0).toNatClampNeg l1) 154 ((8 * ((up2 S 154 ((8 * (S 148 7)) + 0).toNatClampNeg l1) 148 7)) + 1).toNatClampNeg ((up2 S 154 ((8 * (S 148 7)) + 0).toNatClampNeg l1) 150 ((4 * l1) + 0).toNatClampNeg)) 150 ((4 * l1) + 1).toNatClampNeg)) 148 7)) + 3).toNatClampNeg ((up2 (up2 (up2 S 154 ((8 * (S 148 7)) + 0).toNatClampNeg l1) 154 ((8 * ((up2 S 154 ((8 * (S 148 7)) + 0).toNatClampNeg l1) 148 7)) + 1).toNatClampNeg ((up2 S 154 ((8 * (S 148 7)) + 0).toNatClampNeg l1) 150 ((4 * l1) + 0).toNatClampNeg)) 154 ((8 * ((up2 (up2 S 154 ((8 * (S 148 7)) + 0).toNatClampNeg l1) 154 ((8 * ((up2 S 154 ((8 * (S 148 7)) + 0).toNatClampNeg l1) 148 7)) + 1).toNatClampNeg ((up2 S 154 ((8 * (S 148 7)) + 0).toNatClampNeg l1) 150 ((4 * l1) + 0).toNatClampNeg)) 148 7)) + 2).toNatClampNeg ((up2 (up2 S 154 ((8 * (S 148 7)) + 0).toNatClampNeg l1) 154 ((8 * ((up2 S 154 ((8 * (S 148 7)) + 0).toNatClampNeg l1) 148 7)) + 1).toNatClampNeg ((up2 S 154 ((8 * (S 148 7)) + 0).toNatClampNeg l1) 150 ((4 * l1) + 0).toNatClampNeg)) 150 ((4 * l1) + 1).toNatClampNeg)) 150 ((4 * l1) + 2).toNatClampNeg)) 154 ((8 * ((up2 (up2 (up2 (up2 S 154 ((8 * (S 148 7)) + 0).toNatClampNeg l1) 154 ((8 * ((up2 S 154 ((8 * (S 148 7)) + 0).toNatClampNeg l1) 148 7)) + 1).toNatClampNeg ((up2 S 154 ((8 * (S 148 7)) + 0).toNatClampNeg l1) 150 ((4 * l1) + 0).toNatClampNeg)) 154 ((8 * ((up2 (up2 S 154 ((8 * (S 148 7)) + 0).toNatClampNeg l1) 154 ((8 * ((up2 S 154 ((8 * (S 148 7)) + 0).toNatClampNeg l1) 148 7)) + 1).toNatClampNeg ((up2 S 154 ((8 * (S 148 7)) + 0).toNatClampNeg l1) 150 ((4 * l1) + 0).toNatClampNeg)) 148 7)) + 2).toNatClampNeg ((up2 (up2 S 154 ((8 * (S 148 7)) + 0).toNatClampNeg l1) 154 ((8 * ((up2 S 154 ((8 * (S 148 7)) + 0).toNatClampNeg l1) 148 7)) + 1).toNatClampNeg ((up2 S 154 ((8 * (S 148 7)) + 0).toNatClampNeg l1) 150 ((4 * l1) + 0).toNatClampNeg)) 150 ((4 * l1) + 1).toNatClampNeg)) 154 ((8 * ((up2 (up2 (up2 S 154 ((8 * (S 148 7)) + 0).toNatClampNeg l1) 154 ((8 * ((up2 S 154 ((8 * (S 148 7)) + 0).toNatClampNeg l1) 148 7)) + 1).toNatClampNeg ((up2 S 154 ((8 * (S 148 7)) + 0).toNatClampNeg l1) 150 ((4 * l1) + 0).toNatClampNeg)) 154 ((8 * ((up2 (up2 S 154 ((8 * (S 148 7)) + 0).toNatClampNeg l1) 154 ((8 * ((up2 S 154 ((8 * (S 148 7)) + 0).toNatClampNeg l1) 148 7)) + 1).toNatClampNeg ((up2 S 154 ((8 * (S 148 7)) + 0).toNatClampNeg l1) 150 ((4 * l1) + 0).toNatClampNeg)) 148 7)) + 2).toNatClampNeg ((up2 (up2 S 154 ((8 * (S 148 7)) + 0).toNatClampNeg l1) 154 ((8 * ((up2 S 154 ((8 * (S 148 7)) + 0).toNatClampNeg l1) 148 7)) + 1).toNatClampNeg ((up2 S 154 ((8 * (S 148 7)) + 0).toNatClampNeg l1) 150 ((4 * l1) + 0).toNatClampNeg)) 150 ((4 * l1) + 1).toNatClampNeg)) 148 7)) + 3).toNatClampNeg ((up2 (up2 (up2 S 154 ((8 * (S 148 7)) + 0).toNatClampNeg l1) 154 ((8 * ((up2 S 154 ((8 * (S 148 7)) + 0).toNatClampNeg l1) 148 7)) + 1).toNatClampNeg ((up2 S 154 ((8 * (S 148 7)) + 0).toNatClampNeg l1) 150 ((4 * l1) + 0).toNatClampNeg)) 154 ((8 * ((up2 (up2 S 154 ((8 * (S 148 7)) + 0).toNatClampNeg l1) 154 ((8 * ((up2 S 154 ((8 * (S 148 7)) + 0).toNatClampNeg l1) 148 7)) + 1).toNatClampNeg ((up2 S 154 ((8 * (S 148 7)) + 0).toNatClampNeg l1) 150 ((4 * l1) + 0).toNatClampNeg)) 148 7)) + 2).toNatClampNeg ((up2 (up2 S 154 ((8 * (S 148 7)) + 0).toNatClampNeg l1) 154 ((8 * ((up2 S 154 ((8 * (S 148 7)) + 0).toNatClampNeg l1) 148 7)) + 1).toNatClampNeg ((up2 S 154 ((8 * (S 148 7)) + 0).toNatClampNeg l1) 150 ((4 * l1) + 0).toNatClampNeg)) 150 ((4 * l1) + 1).toNatClampNeg)) 150 ((4 * l1) + 2).toNatClampNeg)) 148 7)) + 4).toNatClampNeg ((S 150 ((4 * l1) + 3).toNatClampNeg) - (S 150 ((4 * l1) + 3).toNatClampNeg) / 128 * 128)) 148 7)) + 5).toNatClampNeg ((S 150 ((4 * l1) + 3).toNatClampNeg) / 128)) 148 7)) + 6).toNatClampNeg 0) 154 ((8 * ((up2 (up2 (up2 (up2 (up2 (up2 (up2 S 154 ((8 * (S 148 7)) + 0).toNatClampNeg l1) 154 ((8 * ((up2 S 154 ((8 * (S 148 7)) + 0).toNatClampNeg l1) 148 7)) + 1).toNatClampNeg ((up2 S 154 ((8 * (S 148 7)) + 0).toNatClampNeg l1) 150 ((4 * l1) + 0).toNatClampNeg)) 154 ((8 * ((up2 (up2 S 154 ((8 * (S 148 7)) + 0).toNatClampNeg l1) 154 ((8 * ((up2 S 154 ((8 * (S 148 7)) + 0).toNatClampNeg l1) 148 7)) + 1).toNatClampNeg ((up2 S 154 ((8 * (S 148 7)) + 0).toNatClampNeg l1) 150 ((4 * l1) + 0).toNatClampNeg)) 148 7)) + 2).toNatClampNeg ((up2 (up2 S 154 ((8 * (S 148 7)) + 0).toNatClampNeg l1) 154 ((8 * ((up2 S 154 ((8 * (S 148 7)) + 0).toNatClampNeg l1) 148 7)) + 1).toNatClampNeg ((up2 S 154 ((8 * (S 148 7)) + 0).toNatClampNeg l1) 150 ((4 * l1) + 0).toNatClampNeg)) 150 ((4 * l1) + 1).toNatClampNeg)) 154 ((8 * ((up2 (up2 (up2 S 154 ((8 * (S 148 7)) + 0).toNatClampNeg l1) 154 ((8 * ((up2 S 154 ((8 * (S 148 7)) + 0).toNatClampNeg l1) 148 7)) + 1).toNatClampNeg ((up2 S 154 ((8 * (S 148 7)) + 0).toNatClampNeg l1) 150 ((4 * l1) + 0).toNatClampNeg)) 154 ((8 * ((up2 (up2 S 154 ((8 * (S 148 7)) + 0).toNatClampNeg l1) 154 ((8 * ((up2 S 154 ((8 * (S 148 7)) + 0).toNatClampNeg l1) 148 7)) + 1).toNatClampNeg ((up2 S 154 ((8 * (S 148 7)) + 0).toNatClampNeg l1) 150 ((4 * l1) + 0).toNatClampNeg)) 148 7)) + 2).toNatClampNeg ((up2 (up2 S 154 ((8 * (S 148 7)) + 0).toNatClampNeg l1) 154 ((8 * ((up2 S 154 ((8 * (S 148 7)) + 0).toNatClampNeg l1) 148 7)) + 1).toNatClampNeg ((up2 S 154 ((8 * (S 148 7)) + 0).toNatClampNeg l1) 150 ((4 * l1) + 0).toNatClampNeg)) 150 ((4 * l1) + 1).toNatClampNeg)) 148 7)) + 3).toNatClampNeg ((up2 (up2 (up2 S 154 ((8 * (S 148 7)) + 0).toNatClampNeg l1) 154 ((8 * ((up2 S 154 ((8 * (S 148 7)) + 0).toNatClampNeg l1) 148 7)) + 1).toNatClampNeg ((up2 S 154 ((8 * (S 148 7)) + 0).toNatClampNeg l1) 150 ((4 * l1) + 0).toNatClampNeg)) 154 ((8 * ((up2 (up2 S 154 ((8 * (S 148 7)) + 0).toNatClampNeg l1) 154 ((8 * ((up2 S 154 ((8 * (S 148 7)) + 0).toNatClampNeg l1) 148 7)) + 1).toNatClampNeg ((up2 S 154 ((8 * (S 148 7)) + 0).toNatClampNeg l1) 150 ((4 * l1) + 0).toNatClampNeg)) 148 7)) + 2).toNatClampNeg ((up2 (up2 S 154 ((8 * (S 148 7)) + 0).toNatClampNeg l1) 154 ((8 * ((up2 S 154 ((8 * (S 148 7)) + 0).toNatClampNeg l1) 148 7)) + 1).toNatClampNeg ((up2 S 154 ((8 * (S 148 7)) + 0).toNatClampNeg l1) 150 ((4 * l1) + 0).toNatClampNeg)) 150 ((4 * l1) + 1).toNatClampNeg)) 150 ((4 * l1) + 2).toNatClampNeg)) 154 ((8 * ((up2 (up2 (up2 (up2 S 154 ((8 * (S 148 7)) + 0).toNatClampNeg l1) 154 ((8 * ((up2 S 154 ((8 * (S 148 7)) + 0).toNatClampNeg l1) 148 7)) + 1).toNatClampNeg ((up2 S 154 ((8 * (S 148 7)) + 0).toNatClampNeg l1) 150 ((4 * l1) + 0).toNatClampNeg)) 154 ((8 * ((up2 (up2 S 154 ((8 * (S 148 7)) + 0).toNatClampNeg l1) 154 ((8 * ((up2 S 154 ((8 * (S 148 7)) + 0).toNatClampNeg l1) 148 7)) + 1).toNatClampNeg ((up2 S 154 ((8 * (S 148 7)) + 0).toNatClampNeg l1) 150 ((4 * l1) + 0).toNatClampNeg)) 148 7)) + 2).toNatClampNeg ((up2 (up2 S 154 ((8 * (S 148 7)) + 0).toNatClampNeg l1) 154 ((8 * ((up2 S 154 ((8 * (S 148 7)) + 0).toNatClampNeg l1) 148 7)) + 1).toNatClampNeg ((up2 S 154 ((8 * (S 148 7)) + 0).toNatClampNeg l1) 150 ((4 * l1) + 0).toNatClampNeg)) 150 ((4 * l1) + 1).toNatClampNeg)) 154 ((8 * ((up2 (up2 (up2 S 154 ((8 * (S 148 7)) + 0).toNatClampNeg l1) 154 ((8 * ((up2 S 154 ((8 * (S 148 7)) + 0).toNatClampNeg l1) 148 7)) + 1).toNatClampNeg ((up2 S 154 ((8 * (S 148 7)) + 0).toNatClampNeg l1) 150 ((4 * l1) + 0).toNatClampNeg)) 154 ((8 * ((up2 (up2 S 154 ((8 * (S 148 7)) + 0).toNatClampNeg l1) 154 ((8 * ((up2 S 154 ((8 * (S 148 7)) + 0).toNatClampNeg l1) 148 7)) + 1).toNatClampNeg ((up2 S 154 ((8 * (S 148 7)) + 0).toNatClampNeg l1) 150 ((4 * l1) + 0).toNatClampNeg)) 148 7)) + 2).toNatClampNeg ((up2 (up2 S 154 ((8 * (S 148 7)) + 0).toNatClampNeg l1) 154 ((8 * ((up2 S 154 ((8 * (S 148 7)) + 0).toNatClampNeg l1) 148 7)) + 1).toNatClampNeg ((up2 S 154 ((8 * (S 148 7)) + 0).toNatClampNeg l1) 150 ((4 * l1) + 0).toNatClampNeg)) 150 ((4 * l1) + 1).toNatClampNeg)) 148 7)) + 3).toNatClampNeg ((up2 (up2 (up2 S 154 ((8 * (S 148 7)) + 0).toNatClampNeg l1) 154 ((8 * ((up2 S 154 ((8 * (S 148 7)) + 0).toNatClampNeg l1) 148 7)) + 1).toNatClampNeg ((up2 S 154 ((8 * (S 148 7)) + 0).toNatClampNeg l1) 150 ((4 * l1) + 0).toNatClampNeg)) 154 ((8 * ((up2 (up2 S 154 ((8 * (S 148 7)) + 0).toNatClampNeg l1) 154 ((8 * ((up2 S 154 ((8 * (S 148 7)) + 0).toNatClampNeg l1) 148 7)) + 1).toNatClampNeg ((up2 S 154 ((8 * (S 148 7)) + 0).toNatClampNeg l1) 150 ((4 * l1) + 0).toNatClampNeg)) 148 7)) + 2).toNatClampNeg ((up2 (up2 S 154 ((8 * (S 148 7)) + 0).toNatClampNeg l1) 154 ((8 * ((up2 S 154 ((8 * (S 148 7)) + 0).toNatClampNeg l1) 148 7)) + 1).toNatClampNeg ((up2 S 154 ((8 * (S 148 7)) + 0).toNatClampNeg l1) 150 ((4 * l1) + 0).toNatClampNeg)) 150 ((4 * l1) + 1).toNatClampNeg)) 150 ((4 * l1) + 2).toNatClampNeg)) 148 7)) + 4).toNatClampNeg ((S 150 ((4 * l1) + 3).toNatClampNeg) - (S 150 ((4 * l1) + 3).toNatClampNeg) / 128 * 128)) 154 ((8 * ((up2 (up2 (up2 (up2 (up2 S 154 ((8 * (S 148 7)) + 0).toNatClampNeg l1) 154 ((8 * ((up2 S 154 ((8 * (S 148 7)) + 0).toNatClampNeg l1) 148 7)) + 1).toNatClampNeg ((up2 S 154 ((8 * (S 148 7)) + 0).toNatClampNeg l1) 150 ((4 * l1) + 0).toNatClampNeg)) 154 ((8 * ((up2 (up2 S 154 ((8 * (S 148 7)) + 0).toNatClampNeg l1) 154 ((8 * ((up2 S 154 ((8 * (S 148 7)) + 0).toNatClampNeg l1) 148 7)) + 1).toNatClampNeg ((up2 S 154 ((8 * (S 148 7)) + 0).toNatClampNeg l1) 150 ((4 * l1) + 0).toNatClampNeg)) 148 7)) + 2).toNatClampNeg ((up2 (up2 S 154 ((8 * (S 148 7)) + 0).toNatClampNeg l1) 154 ((8 * ((up2 S 154 ((8 * (S 148 7)) + 0).toNatClampNeg l1) 148 7)) + 1).toNatClampNeg ((up2 S 154 ((8 * (S 148 7)) + 0).toNatClampNeg l1) 150 ((4 * l1) + 0).toNatClampNeg)) 150 ((4 * l1) + 1).toNatClampNeg)) 154 ((8 * ((up2 (up2 (up2 S 154 ((8 * (S 148 7)) + 0).toNatClampNeg l1) 154 ((8 * ((up2 S 154 ((8 * (S 148 7)) + 0).toNatClampNeg l1) 148 7)) + 1).toNatClampNeg ((up2 S 154 ((8 * (S 148 7)) + 0).toNatClampNeg l1) 150 ((4 * l1) + 0).toNatClampNeg)) 154 ((8 * ((up2 (up2 S 154 ((8 * (S 148 7)) + 0).toNatClampNeg l1) 154 ((8 * ((up2 S 154 ((8 * (S 148 7)) + 0).toNatClampNeg l1) 148 7)) + 1).toNatClampNeg ((up2 S 154 ((8 * (S 148 7)) + 0).toNatClampNeg l1) 150 ((4 * l1) + 0).toNatClampNeg)) 148 7)) + 2).toNatClampNeg ((up2 (up2 S 154 ((8 * (S 148 7)) + 0).toNatClampNeg l1) 154 ((8 * ((up2 S 154 ((8 * (S 148 7)) + 0).toNatClampNeg l1) 148 7)) + 1).toNatClampNeg ((up2 S 154 ((8 * (S 148 7)) + 0).toNatClampNeg l1) 150 ((4 * l1) + 0).toNatClampNeg)) 150 ((4 * l1) + 1).toNatClampNeg)) 148 7)) + 3).toNatClampNeg ((up2 (up2 (up2 S 154 ((8 * (S 148 7)) + 0).toNatClampNeg l1) 154 ((8 * ((up2 S 154 ((8 * (S 148 7)) + 0).toNatClampNeg l1) 148 7)) + 1).toNatClampNeg ((up2 S 154 ((8 * (S 148 7)) + 0).toNatClampNeg l1) 150 ((4 * l1) + 0).toNatClampNeg)) 154 ((8 * ((up2 (up2 S 154 ((8 * (S 148 7)) + 0).toNatClampNeg l1) 154 ((8 * ((up2 S 154 ((8 * (S 148 7)) + 0).toNatClampNeg l1) 148 7)) + 1).toNatClampNeg ((up2 S 154 ((8 * (S 148 7)) + 0).toNatClampNeg l1) 150 ((4 * l1) + 0).toNatClampNeg)) 148 7)) + 2).toNatClampNeg ((up2 (up2 S 154 ((8 * (S 148 7)) + 0).toNatClampNeg l1) 154 ((8 * ((up2 S 154 ((8 * (S 148 7)) + 0).toNatClampNeg l1) 148 7)) + 1).toNatClampNeg ((up2 S 154 ((8 * (S 148 7)) + 0).toNatClampNeg l1) 150 ((4 * l1) + 0).toNatClampNeg)) 150 ((4 * l1) + 1).toNatClampNeg)) 150 ((4 * l1) + 2).toNatClampNeg)) 154 ((8 * ((up2 (up2 (up2 (up2 S 154 ((8 * (S 148 7)) + 0).toNatClampNeg l1) 154 ((8 * ((up2 S 154 ((8 * (S 148 7)) + 0).toNatClampNeg l1) 148 7)) + 1).toNatClampNeg ((up2 S 154 ((8 * (S 148 7)) + 0).toNatClampNeg l1) 150 ((4 * l1) + 0).toNatClampNeg)) 154 ((8 * ((up2 (up2 S 154 ((8 * (S 148 7)) + 0).toNatClampNeg l1) 154 ((8 * ((up2 S 154 ((8 * (S 148 7)) + 0).toNatClampNeg l1) 148 7)) + 1).toNatClampNeg ((up2 S 154 ((8 * (S 148 7)) + 0).toNatClampNeg l1) 150 ((4 * l1) + 0).toNatClampNeg)) 148 7)) + 2).toNatClampNeg ((up2 (up2 S 154 ((8 * (S 148 7)) + 0).toNatClampNeg l1) 154 ((8 * ((up2 S 154 ((8 * (S 148 7)) + 0).toNatClampNeg l1) 148 7)) + 1).toNatClampNeg ((up2 S 154 ((8 * (S 148 7)) + 0).toNatClampNeg l1) 150 ((4 * l1) + 0).toNatClampNeg)) 150 ((4 * l1) + 1).toNatClampNeg)) 154 ((8 * ((up2 (up2 (up2 S 154 ((8 * (S 148 7)) + 0).toNatClampNeg l1) 154 ((8 * ((up2 S 154 ((8 * (S 148 7)) + 0).toNatClampNeg l1) 148 7)) + 1).toNatClampNeg ((up2 S 154 ((8 * (S 148 7)) + 0).toNatClampNeg l1) 150 ((4 * l1) + 0).toNatClampNeg)) 154 ((8 * ((up2 (up2 S 154 ((8 * (S 148 7)) + 0).toNatClampNeg l1) 154 ((8 * ((up2 S 154 ((8 * (S 148 7)) + 0).toNatClampNeg l1) 148 7)) + 1).toNatClampNeg ((up2 S 154 ((8 * (S 148 7)) + 0).toNatClampNeg l1) 150 ((4 * l1) + 0).toNatClampNeg)) 148 7)) + 2).toNatClampNeg ((up2 (up2 S 154 ((8 * (S 148 7)) + 0).toNatClampNeg l1) 154 ((8 * ((up2 S 154 ((8 * (S 148 7)) + 0).toNatClampNeg l1) 148 7)) + 1).toNatClampNeg ((up2 S 154 ((8 * (S 148 7)) + 0).toNatClampNeg l1) 150 ((4 * l1) + 0).toNatClampNeg)) 150 ((4 * l1) + 1).toNatClampNeg)) 148 7)) + 3).toNatClampNeg ((up2 (up2 (up2 S 154 ((8 * (S 148 7)) + 0).toNatClampNeg l1) 154 ((8 * ((up2 S 154 ((8 * (S 148 7)) + 0).toNatClampNeg l1) 148 7)) + 1).toNatClampNeg ((up2 S 154 ((8 * (S 148 7)) + 0).toNatClampNeg l1) 150 ((4 * l1) + 0).toNatClampNeg)) 154 ((8 * ((up2 (up2 S 154 ((8 * (S 148 7)) + 0).toNatClampNeg l1) 154 ((8 * ((up2 S 154 ((8 * (S 148 7)) + 0).toNatClampNeg l1) 148 7)) + 1).toNatClampNeg ((up2 S 154 ((8 * (S 148 7)) + 0).toNatClampNeg l1) 150 ((4 * l1) + 0).toNatClampNeg)) 148 7)) + 2).toNatClampNeg ((up2 (up2 S 154 ((8 * (S 148 7)) + 0).toNatClampNeg l1) 154 ((8 * ((up2 S 154 ((8 * (S 148 7)) + 0).toNatClampNeg l1) 148 7)) + 1).toNatClampNeg ((up2 S 154 ((8 * (S 148 7)) + 0).toNatClampNeg l1) 150 ((4 * l1) + 0).toNatClampNeg)) 150 ((4 * l1) + 1).toNatClampNeg)) 150 ((4 * l1) + 2).toNatClampNeg)) 148 7)) + 4).toNatClampNeg ((S 150 ((4 * l1) + 3).toNatClampNeg) - (S 150 ((4 * l1) + 3).toNatClampNeg) / 128 * 128)) 148 7)) + 5).toNatClampNeg ((S 150 ((4 * l1) + 3).toNatClampNeg) / 128)) 154 ((8 * ((up2 (up2 (up2 (up2 (up2 (up2 S 154 ((8 * (S 148 7)) + 0).toNatClampNeg l1) 154 ((8 * ((up2 S 154 ((8 * (S 148 7)) + 0).toNatClampNeg l1) 148 7)) + 1).toNatClampNeg ((up2 S 154 ((8 * (S 148 7)) + 0).toNatClampNeg l1) 150 ((4 * l1) + 0).toNatClampNeg)) 154 ((8 * ((up2 (up2 S 154 ((8 * (S 148 7)) + 0).toNatClampNeg l1) 154 ((8 * ((up2 S 154 ((8 * (S 148 7)) + 0).toNatClampNeg l1) 148 7)) + 1).toNatClampNeg ((up2 S 154 ((8 * (S 148 7)) + 0).toNatClampNeg l1) 150 ((4 * l1) + 0).toNatClampNeg)) 148 7)) + 2).toNatClampNeg ((up2 (up2 S 154 ((8 * (S 148 7)) + 0).toNatClampNeg l1) 154 ((8 * ((up2 S 154 ((8 * (S 148 7)) + 0).toNatClampNeg l1) 148 7)) + 1).toNatClampNeg ((up2 S 154 ((8 * (S 148 7)) + 0).toNatClampNeg l1) 150 ((4 * l1) + 0).toNatClampNeg)) 150 ((4 * l1) + 1).toNatClampNeg)) 154 ((8 * ((up2 (up2 (up2 S 154 ((8 * (S 148 7)) + 0).toNatClampNeg l1) 154 ((8 * ((up2 S 154 ((8 * (S 148 7)) + 0).toNatClampNeg l1) 148 7)) + 1).toNatClampNeg ((up2 S 154 ((8 * (S 148 7)) + 0).toNatClampNeg l1) 150 ((4 * l1) + 0).toNatClampNeg)) 154 ((8 * ((up2 (up2 S 154 ((8 * (S 148 7)) + 0).toNatClampNeg l1) 154 ((8 * ((up2 S 154 ((8 * (S 148 7)) + 0).toNatClampNeg l1) 148 7)) + 1).toNatClampNeg ((up2 S 154 ((8 * (S 148 7)) + 0).toNatClampNeg l1) 150 ((4 * l1) + 0).toNatClampNeg)) 148 7)) + 2).toNatClampNeg ((up2 (up2 S 154 ((8 * (S 148 7)) + 0).toNatClampNeg l1) 154 ((8 * ((up2 S 154 ((8 * (S 148 7)) + 0).toNatClampNeg l1) 148 7)) + 1).toNatClampNeg ((up2 S 154 ((8 * (S 148 7)) + 0).toNatClampNeg l1) 150 ((4 * l1) + 0).toNatClampNeg)) 150 ((4 * l1) + 1).toNatClampNeg)) 148 7)) + 3).toNatClampNeg ((up2 (up2 (up2 S 154 ((8 * (S 148 7)) + 0).toNatClampNeg l1) 154 ((8 * ((up2 S 154 ((8 * (S 148 7)) + 0).toNatClampNeg l1) 148 7)) + 1).toNatClampNeg ((up2 S 154 ((8 * (S 148 7)) + 0).toNatClampNeg l1) 150 ((4 * l1) + 0).toNatClampNeg)) 154 ((8 * ((up2 (up2 S 154 ((8 * (S 148 7)) + 0).toNatClampNeg l1) 154 ((8 * ((up2 S 154 ((8 * (S 148 7)) + 0).toNatClampNeg l1) 148 7)) + 1).toNatClampNeg ((up2 S 154 ((8 * (S 148 7)) + 0).toNatClampNeg l1) 150 ((4 * l1) + 0).toNatClampNeg)) 148 7)) + 2).toNatClampNeg ((up2 (up2 S 154 ((8 * (S 148 7)) + 0).toNatClampNeg l1) 154 ((8 * ((up2 S 154 ((8 * (S 148 7)) + 0).toNatClampNeg l1) 148 7)) + 1).toNatClampNeg ((up2 S 154 ((8 * (S 148 7)) + 0).toNatClampNeg l1) 150 ((4 * l1) + 0).toNatClampNeg)) 150 ((4 * l1) + 1).toNatClampNeg)) 150 ((4 * l1) + 2).toNatClampNeg)) 154 ((8 * ((up2 (up2 (up2 (up2 S 154 ((8 * (S 148 7)) + 0).toNatClampNeg l1) 154 ((8 * ((up2 S 154 ((8 * (S 148 7)) + 0).toNatClampNeg l1) 148 7)) + 1).toNatClampNeg ((up2 S 154 ((8 * (S 148 7)) + 0).toNatClampNeg l1) 150 ((4 * l1) + 0).toNatClampNeg)) 154 ((8 * ((up2 (up2 S 154 ((8 * (S 148 7)) + 0).toNatClampNeg l1) 154 ((8 * ((up2 S 154 ((8 * (S 148 7)) + 0).toNatClampNeg l1) 148 7)) + 1).toNatClampNeg ((up2 S 154 ((8 * (S 148 7)) + 0).toNatClampNeg l1) 150 ((4 * l1) + 0).toNatClampNeg)) 148 7)) + 2).toNatClampNeg ((up2 (up2 S 154 ((8 * (S 148 7)) + 0).toNatClampNeg l1) 154 ((8 * ((up2 S 154 ((8 * (S 148 7)) + 0).toNatClampNeg l1) 148 7)) + 1).toNatClampNeg ((up2 S 154 ((8 * (S 148 7)) + 0).toNatClampNeg l1) 150 ((4 * l1) + 0).toNatClampNeg)) 150 ((4 * l1) + 1).toNatClampNeg)) 154 ((8 * ((up2 (up2 (up2 S 154 ((8 * (S 148 7)) + 0).toNatClampNeg l1) 154 ((8 * ((up2 S 154 ((8 * (S 148 7)) + 0).toNatClampNeg l1) 148 7)) + 1).toNatClampNeg ((up2 S 154 ((8 * (S 148 7)) + 0).toNatClampNeg l1) 150 ((4 * l1) + 0).toNatClampNeg)) 154 ((8 * ((up2 (up2 S 154 ((8 * (S 148 7)) + 0).toNatClampNeg l1) 154 ((8 * ((up2 S 154 ((8 * (S 148 7)) + 0).toNatClampNeg l1) 148 7)) + 1).toNatClampNeg ((up2 S 154 ((8 * (S 148 7)) + 0).toNatClampNeg l1) 150 ((4 * l1) + 0).toNatClampNeg)) 148 7)) + 2).toNatClampNeg ((up2 (up2 S 154 ((8 * (S 148 7)) + 0).toNatClampNeg l1) 154 ((8 * ((up2 S 154 ((8 * (S 148 7)) + 0).toNatClampNeg l1) 148 7)) + 1).toNatClampNeg ((up2 S 154 ((8 * (S 148 7)) + 0).toNatClampNeg l1) 150 ((4 * l1) + 0).toNatClampNeg)) 150 ((4 * l1) + 1).toNatClampNeg)) 148 7)) + 3).toNatClampNeg ((up2 (up2 (up2 S 154 ((8 * (S 148 7)) + 0).toNatClampNeg l1) 154 ((8 * ((up2 S 154 ((8 * (S 148 7)) + 0).toNatClampNeg l1) 148 7)) + 1).toNatClampNeg ((up2 S 154 ((8 * (S 148 7)) + 0).toNatClampNeg l1) 150 ((4 * l1) + 0).toNatClampNeg)) 154 ((8 * ((up2 (up2 S 154 ((8 * (S 148 7)) + 0).toNatClampNeg l1) 154 ((8 * ((up2 S 154 ((8 * (S 148 7)) + 0).toNatClampNeg l1) 148 7)) + 1).toNatClampNeg ((up2 S 154 ((8 * (S 148 7)) + 0).toNatClampNeg l1) 150 ((4 * l1) + 0).toNatClampNeg)) 148 7)) + 2).toNatClampNeg ((up2 (up2 S 154 ((8 * (S 148 7)) + 0).toNatClampNeg l1) 154 ((8 * ((up2 S 154 ((8 * (S 148 7)) + 0).toNatClampNeg l1) 148 7)) + 1).toNatClampNeg ((up2 S 154 ((8 * (S 148 7)) + 0).toNatClampNeg l1) 150 ((4 * l1) + 0).toNatClampNeg)) 150 ((4 * l1) + 1).toNatClampNeg)) 150 ((4 * l1) + 2).toNatClampNeg)) 148 7)) + 4).toNatClampNeg ((S 150 ((4 * l1) + 3).toNatClampNeg) - (S 150 ((4 * l1) + 3).toNatClampNeg) / 128 * 128)) 154 ((8 * ((up2 (up2 (up2 (up2 (up2 S 154 ((8 * (S 148 7)) + 0).toNatClampNeg l1) 154 ((8 * ((up2 S 154 ((8 * (S 148 7)) + 0).toNatClampNeg l1) 148 7)) + 1).toNatClampNeg ((up2 S 154 ((8 * (S 148 7)) + 0).toNatClampNeg l1) 150 ((4 * l1) + 0).toNatClampNeg)) 154 ((8 * ((up2 (up2 S 154 ((8 * (S 148 7)) + 0).toNatClampNeg l1) 154 ((8 * ((up2 S 154 ((8 * (S 148 7)) + 0).toNatClampNeg l1) 148 7)) + 1).toNatClampNeg ((up2 S 154 ((8 * (S 148 7)) + 0).toNatClampNeg l1) 150 ((4 * l1) + 0).toNatClampNeg)) 148 7)) + 2).toNatClampNeg ((up2 (up2 S 154 ((8 * (S 148 7)) + 0).toNatClampNeg l1) 154 ((8 * ((up2 S 154 ((8 * (S 148 7)) + 0).toNatClampNeg l1) 148 7)) + 1).toNatClampNeg ((up2 S 154 ((8 * (S 148 7)) + 0).toNatClampNeg l1) 150 ((4 * l1) + 0).toNatClampNeg)) 150 ((4 * l1) + 1).toNatClampNeg)) 154 ((8 * ((up2 (up2 (up2 S 154 ((8 * (S 148 7)) + 0).toNatClampNeg l1) 154 ((8 * ((up2 S 154 ((8 * (S 148 7)) + 0).toNatClampNeg l1) 148 7)) + 1).toNatClampNeg ((up2 S 154 ((8 * (S 148 7)) + 0).toNatClampNeg l1) 150 ((4 * l1) + 0).toNatClampNeg)) 154 ((8 * ((up2 (up2 S 154 ((8 * (S 148 7)) + 0).toNatClampNeg l1) 154 ((8 * ((up2 S 154 ((8 * (S 148 7)) + 0).toNatClampNeg l1) 148 7)) + 1).toNatClampNeg ((up2 S 154 ((8 * (S 148 7)) + 0).toNatClampNeg l1) 150 ((4 * l1) + 0).toNatClampNeg)) 148 7)) + 2).toNatClampNeg ((up2 (up2 S 154 ((8 * (S 148 7)) + 0).toNatClampNeg l1) 154 ((8 * ((up2 S 154 ((8 * (S 148 7)) + 0).toNatClampNeg l1) 148 7)) + 1).toNatClampNeg ((up2 S 154 ((8 * (S 148 7)) + 0).toNatClampNeg l1) 150 ((4 * l1) + 0).toNatClampNeg)) 150 ((4 * l1) + 1).toNatClampNeg)) 148 7)) + 3).toNatClampNeg ((up2 (up2 (up2 S 154 ((8 * (S 148 7)) + 0).toNatClampNeg l1) 154 ((8 * ((up2 S 154 ((8 * (S 148 7)) + 0).toNatClampNeg l1) 148 7)) + 1).toNatClampNeg ((up2 S 154 ((8 * (S 148 7)) + 0).toNatClampNeg l1) 150 ((4 * l1) + 0).toNatClampNeg)) 154 ((8 * ((up2 (up2 S 154 ((8 * (S 148 7)) + 0).toNatClampNeg l1) 154 ((8 * ((up2 S 154 ((8 * (S 148 7)) + 0).toNatClampNeg l1) 148 7)) + 1).toNatClampNeg ((up2 S 154 ((8 * (S 148 7)) + 0).toNatClampNeg l1) 150 ((4 * l1) + 0).toNatClampNeg)) 148 7)) + 2).toNatClampNeg ((up2 (up2 S 154 ((8 * (S 148 7)) + 0).toNatClampNeg l1) 154 ((8 * ((up2 S 154 ((8 * (S 148 7)) + 0).toNatClampNeg l1) 148 7)) + 1).toNatClampNeg ((up2 S 154 ((8 * (S 148 7)) + 0).toNatClampNeg l1) 150 ((4 * l1) + 0).toNatClampNeg)) 150 ((4 * l1) + 1).toNatClampNeg)) 150 ((4 * l1) + 2).toNatClampNeg)) 154 ((8 * ((up2 (up2 (up2 (up2 S 154 ((8 * (S 148 7)) + 0).toNatClampNeg l1) 154 ((8 * ((up2 S 154 ((8 * (S 148 7)) + 0).toNatClampNeg l1) 148 7)) + 1).toNatClampNeg ((up2 S 154 ((8 * (S 148 7)) + 0).toNatClampNeg l1) 150 ((4 * l1) + 0).toNatClampNeg)) 154 ((8 * ((up2 (up2 S 154 ((8 * (S 148 7)) + 0).toNatClampNeg l1) 154 ((8 * ((up2 S 154 ((8 * (S 148 7)) + 0).toNatClampNeg l1) 148 7)) + 1).toNatClampNeg ((up2 S 154 ((8 * (S 148 7)) + 0).toNatClampNeg l1) 150 ((4 * l1) + 0).toNatClampNeg)) 148 7)) + 2).toNatClampNeg ((up2 (up2 S 154 ((8 * (S 148 7)) + 0).toNatClampNeg l1) 154 ((8 * ((up2 S 154 ((8 * (S 148 7)) + 0).toNatClampNeg l1) 148 7)) + 1).toNatClampNeg ((up2 S 154 ((8 * (S 148 7)) + 0).toNatClampNeg l1) 150 ((4 * l1) + 0).toNatClampNeg)) 150 ((4 * l1) + 1).toNatClampNeg)) 154 ((8 * ((up2 (up2 (up2 S 154 ((8 * (S 148 7)) + 0).toNatClampNeg l1) 154 ((8 * ((up2 S 154 ((8 * (S 148 7)) + 0).toNatClampNeg l1) 148 7)) + 1).toNatClampNeg ((up2 S 154 ((8 * (S 148 7)) + 0).toNatClampNeg l1) 150 ((4 * l1) + 0).toNatClampNeg)) 154 ((8 * ((up2 (up2 S 154 ((8 * (S 148 7)) + 0).toNatClampNeg l1) 154 ((8 * ((up2 S 154 ((8 * (S 148 7)) + 0).toNatClampNeg l1) 148 7)) + 1).toNatClampNeg ((up2 S 154 ((8 * (S 148 7)) + 0).toNatClampNeg l1) 150 ((4 * l1) + 0).toNatClampNeg)) 148 7)) + 2).toNatClampNeg ((up2 (up2 S 154 ((8 * (S 148 7)) + 0).toNatClampNeg l1) 154 ((8 * ((up2 S 154 ((8 * (S 148 7)) + 0).toNatClampNeg l1) 148 7)) + 1).toNatClampNeg ((up2 S 154 ((8 * (S 148 7)) + 0).toNatClampNeg l1) 150 ((4 * l1) + 0).toNatClampNeg)) 150 ((4 * l1) + 1).toNatClampNeg)) 148 7)) + 3).toNatClampNeg ((up2 (up2 (up2 S 154 ((8 * (S 148 7)) + 0).toNatClampNeg l1) 154 ((8 * ((up2 S 154 ((8 * (S 148 7)) + 0).toNatClampNeg l1) 148 7)) + 1).toNatClampNeg ((up2 S 154 ((8 * (S 148 7)) + 0).toNatClampNeg l1) 150 ((4 * l1) + 0).toNatClampNeg)) 154 ((8 * ((up2 (up2 S 154 ((8 * (S 148 7)) + 0).toNatClampNeg l1) 154 ((8 * ((up2 S 154 ((8 * (S 148 7)) + 0).toNatClampNeg l1) 148 7)) + 1).toNatClampNeg ((up2 S 154 ((8 * (S 148 7)) + 0).toNatClampNeg l1) 150 ((4 * l1) + 0).toNatClampNeg)) 148 7)) + 2).toNatClampNeg ((up2 (up2 S 154 ((8 * (S 148 7)) + 0).toNatClampNeg l1) 154 ((8 * ((up2 S 154 ((8 * (S 148 7)) + 0).toNatClampNeg l1) 148 7)) + 1).toNatClampNeg ((up2 S 154 ((8 * (S 148 7)) + 0).toNatClampNeg l1) 150 ((4 * l1) + 0).toNatClampNeg)) 150 ((4 * l1) + 1).toNatClampNeg)) 150 ((4 * l1) + 2).toNatClampNeg)) 148 7)) + 4).toNatClampNeg ((S 150 ((4 * l1) + 3).toNatClampNeg) - (S 150 ((4 * l1) + 3).toNatClampNeg) / 128 * 128)) 148 7)) + 5).toNatClampNeg ((S 150 ((4 * l1) + 3).toNatClampNeg) / 128)) 148 7)) + 6).toNatClampNeg 0) 148 7)) + 7).toNatClampNeg (-1)) = S') [.int ((up2 (up2 (up2 (up2 (up2 (up2 (up2 S 154 ((8 * (S 148 7)) + 0).toNatClampNeg l1) 154 ((8 * ((up2 S 154 ((8 * (S 148 7)) + 0).toNatClampNeg l1) 148 7)) + 1).toNatClampNeg ((up2 S 154 ((8 * (S 148 7)) + 0).toNatClampNeg l1) 150 ((4 * l1) + 0).toNatClampNeg)) 154 ((8 * ((up2 (up2 S 154 ((8 * (S 148 7)) + 0).toNatClampNeg l1) 154 ((8 * ((up2 S 154 ((8 * (S 148 7)) + 0).toNatClampNeg l1) 148 7)) + 1).toNatClampNeg ((up2 S 154 ((8 * (S 148 7)) + 0).toNatClampNeg l1) 150 ((4 * l1) + 0).toNatClampNeg)) 148 7)) + 2).toNatClampNeg ((up2 (up2 S 154 ((8 * (S 148 7)) + 0).toNatClampNeg l1) 154 ((8 * ((up2 S 154 ((8 * (S 148 7)) + 0).toNatClampNeg l1) 148 7)) + 1).toNatClampNeg ((up2 S 154 ((8 * (S 148 7)) + 0).toNatClampNeg l1) 150 ((4 * l1) + 0).toNatClampNeg)) 150 ((4 * l1) + 1).toNatClampNeg)) 154 ((8 * ((up2 (up2 (up2 S 154 ((8 * (S 148 7)) + 0).toNatClampNeg l1) 154 ((8 * ((up2 S 154 ((8 * (S 148 7)) + 0).toNatClampNeg l1) 148 7)) + 1).toNatClampNeg ((up2 S 154 ((8 * (S 148 7)) + 0).toNatClampNeg l1) 150 ((4 * l1) + 0).toNatClampNeg)) 154 ((8 * ((up2 (up2 S 154 ((8 * (S 148 7)) + 0).toNatClampNeg l1) 154 ((8 * ((up2 S 154 ((8 * (S 148 7)) + 0).toNatClampNeg l1) 148 7)) + 1).toNatClampNeg ((up2 S 154 ((8 * (S 148 7)) + 0).toNatClampNeg l1) 150 ((4 * l1) + 0).toNatClampNeg)) 148 7)) + 2).toNatClampNeg ((up2 (up2 S 154 ((8 * (S 148 7)) + 0).toNatClampNeg l1) 154 ((8 * ((up2 S 154 ((8 * (S 148 7)) + 0).toNatClampNeg l1) 148 7)) + 1).toNatClampNeg ((up2 S 154 ((8 * (S 148 7)) + 0).toNatClampNeg l1) 150 ((4 * l1) + 0).toNatClampNeg)) 150 ((4 * l1) + 1).toNatClampNeg)) 148 7)) + 3).toNatClampNeg ((up2 (up2 (up2 S 154 ((8 * (S 148 7)) + 0).toNatClampNeg l1) 154 ((8 * ((up2 S 154 ((8 * (S 148 7)) + 0).toNatClampNeg l1) 148 7)) + 1).toNatClampNeg ((up2 S 154 ((8 * (S 148 7)) + 0).toNatClampNeg l1) 150 ((4 * l1) + 0).toNatClampNeg)) 154 ((8 * ((up2 (up2 S 154 ((8 * (S 148 7)) + 0).toNatClampNeg l1) 154 ((8 * ((up2 S 154 ((8 * (S 148 7)) + 0).toNatClampNeg l1) 148 7)) + 1).toNatClampNeg ((up2 S 154 ((8 * (S 148 7)) + 0).toNatClampNeg l1) 150 ((4 * l1) + 0).toNatClampNeg)) 148 7)) + 2).toNatClampNeg ((up2 (up2 S 154 ((8 * (S 148 7)) + 0).toNatClampNeg l1) 154 ((8 * ((up2 S 154 ((8 * (S 148 7)) + 0).toNatClampNeg l1) 148 7)) + 1).toNatClampNeg ((up2 S 154 ((8 * (S 148 7)) + 0).toNatClampNeg l1) 150 ((4 * l1) + 0).toNatClampNeg)) 150 ((4 * l1) + 1).toNatClampNeg)) 150 ((4 * l1) + 2).toNatClampNeg)) 154 ((8 * ((up2 (up2 (up2 (up2 S 154 ((8 * (S 148 7)) + 0).toNatClampNeg l1) 154 ((8 * ((up2 S 154 ((8 * (S 148 7)) + 0).toNatClampNeg l1) 148 7)) + 1).toNatClampNeg ((up2 S 154 ((8 * (S 148 7)) + 0).toNatClampNeg l1) 150 ((4 * l1) + 0).toNatClampNeg)) 154 ((8 * ((up2 (up2 S 154 ((8 * (S 148 7)) + 0).toNatClampNeg l1) 154 ((8 * ((up2 S 154 ((8 * (S 148 7)) + 0).toNatClampNeg l1) 148 7)) + 1).toNatClampNeg ((up2 S 154 ((8 * (S 148 7)) + 0).toNatClampNeg l1) 150 ((4 * l1) + 0).toNatClampNeg)) 148 7)) + 2).toNatClampNeg ((up2 (up2 S 154 ((8 * (S 148 7)) + 0).toNatClampNeg l1) 154 ((8 * ((up2 S 154 ((8 * (S 148 7)) + 0).toNatClampNeg l1) 148 7)) + 1).toNatClampNeg ((up2 S 154 ((8 * (S 148 7)) + 0).toNatClampNeg l1) 150 ((4 * l1) + 0).toNatClampNeg)) 150 ((4 * l1) + 1).toNatClampNeg)) 154 ((8 * ((up2 (up2 (up2 S 154 ((8 * (S 148 7)) + 0).toNatClampNeg l1) 154 ((8 * ((up2 S 154 ((8 * (S 148 7)) + 0).toNatClampNeg l1) 148 7)) + 1).toNatClampNeg ((up2 S 154 ((8 * (S 148 7)) + 0).toNatClampNeg l1) 150 ((4 * l1) + 0).toNatClampNeg)) 154 ((8 * ((up2 (up2 S 154 ((8 * (S 148 7)) + 0).toNatClampNeg l1) 154 ((8 * ((up2 S 154 ((8 * (S 148 7)) + 0).toNatClampNeg l1) 148 7)) + 1).toNatClampNeg ((up2 S 154 ((8 * (S 148 7)) + 0).toNatClampNeg l1) 150 ((4 * l1) + 0).toNatClampNeg)) 148 7)) + 2).toNatClampNeg ((up2 (up2 S 154 ((8 * (S 148 7)) + 0).toNatClampNeg l1) 154 ((8 * ((up2 S 154 ((8 * (S 148 7)) + 0).toNatClampNeg l1) 148 7)) + 1).toNatClampNeg ((up2 S 154 ((8 * (S 148 7)) + 0).toNatClampNeg l1) 150 ((4 * l1) + 0).toNatClampNeg)) 150 ((4 * l1) + 1).toNatClampNeg)) 148 7)) + 3).toNatClampNeg ((up2 (up2 (up2 S 154 ((8 * (S 148 7)) + 0).toNatClampNeg l1) 154 ((8 * ((up2 S 154 ((8 * (S 148 7)) + 0).toNatClampNeg l1) 148 7)) + 1).toNatClampNeg ((up2 S 154 ((8 * (S 148 7)) + 0).toNatClampNeg l1) 150 ((4 * l1) + 0).toNatClampNeg)) 154 ((8 * ((up2 (up2 S 154 ((8 * (S 148 7)) + 0).toNatClampNeg l1) 154 ((8 * ((up2 S 154 ((8 * (S 148 7)) + 0).toNatClampNeg l1) 148 7)) + 1).toNatClampNeg ((up2 S 154 ((8 * (S 148 7)) + 0).toNatClampNeg l1) 150 ((4 * l1) + 0).toNatClampNeg)) 148 7)) + 2).toNatClampNeg ((up2 (up2 S 154 ((8 * (S 148 7)) + 0).toNatClampNeg l1) 154 ((8 * ((up2 S 154 ((8 * (S 148 7)) + 0).toNatClampNeg l1) 148 7)) + 1).toNatClampNeg ((up2 S 154 ((8 * (S 148 7)) + 0).toNatClampNeg l1) 150 ((4 * l1) + 0).toNatClampNeg)) 150 ((4 * l1) + 1).toNatClampNeg)) 150 ((4 * l1) + 2).toNatClampNeg)) 148 7)) + 4).toNatClampNeg ((S 150 ((4 * l1) + 3).toNatClampNeg) - (S 150 ((4 * l1) + 3).toNatClampNeg) / 128 * 128)) 154 ((8 * ((up2 (up2 (up2 (up2 (up2 S 154 ((8 * (S 148 7)) + 0).toNatClampNeg l1) 154 ((8 * ((up2 S 154 ((8 * (S 148 7)) + 0).toNatClampNeg l1) 148 7)) + 1).toNatClampNeg ((up2 S 154 ((8 * (S 148 7)) + 0).toNatClampNeg l1) 150 ((4 * l1) + 0).toNatClampNeg)) 154 ((8 * ((up2 (up2 S 154 ((8 * (S 148 7)) + 0).toNatClampNeg l1) 154 ((8 * ((up2 S 154 ((8 * (S 148 7)) + 0).toNatClampNeg l1) 148 7)) + 1).toNatClampNeg ((up2 S 154 ((8 * (S 148 7)) + 0).toNatClampNeg l1) 150 ((4 * l1) + 0).toNatClampNeg)) 148 7)) + 2).toNatClampNeg ((up2 (up2 S 154 ((8 * (S 148 7)) + 0).toNatClampNeg l1) 154 ((8 * ((up2 S 154 ((8 * (S 148 7)) + 0).toNatClampNeg l1) 148 7)) + 1).toNatClampNeg ((up2 S 154 ((8 * (S 148 7)) + 0).toNatClampNeg l1) 150 ((4 * l1) + 0).toNatClampNeg)) 150 ((4 * l1) + 1).toNatClampNeg)) 154 ((8 * ((up2 (up2 (up2 S 154 ((8 * (S 148 7)) + 0).toNatClampNeg l1) 154 ((8 * ((up2 S 154 ((8 * (S 148 7)) + 0).toNatClampNeg l1) 148 7)) + 1).toNatClampNeg ((up2 S 154 ((8 * (S 148 7)) + 0).toNatClampNeg l1) 150 ((4 * l1) + 0).toNatClampNeg)) 154 ((8 * ((up2 (up2 S 154 ((8 * (S 148 7)) + 0).toNatClampNeg l1) 154 ((8 * ((up2 S 154 ((8 * (S 148 7)) + 0).toNatClampNeg l1) 148 7)) + 1).toNatClampNeg ((up2 S 154 ((8 * (S 148 7)) + 0).toNatClampNeg l1) 150 ((4 * l1) + 0).toNatClampNeg)) 148 7)) + 2).toNatClampNeg ((up2 (up2 S 154 ((8 * (S 148 7)) + 0).toNatClampNeg l1) 154 ((8 * ((up2 S 154 ((8 * (S 148 7)) + 0).toNatClampNeg l1) 148 7)) + 1).toNatClampNeg ((up2 S 154 ((8 * (S 148 7)) + 0).toNatClampNeg l1) 150 ((4 * l1) + 0).toNatClampNeg)) 150 ((4 * l1) + 1).toNatClampNeg)) 148 7)) + 3).toNatClampNeg ((up2 (up2 (up2 S 154 ((8 * (S 148 7)) + 0).toNatClampNeg l1) 154 ((8 * ((up2 S 154 ((8 * (S 148 7)) + 0).toNatClampNeg l1) 148 7)) + 1).toNatClampNeg ((up2 S 154 ((8 * (S 148 7)) + 0).toNatClampNeg l1) 150 ((4 * l1) + 0).toNatClampNeg)) 154 ((8 * ((up2 (up2 S 154 ((8 * (S 148 7)) + 0).toNatClampNeg l1) 154 ((8 * ((up2 S 154 ((8 * (S 148 7)) + 0).toNatClampNeg l1) 148 7)) + 1).toNatClampNeg ((up2 S 154 ((8 * (S 148 7)) + 0).toNatClampNeg l1) 150 ((4 * l1) + 0).toNatClampNeg)) 148 7)) + 2).toNatClampNeg ((up2 (up2 S 154 ((8 * (S 148 7)) + 0).toNatClampNeg l1) 154 ((8 * ((up2 S 154 ((8 * (S 148 7)) + 0).toNatClampNeg l1) 148 7)) + 1).toNatClampNeg ((up2 S 154 ((8 * (S 148 7)) + 0).toNatClampNeg l1) 150 ((4 * l1) + 0).toNatClampNeg)) 150 ((4 * l1) + 1).toNatClampNeg)) 150 ((4 * l1) + 2).toNatClampNeg)) 154 ((8 * ((up2 (up2 (up2 (up2 S 154 ((8 * (S 148 7)) + 0).toNatClampNeg l1) 154 ((8 * ((up2 S 154 ((8 * (S 148 7)) + 0).toNatClampNeg l1) 148 7)) + 1).toNatClampNeg ((up2 S 154 ((8 * (S 148 7)) + 0).toNatClampNeg l1) 150 ((4 * l1) + 0).toNatClampNeg)) 154 ((8 * ((up2 (up2 S 154 ((8 * (S 148 7)) + 0).toNatClampNeg l1) 154 ((8 * ((up2 S 154 ((8 * (S 148 7)) + 0).toNatClampNeg l1) 148 7)) + 1).toNatClampNeg ((up2 S 154 ((8 * (S 148 7)) + 0).toNatClampNeg l1) 150 ((4 * l1) + 0).toNatClampNeg)) 148 7)) + 2).toNatClampNeg ((up2 (up2 S 154 ((8 * (S 148 7)) + 0).toNatClampNeg l1) 154 ((8 * ((up2 S 154 ((8 * (S 148 7)) + 0).toNatClampNeg l1) 148 7)) + 1).toNatClampNeg ((up2 S 154 ((8 * (S 148 7)) + 0).toNatClampNeg l1) 150 ((4 * l1) + 0).toNatClampNeg)) 150 ((4 * l1) + 1).toNatClampNeg)) 154 ((8 * ((up2 (up2 (up2 S 154 ((8 * (S 148 7)) + 0).toNatClampNeg l1) 154 ((8 * ((up2 S 154 ((8 * (S 148 7)) + 0).toNatClampNeg l1) 148 7)) + 1).toNatClampNeg ((up2 S 154 ((8 * (S 148 7)) + 0).toNatClampNeg l1) 150 ((4 * l1) + 0).toNatClampNeg)) 154 ((8 * ((up2 (up2 S 154 ((8 * (S 148 7)) + 0).toNatClampNeg l1) 154 ((8 * ((up2 S 154 ((8 * (S 148 7)) + 0).toNatClampNeg l1) 148 7)) + 1).toNatClampNeg ((up2 S 154 ((8 * (S 148 7)) + 0).toNatClampNeg l1) 150 ((4 * l1) + 0).toNatClampNeg)) 148 7)) + 2).toNatClampNeg ((up2 (up2 S 154 ((8 * (S 148 7)) + 0).toNatClampNeg l1) 154 ((8 * ((up2 S 154 ((8 * (S 148 7)) + 0).toNatClampNeg l1) 148 7)) + 1).toNatClampNeg ((up2 S 154 ((8 * (S 148 7)) + 0).toNatClampNeg l1) 150 ((4 * l1) + 0).toNatClampNeg)) 150 ((4 * l1) + 1).toNatClampNeg)) 148 7)) + 3).toNatClampNeg ((up2 (up2 (up2 S 154 ((8 * (S 148 7)) + 0).toNatClampNeg l1) 154 ((8 * ((up2 S 154 ((8 * (S 148 7)) + 0).toNatClampNeg l1) 148 7)) + 1).toNatClampNeg ((up2 S 154 ((8 * (S 148 7)) + 0).toNatClampNeg l1) 150 ((4 * l1) + 0).toNatClampNeg)) 154 ((8 * ((up2 (up2 S 154 ((8 * (S 148 7)) + 0).toNatClampNeg l1) 154 ((8 * ((up2 S 154 ((8 * (S 148 7)) + 0).toNatClampNeg l1) 148 7)) + 1).toNatClampNeg ((up2 S 154 ((8 * (S 148 7)) + 0).toNatClampNeg l1) 150 ((4 * l1) + 0).toNatClampNeg)) 148 7)) + 2).toNatClampNeg ((up2 (up2 S 154 ((8 * (S 148 7)) + 0).toNatClampNeg l1) 154 ((8 * ((up2 S 154 ((8 * (S 148 7)) + 0).toNatClampNeg l1) 148 7)) + 1).toNatClampNeg ((up2 S 154 ((8 * (S 148 7)) + 0).toNatClampNeg l1) 150 ((4 * l1) + 0).toNatClampNeg)) 150 ((4 * l1) + 1).toNatClampNeg)) 150 ((4 * l1) + 2).toNatClampNeg)) 148 7)) + 4).toNatClampNeg ((S 150 ((4 * l1) + 3).toNatClampNeg) - (S 150 ((4 * l1) + 3).toNatClampNeg) / 128 * 128)) 148 7)) + 5).toNatClampNeg ((S 150 ((4 * l1) + 3).toNatClampNeg) / 128)) 154 ((8 * ((up2 (up2 (up2 (up2 (up2 (up2 S 154 ((8 * (S 148 7)) + 0).toNatClampNeg l1) 154 ((8 * ((up2 S 154 ((8 * (S 148 7)) + 0).toNatClampNeg l1) 148 7)) + 1).toNatClampNeg ((up2 S 154 ((8 * (S 148 7)) + 0).toNatClampNeg l1) 150 ((4 * l1) + 0).toNatClampNeg)) 154 ((8 * ((up2 (up2 S 154 ((8 * (S 148 7)) + 0).toNatClampNeg l1) 154 ((8 * ((up2 S 154 ((8 * (S 148 7)) + 0).toNatClampNeg l1) 148 7)) + 1).toNatClampNeg ((up2 S 154 ((8 * (S 148 7)) + 0).toNatClampNeg l1) 150 ((4 * l1) + 0).toNatClampNeg)) 148 7)) + 2).toNatClampNeg ((up2 (up2 S 154 ((8 * (S 148 7)) + 0).toNatClampNeg l1) 154 ((8 * ((up2 S 154 ((8 * (S 148 7)) + 0).toNatClampNeg l1) 148 7)) + 1).toNatClampNeg ((up2 S 154 ((8 * (S 148 7)) + 0).toNatClampNeg l1) 150 ((4 * l1) + 0).toNatClampNeg)) 150 ((4 * l1) + 1).toNatClampNeg)) 154 ((8 * ((up2 (up2 (up2 S 154 ((8 * (S 148 7)) + 0).toNatClampNeg l1) 154 ((8 * ((up2 S 154 ((8 * (S 148 7)) + 0).toNatClampNeg l1) 148 7)) + 1).toNatClampNeg ((up2 S 154 ((8 * (S 148 7)) + 0).toNatClampNeg l1) 150 ((4 * l1) + 0).toNatClampNeg)) 154 ((8 * ((up2 (up2 S 154 ((8 * (S 148 7)) + 0).toNatClampNeg l1) 154 ((8 * ((up2 S 154 ((8 * (S 148 7)) + 0).toNatClampNeg l1) 148 7)) + 1).toNatClampNeg ((up2 S 154 ((8 * (S 148 7)) + 0).toNatClampNeg l1) 150 ((4 * l1) + 0).toNatClampNeg)) 148 7)) + 2).toNatClampNeg ((up2 (up2 S 154 ((8 * (S 148 7)) + 0).toNatClampNeg l1) 154 ((8 * ((up2 S 154 ((8 * (S 148 7)) + 0).toNatClampNeg l1) 148 7)) + 1).toNatClampNeg ((up2 S 154 ((8 * (S 148 7)) + 0).toNatClampNeg l1) 150 ((4 * l1) + 0).toNatClampNeg)) 150 ((4 * l1) + 1).toNatClampNeg)) 148 7)) + 3).toNatClampNeg ((up2 (up2 (up2 S 154 ((8 * (S 148 7)) + 0).toNatClampNeg l1) 154 ((8 * ((up2 S 154 ((8 * (S 148 7)) + 0).toNatClampNeg l1) 148 7)) + 1).toNatClampNeg ((up2 S 154 ((8 * (S 148 7)) + 0).toNatClampNeg l1) 150 ((4 * l1) + 0).toNatClampNeg)) 154 ((8 * ((up2 (up2 S 154 ((8 * (S 148 7)) + 0).toNatClampNeg l1) 154 ((8 * ((up2 S 154 ((8 * (S 148 7)) + 0).toNatClampNeg l1) 148 7)) + 1).toNatClampNeg ((up2 S 154 ((8 * (S 148 7)) + 0).toNatClampNeg l1) 150 ((4 * l1) + 0).toNatClampNeg)) 148 7)) + 2).toNatClampNeg ((up2 (up2 S 154 ((8 * (S 148 7)) + 0).toNatClampNeg l1) 154 ((8 * ((up2 S 154 ((8 * (S 148 7)) + 0).toNatClampNeg l1) 148 7)) + 1).toNatClampNeg ((up2 S 154 ((8 * (S 148 7)) + 0).toNatClampNeg l1) 150 ((4 * l1) + 0).toNatClampNeg)) 150 ((4 * l1) + 1).toNatClampNeg)) 150 ((4 * l1) + 2).toNatClampNeg)) 154 ((8 * ((up2 (up2 (up2 (up2 S 154 ((8 * (S 148 7)) + 0).toNatClampNeg l1) 154 ((8 * ((up2 S 154 ((8 * (S 148 7)) + 0).toNatClampNeg l1) 148 7)) + 1).toNatClampNeg ((up2 S 154 ((8 * (S 148 7)) + 0).toNatClampNeg l1) 150 ((4 * l1) + 0).toNatClampNeg)) 154 ((8 * ((up2 (up2 S 154 ((8 * (S 148 7)) + 0).toNatClampNeg l1) 154 ((8 * ((up2 S 154 ((8 * (S 148 7)) + 0).toNatClampNeg l1) 148 7)) + 1).toNatClampNeg ((up2 S 154 ((8 * (S 148 7)) + 0).toNatClampNeg l1) 150 ((4 * l1) + 0).toNatClampNeg)) 148 7)) + 2).toNatClampNeg ((up2 (up2 S 154 ((8 * (S 148 7)) + 0).toNatClampNeg l1) 154 ((8 * ((up2 S 154 ((8 * (S 148 7)) + 0).toNatClampNeg l1) 148 7)) + 1).toNatClampNeg ((up2 S 154 ((8 * (S 148 7)) + 0).toNatClampNeg l1) 150 ((4 * l1) + 0).toNatClampNeg)) 150 ((4 * l1) + 1).toNatClampNeg)) 154 ((8 * ((up2 (up2 (up2 S 154 ((8 * (S 148 7)) + 0).toNatClampNeg l1) 154 ((8 * ((up2 S 154 ((8 * (S 148 7)) + 0).toNatClampNeg l1) 148 7)) + 1).toNatClampNeg ((up2 S 154 ((8 * (S 148 7)) + 0).toNatClampNeg l1) 150 ((4 * l1) + 0).toNatClampNeg)) 154 ((8 * ((up2 (up2 S 154 ((8 * (S 148 7)) + 0).toNatClampNeg l1) 154 ((8 * ((up2 S 154 ((8 * (S 148 7)) + 0).toNatClampNeg l1) 148 7)) + 1).toNatClampNeg ((up2 S 154 ((8 * (S 148 7)) + 0).toNatClampNeg l1) 150 ((4 * l1) + 0).toNatClampNeg)) 148 7)) + 2).toNatClampNeg ((up2 (up2 S 154 ((8 * (S 148 7)) + 0).toNatClampNeg l1) 154 ((8 * ((up2 S 154 ((8 * (S 148 7)) + 0).toNatClampNeg l1) 148 7)) + 1).toNatClampNeg ((up2 S 154 ((8 * (S 148 7)) + 0).toNatClampNeg l1) 150 ((4 * l1) + 0).toNatClampNeg)) 150 ((4 * l1) + 1).toNatClampNeg)) 148 7)) + 3).toNatClampNeg ((up2 (up2 (up2 S 154 ((8 * (S 148 7)) + 0).toNatClampNeg l1) 154 ((8 * ((up2 S 154 ((8 * (S 148 7)) + 0).toNatClampNeg l1) 148 7)) + 1).toNatClampNeg ((up2 S 154 ((8 * (S 148 7)) + 0).toNatClampNeg l1) 150 ((4 * l1) + 0).toNatClampNeg)) 154 ((8 * ((up2 (up2 S 154 ((8 * (S 148 7)) + 0).toNatClampNeg l1) 154 ((8 * ((up2 S 154 ((8 * (S 148 7)) + 0).toNatClampNeg l1) 148 7)) + 1).toNatClampNeg ((up2 S 154 ((8 * (S 148 7)) + 0).toNatClampNeg l1) 150 ((4 * l1) + 0).toNatClampNeg)) 148 7)) + 2).toNatClampNeg ((up2 (up2 S 154 ((8 * (S 148 7)) + 0).toNatClampNeg l1) 154 ((8 * ((up2 S 154 ((8 * (S 148 7)) + 0).toNatClampNeg l1) 148 7)) + 1).toNatClampNeg ((up2 S 154 ((8 * (S 148 7)) + 0).toNatClampNeg l1) 150 ((4 * l1) + 0).toNatClampNeg)) 150 ((4 * l1) + 1).toNatClampNeg)) 150 ((4 * l1) + 2).toNatClampNeg)) 148 7)) + 4).toNatClampNeg ((S 150 ((4 * l1) + 3).toNatClampNeg) - (S 150 ((4 * l1) + 3).toNatClampNeg) / 128 * 128)) 154 ((8 * ((up2 (up2 (up2 (up2 (up2 S 154 ((8 * (S 148 7)) + 0).toNatClampNeg l1) 154 ((8 * ((up2 S 154 ((8 * (S 148 7)) + 0).toNatClampNeg l1) 148 7)) + 1).toNatClampNeg ((up2 S 154 ((8 * (S 148 7)) + 0).toNatClampNeg l1) 150 ((4 * l1) + 0).toNatClampNeg)) 154 ((8 * ((up2 (up2 S 154 ((8 * (S 148 7)) + 0).toNatClampNeg l1) 154 ((8 * ((up2 S 154 ((8 * (S 148 7)) + 0).toNatClampNeg l1) 148 7)) + 1).toNatClampNeg ((up2 S 154 ((8 * (S 148 7)) + 0).toNatClampNeg l1) 150 ((4 * l1) + 0).toNatClampNeg)) 148 7)) + 2).toNatClampNeg ((up2 (up2 S 154 ((8 * (S 148 7)) + 0).toNatClampNeg l1) 154 ((8 * ((up2 S 154 ((8 * (S 148 7)) + 0).toNatClampNeg l1) 148 7)) + 1).toNatClampNeg ((up2 S 154 ((8 * (S 148 7)) + 0).toNatClampNeg l1) 150 ((4 * l1) + 0).toNatClampNeg)) 150 ((4 * l1) + 1).toNatClampNeg)) 154 ((8 * ((up2 (up2 (up2 S 154 ((8 * (S 148 7)) + 0).toNatClampNeg l1) 154 ((8 * ((up2 S 154 ((8 * (S 148 7)) + 0).toNatClampNeg l1) 148 7)) + 1).toNatClampNeg ((up2 S 154 ((8 * (S 148 7)) + 0).toNatClampNeg l1) 150 ((4 * l1) + 0).toNatClampNeg)) 154 ((8 * ((up2 (up2 S 154 ((8 * (S 148 7)) + 0).toNatClampNeg l1) 154 ((8 * ((up2 S 154 ((8 * (S 148 7)) + 0).toNatClampNeg l1) 148 7)) + 1).toNatClampNeg ((up2 S 154 ((8 * (S 148 7)) + 0).toNatClampNeg l1) 150 ((4 * l1) + 0).toNatClampNeg)) 148 7)) + 2).toNatClampNeg ((up2 (up2 S 154 ((8 * (S 148 7)) + 0).toNatClampNeg l1) 154 ((8 * ((up2 S 154 ((8 * (S 148 7)) + 0).toNatClampNeg l1) 148 7)) + 1).toNatClampNeg ((up2 S 154 ((8 * (S 148 7)) + 0).toNatClampNeg l1) 150 ((4 * l1) + 0).toNatClampNeg)) 150 ((4 * l1) + 1).toNatClampNeg)) 148 7)) + 3).toNatClampNeg ((up2 (up2 (up2 S 154 ((8 * (S 148 7)) + 0).toNatClampNeg l1) 154 ((8 * ((up2 S 154 ((8 * (S 148 7)) + 0).toNatClampNeg l1) 148 7)) + 1).toNatClampNeg ((up2 S 154 ((8 * (S 148 7)) + 0).toNatClampNeg l1) 150 ((4 * l1) + 0).toNatClampNeg)) 154 ((8 * ((up2 (up2 S 154 ((8 * (S 148 7)) + 0).toNatClampNeg l1) 154 ((8 * ((up2 S 154 ((8 * (S 148 7)) + 0).toNatClampNeg l1) 148 7)) + 1).toNatClampNeg ((up2 S 154 ((8 * (S 148 7)) + 0).toNatClampNeg l1) 150 ((4 * l1) + 0).toNatClampNeg)) 148 7)) + 2).toNatClampNeg ((up2 (up2 S 154 ((8 * (S 148 7)) + 0).toNatClampNeg l1) 154 ((8 * ((up2 S 154 ((8 * (S 148 7)) + 0).toNatClampNeg l1) 148 7)) + 1).toNatClampNeg ((up2 S 154 ((8 * (S 148 7)) + 0).toNatClampNeg l1) 150 ((4 * l1) + 0).toNatClampNeg)) 150 ((4 * l1) + 1).toNatClampNeg)) 150 ((4 * l1) + 2).toNatClampNeg)) 154 ((8 * ((up2 (up2 (up2 (up2 S 154 ((8 * (S 148 7)) + 0).toNatClampNeg l1) 154 ((8 * ((up2 S 154 ((8 * (S 148 7)) + 0).toNatClampNeg l1) 148 7)) + 1).toNatClampNeg ((up2 S 154 ((8 * (S 148 7)) + 0).toNatClampNeg l1) 150 ((4 * l1) + 0).toNatClampNeg)) 154 ((8 * ((up2 (up2 S 154 ((8 * (S 148 7)) + 0).toNatClampNeg l1) 154 ((8 * ((up2 S 154 ((8 * (S 148 7)) + 0).toNatClampNeg l1) 148 7)) + 1).toNatClampNeg ((up2 S 154 ((8 * (S 148 7)) + 0).toNatClampNeg l1) 150 ((4 * l1) + 0).toNatClampNeg)) 148 7)) + 2).toNatClampNeg ((up2 (up2 S 154 ((8 * (S 148 7)) + 0).toNatClampNeg l1) 154 ((8 * ((up2 S 154 ((8 * (S 148 7)) + 0).toNatClampNeg l1) 148 7)) + 1).toNatClampNeg ((up2 S 154 ((8 * (S 148 7)) + 0).toNatClampNeg l1) 150 ((4 * l1) + 0).toNatClampNeg)) 150 ((4 * l1) + 1).toNatClampNeg)) 154 ((8 * ((up2 (up2 (up2 S 154 ((8 * (S 148 7)) + 0).toNatClampNeg l1) 154 ((8 * ((up2 S 154 ((8 * (S 148 7)) + 0).toNatClampNeg l1) 148 7)) + 1).toNatClampNeg ((up2 S 154 ((8 * (S 148 7)) + 0).toNatClampNeg l1) 150 ((4 * l1) + 0).toNatClampNeg)) 154 ((8 * ((up2 (up2 S 154 ((8 * (S 148 7)) + 0).toNatClampNeg l1) 154 ((8 * ((up2 S 154 ((8 * (S 148 7)) + 0).toNatClampNeg l1) 148 7)) + 1).toNatClampNeg ((up2 S 154 ((8 * (S 148 7)) + 0).toNatClampNeg l1) 150 ((4 * l1) + 0).toNatClampNeg)) 148 7)) + 2).toNatClampNeg ((up2 (up2 S 154 ((8 * (S 148 7)) + 0).toNatClampNeg l1) 154 ((8 * ((up2 S 154 ((8 * (S 148 7)) + 0).toNatClampNeg l1) 148 7)) + 1).toNatClampNeg ((up2 S 154 ((8 * (S 148 7)) + 0).toNatClampNeg l1) 150 ((4 * l1) + 0).toNatClampNeg)) 150 ((4 * l1) + 1).toNatClampNeg)) 148 7)) + 3).toNatClampNeg ((up2 (up2 (up2 S 154 ((8 * (S 148 7)) + 0).toNatClampNeg l1) 154 ((8 * ((up2 S 154 ((8 * (S 148 7)) + 0).toNatClampNeg l1) 148 7)) + 1).toNatClampNeg ((up2 S 154 ((8 * (S 148 7)) + 0).toNatClampNeg l1) 150 ((4 * l1) + 0).toNatClampNeg)) 154 ((8 * ((up2 (up2 S 154 ((8 * (S 148 7)) + 0).toNatClampNeg l1) 154 ((8 * ((up2 S 154 ((8 * (S 148 7)) + 0).toNatClampNeg l1) 148 7)) + 1).toNatClampNeg ((up2 S 154 ((8 * (S 148 7)) + 0).toNatClampNeg l1) 150 ((4 * l1) + 0).toNatClampNeg)) 148 7)) + 2).toNatClampNeg ((up2 (up2 S 154 ((8 * (S 148 7)) + 0).toNatClampNeg l1) 154 ((8 * ((up2 S 154 ((8 * (S 148 7)) + 0).toNatClampNeg l1) 148 7)) + 1).toNatClampNeg ((up2 S 154 ((8 * (S 148 7)) + 0).toNatClampNeg l1) 150 ((4 * l1) + 0).toNatClampNeg)) 150 ((4 * l1) + 1).toNatClampNeg)) 150 ((4 * l1) + 2).toNatClampNeg)) 148 7)) + 4).toNatClampNeg ((S 150 ((4 * l1) + 3).toNatClampNeg) - (S 150 ((4 * l1) + 3).toNatClampNeg) / 128 * 128)) 148 7)) + 5).toNatClampNeg ((S 150 ((4 * l1) + 3).toNatClampNeg) / 128)) 148 7)) + 6).toNatClampNeg 0) 148 7), .int 7, .int (-1)] hx rfl w_774 cv_r_put hG.1 (by decide) rfl rfl rfl rfl (zr_put hx hG (⟨hc12, fun _ hS => by subst hS; exact rfl⟩)) ?_ (fun _ _ hf => hf.elim)
  rintro S' rfl
  refine z_aload_n rfl rfl ?_
  refine z_dup rfl rfl ?_
  refine z_geti (ci := 7) 7 rfl hG.1 rfl w_665 ?_
  refine z_iconst 1 rfl rfl ?_
  refine z_iadd rfl ?_
  replace hw := hw _ rfl
  refine z_puti (ci := 7) 7 rfl hG.1 rfl w_665 rfl rfl rfl ?_
  exact z_vret rfl rfl rfl rfl (Or.inl ⟨_, rfl, rfl, hw⟩)
def r_delete_L18 (post : Mem → Prop)  : Nat → Mem → Int32 → Prop
  | 0, _, _ => False
  | n + 1, S, l2 =>
  ((l2 < 0) →
   post S) ∧
  ((¬ l2 < 0) →
   r_find (fun r1 S1 =>
    r_behind (fun r2 S2 =>
     ((¬ (if r2 = (r1 + 1) then 1 else 0 : Int32) = 0 → (vp_in ((8 * r1) + 7) 112))) ∧ 
     (((if r2 = (r1 + 1) then 1 else 0 : Int32) = 0) →
      r_delete_L18 post n S2 (if (if r2 = (r1 + 1) then 1 else 0 : Int32) = 0 then (-1) else (S2 154 ((8 * r1) + 7).toNatClampNeg) : Int32)) ∧
     ((¬ (if r2 = (r1 + 1) then 1 else 0 : Int32) = 0) →
      r_takeOut (fun S3 =>
       r_delete_L18 post n S3 (if (if r2 = (r1 + 1) then 1 else 0 : Int32) = 0 then (-1) else (S2 154 ((8 * r1) + 7).toNatClampNeg) : Int32)) S2 r1 (r1 + 1))) S1 r1) S l2)
set_option maxRecDepth 100000 in
set_option maxHeartbeats 1000000 in
theorem zr_delete_L18 {g : Gm} {G : Gp} {post : Mem → Prop} (hx : G.2.2.2 = false) (hG : isR G) : ∀ (n : Nat) {S : Mem} {l2 : Int32} , r_delete_L18 post n S l2 → Z g M_r_delete 0 0 18 [some (.ref 148), none, some (.int l2), none, none] [] (S, G) (Qv G post noEx) := by
  intro n
  induction n with
  | zero =>
    intros
    rename_i hw
    exact hw.elim
  | succ n ih =>
    intro S l2 hw
    rw [r_delete_L18] at hw
    refine z_iload_n rfl rfl ?_
    refine z_if_lt rfl (fun hq => ?_) (fun hq => ?_)
    · replace hw := hw.1 hq
      exact z_vret rfl rfl rfl rfl (Or.inl ⟨_, rfl, rfl, hw⟩)
    · replace hw := hw.2 hq
      refine z_aload_n rfl rfl ?_
      refine z_iload_n rfl rfl ?_
      refine z_cvi (M' := M_r_find) [.int l2] hx rfl w_750 cv_r_find hG.1 (by decide) rfl rfl rfl rfl (zr_find hx hG hw) ?_ (fun _ _ hf => hf.elim)
      clear hw
      intro r1 S1 hw
      refine z_istore_n [some (.ref 148), none, some (.int l2), some (.int r1), none] rfl rfl rfl ?_
      refine z_aload_n rfl rfl ?_
      refine z_iload_n rfl rfl ?_
      refine z_cvi (M' := M_r_behind) [.int r1] hx rfl w_782 cv_r_behind hG.1 (by decide) rfl rfl rfl rfl (zr_behind hx hG hw) ?_ (fun _ _ hf => hf.elim)
      clear hw
      intro r2 S2 hw
      refine z_iload_n rfl rfl ?_
      refine z_iconst 1 rfl rfl ?_
      refine z_iadd rfl ?_
      have hj36 : ∀ v : Int32, v = (if r2 = (r1 + 1) then 1 else 0 : Int32) → Z g M_r_delete 0 0 44 [some (.ref 148), none, some (.int l2), some (.int r1), none] [.int v] (S2, G) (Qv G post noEx) := by
        intro v hv
        subst hv
        refine z_istore [some (.ref 148), none, some (.int l2), some (.int r1), some (.int (if r2 = (r1 + 1) then 1 else 0 : Int32))] rfl rfl rfl ?_
        refine z_iload rfl rfl ?_
        obtain ⟨hc1, hw⟩ := hw
        have hj48 : ∀ v : Int32, v = (if (if r2 = (r1 + 1) then 1 else 0 : Int32) = 0 then (-1) else (S2 154 ((8 * r1) + 7).toNatClampNeg) : Int32) → Z g M_r_delete 0 0 62 [some (.ref 148), none, some (.int l2), some (.int r1), some (.int (if r2 = (r1 + 1) then 1 else 0 : Int32))] [.int v] (S2, G) (Qv G post noEx) := by
          intro v hv
          subst hv
          refine z_istore_n [some (.ref 148), none, some (.int (if (if r2 = (r1 + 1) then 1 else 0 : Int32) = 0 then (-1) else (S2 154 ((8 * r1) + 7).toNatClampNeg) : Int32)), some (.int r1), some (.int (if r2 = (r1 + 1) then 1 else 0 : Int32))] rfl rfl rfl ?_
          refine z_iload rfl rfl ?_
          refine z_if_eq rfl (fun hq => ?_) (fun hq => ?_)
          · replace hw := hw.1 hq
            refine z_goto rfl ?_
            refine Z.forget' [some (.ref 148), none, some (.int (if (if r2 = (r1 + 1) then 1 else 0 : Int32) = 0 then (-1) else (S2 154 ((8 * r1) + 7).toNatClampNeg) : Int32)), none, none] ⟨rfl, ⟨rfl, trivial⟩⟩ ?_
            exact ih hw
          · replace hw := hw.2 hq
            refine z_aload_n rfl rfl ?_
            refine z_iload_n rfl rfl ?_
            refine z_iload_n rfl rfl ?_
            refine z_iconst 1 rfl rfl ?_
            refine z_iadd rfl ?_
            refine z_cvv (M' := M_r_takeOut) [.int r1, .int (r1 + 1)] hx rfl w_786 cv_r_takeOut hG.1 (by decide) rfl rfl rfl rfl (zr_takeOut hx hG hw) ?_ (fun _ _ hf => hf.elim)
            clear hw
            intro S3 hw
            refine z_goto rfl ?_
            refine Z.forget' [some (.ref 148), none, some (.int (if (if r2 = (r1 + 1) then 1 else 0 : Int32) = 0 then (-1) else (S2 154 ((8 * r1) + 7).toNatClampNeg) : Int32)), none, none] ⟨rfl, ⟨rfl, trivial⟩⟩ ?_
            exact ih hw
        refine z_if_eq rfl (fun hp48 => ?_) (fun hp48 => ?_)
        · refine z_iconst (-1) rfl rfl ?_
          exact hj48 _ (by rw [if_pos hp48])
        · refine z_aload_n rfl rfl ?_
          refine z_iload_n rfl rfl ?_
          refine z_bipush 7 rfl rfl ?_
          refine z_cvi (M' := M_r_of) (post := fun v S' => (S2 154 ((8 * r1) + 7).toNatClampNeg) = v ∧ S2 = S') [.int r1, .int 7] hx rfl w_754 cv_r_of hG.1 (by decide) rfl rfl rfl rfl (zr_of hx hG  (⟨(hc1 hp48), ⟨rfl, rfl⟩⟩)) ?_ (fun _ _ hf => hf.elim)
          rintro v S' ⟨rfl, rfl⟩
          refine z_goto rfl ?_
          exact hj48 _ (by rw [if_neg hp48])
      refine z_icmp_ne rfl (fun hp36 => ?_) (fun hp36 => ?_)
      · refine z_iconst 0 rfl rfl ?_
        exact hj36 _ (by rw [if_neg hp36])
      · refine z_iconst 1 rfl rfl ?_
        refine z_goto rfl ?_
        exact hj36 _ (by rw [if_pos hp36])
def r_delete (post : Mem → Prop) (S : Mem) (l1 : Int32) : Prop :=
  (vp_in ((8 * l1) + 7) 112) ∧ 
  r_behind (fun r1 S1 =>
   r_takeOut (fun S2 =>
    ∃ n, r_delete_L18 post n S2 (S 154 ((8 * l1) + 7).toNatClampNeg)) S1 l1 r1) S l1
set_option maxRecDepth 100000 in
set_option maxHeartbeats 1000000 in
theorem zr_delete {g : Gm} {G : Gp} {S : Mem} {post : Mem → Prop} {l1 : Int32} (hx : G.2.2.2 = false) (hG : isR G) (hw : r_delete post S l1) : Z g M_r_delete 0 0 0 (entryL [.ref 148, .int l1] (mL M_r_delete)) [] (S, G) (Qv G post noEx) := by
  unfold r_delete at hw
  show Z g M_r_delete 0 0 0 [some (.ref 148), some (.int l1), none, none, none] [] (S, G) (Qv G post noEx)
  refine z_aload_n rfl rfl ?_
  refine z_iload_n rfl rfl ?_
  refine z_bipush 7 rfl rfl ?_
  obtain ⟨hc1, hw⟩ := hw
  refine z_cvi (M' := M_r_of) (post := fun v S' => (S 154 ((8 * l1) + 7).toNatClampNeg) = v ∧ S = S') [.int l1, .int 7] hx rfl w_754 cv_r_of hG.1 (by decide) rfl rfl rfl rfl (zr_of hx hG (⟨hc1, ⟨rfl, rfl⟩⟩)) ?_ (fun _ _ hf => hf.elim)
  rintro v S' ⟨rfl, rfl⟩
  refine z_istore_n [some (.ref 148), some (.int l1), some (.int (S 154 ((8 * l1) + 7).toNatClampNeg)), none, none] rfl rfl rfl ?_
  refine z_aload_n rfl rfl ?_
  refine z_iload_n rfl rfl ?_
  refine z_aload_n rfl rfl ?_
  refine z_iload_n rfl rfl ?_
  refine z_cvi (M' := M_r_behind) [.int l1] hx rfl w_782 cv_r_behind hG.1 (by decide) rfl rfl rfl rfl (zr_behind hx hG hw) ?_ (fun _ _ hf => hf.elim)
  clear hw
  intro r1 S1 hw
  refine z_cvv (M' := M_r_takeOut) [.int l1, .int r1] hx rfl w_786 cv_r_takeOut hG.1 (by decide) rfl rfl rfl rfl (zr_takeOut hx hG hw) ?_ (fun _ _ hf => hf.elim)
  clear hw
  intro S2 hw
  refine Z.forget' [some (.ref 148), none, some (.int (S 154 ((8 * l1) + 7).toNatClampNeg)), none, none] ⟨rfl, ⟨rfl, trivial⟩⟩ ?_
  obtain ⟨n, hw⟩ := hw
  exact zr_delete_L18 hx hG n hw
def r_scaled (post : Int32 → Mem → Prop) (S : Mem) (l0 : Int32) (l1 : Int32) (l2 : Int32) : Prop :=
  (¬ l2 = 0) ∧ post ((l0 * l1) / l2) S
set_option maxRecDepth 100000 in
set_option maxHeartbeats 1000000 in
theorem zr_scaled {g : Gm} {G : Gp} {S : Mem} {post : Int32 → Mem → Prop} {l0 : Int32} {l1 : Int32} {l2 : Int32} (hx : G.2.2.2 = false) (hG : isR G) (hw : r_scaled post S l0 l1 l2) : Z g M_r_scaled 0 0 0 (entryL [.int l0, .int l1, .int l2] (mL M_r_scaled)) [] (S, G) (Qi G post noEx) := by
  unfold r_scaled at hw
  show Z g M_r_scaled 0 0 0 [some (.int l0), some (.int l1), some (.int l2)] [] (S, G) (Qi G post noEx)
  refine z_iload_n rfl rfl ?_
  refine z_iload_n rfl rfl ?_
  refine z_imul rfl ?_
  refine z_iload_n rfl rfl ?_
  obtain ⟨hc1, hw⟩ := hw
  refine z_idiv rfl hc1 ?_
  exact z_iret rfl rfl rfl rfl (Or.inl ⟨_, _, rfl, rfl, hw⟩)
end
section
def r_scale_L9 (post : Mem → Prop)  : Nat → Mem → Int32 → Int32 → Int32 → Int32 → Prop
  | 0, _, _, _, _, _ => False
  | n + 1, S, l2, l3, l4, l5 =>
  ((l2 ≤ l5) →
   post S) ∧
  ((¬ l2 ≤ l5) →
   (vp_in ((8 * l5) + 1) 112) ∧ 
   (((S 154 ((8 * l5) + 1).toNatClampNeg) = 3) →
    r_scale_L9 post n S l2 l3 l4 (l5 + 1)) ∧
   ((¬ (S 154 ((8 * l5) + 1).toNatClampNeg) = 3) →
    (vp_in ((8 * l5) + 4) 112) ∧ 
    (¬ l4 = 0) ∧ 
    (vp_in ((8 * l5) + 5) 112) ∧ 
    (¬ l4 = 0) ∧ 
    (vp_in ((8 * l5) + 2) 112) ∧ 
    (¬ l4 = 0) ∧ 
    (vp_in ((8 * l5) + 2) 112) ∧ ∀ S1, S1 = up2 S 154 ((8 * l5) + 2).toNatClampNeg ((S 148 12) + ((((S 154 ((8 * l5) + 2).toNatClampNeg) - (S 148 12)) * l3) / l4)) → 
    (vp_in ((8 * l5) + 3) 112) ∧ 
    (¬ l4 = 0) ∧ 
    (vp_in ((8 * l5) + 3) 112) ∧ ∀ S2, S2 = up2 S1 154 ((8 * l5) + 3).toNatClampNeg ((S1 148 13) + ((((S1 154 ((8 * l5) + 3).toNatClampNeg) - (S1 148 13)) * l3) / l4)) → 
    (vp_in ((8 * l5) + 4) 112) ∧ ∀ S3, S3 = up2 S2 154 ((8 * l5) + 4).toNatClampNeg (if 1 ≤ (((S 154 ((8 * l5) + 4).toNatClampNeg) * l3) / l4) then (((S 154 ((8 * l5) + 4).toNatClampNeg) * l3) / l4) else 1 : Int32) → 
    (vp_in ((8 * l5) + 5) 112) ∧ ∀ S4, S4 = up2 S3 154 ((8 * l5) + 5).toNatClampNeg (if 1 ≤ (((S 154 ((8 * l5) + 5).toNatClampNeg) * l3) / l4) then (((S 154 ((8 * l5) + 5).toNatClampNeg) * l3) / l4) else 1 : Int32) → 
    r_scale_L9 post n S4 l2 l3 l4 (l5 + 1)))
set_option maxRecDepth 100000 in
set_option maxHeartbeats 1000000 in
theorem zr_scale_L9 {g : Gm} {G : Gp} {post : Mem → Prop} (hx : G.2.2.2 = false) (hG : isR G) : ∀ (n : Nat) {S : Mem} {l2 : Int32} {l3 : Int32} {l4 : Int32} {l5 : Int32} , r_scale_L9 post n S l2 l3 l4 l5 → Z g M_r_scale 0 0 9 [some (.ref 148), none, some (.int l2), some (.int l3), some (.int l4), some (.int l5), none, none] [] (S, G) (Qv G post noEx) := by
  intro n
  induction n with
  | zero =>
    intros
    rename_i hw
    exact hw.elim
  | succ n ih =>
    intro S l2 l3 l4 l5 hw
    rw [r_scale_L9] at hw
    refine z_iload rfl rfl ?_
    refine z_iload_n rfl rfl ?_
    refine z_icmp_ge rfl (fun hq => ?_) (fun hq => ?_)
    · replace hw := hw.1 hq
      exact z_vret rfl rfl rfl rfl (Or.inl ⟨_, rfl, rfl, hw⟩)
    · replace hw := hw.2 hq
      refine z_aload_n rfl rfl ?_
      refine z_iload rfl rfl ?_
      refine z_iconst 1 rfl rfl ?_
      obtain ⟨hc1, hw⟩ := hw
      refine z_cvi (M' := M_r_of) (post := fun v S' => (S 154 ((8 * l5) + 1).toNatClampNeg) = v ∧ S = S') [.int l5, .int 1] hx rfl w_754 cv_r_of hG.1 (by decide) rfl rfl rfl rfl (zr_of hx hG (⟨hc1, ⟨rfl, rfl⟩⟩)) ?_ (fun _ _ hf => hf.elim)
      rintro v S' ⟨rfl, rfl⟩
      refine z_iconst 3 rfl rfl ?_
      refine z_icmp_eq rfl (fun hq => ?_) (fun hq => ?_)
      · replace hw := hw.1 hq
        refine z_iinc 1 [some (.ref 148), none, some (.int l2), some (.int l3), some (.int l4), some (.int (l5 + 1)), none, none] rfl rfl rfl rfl ?_
        refine z_goto rfl ?_
        refine Z.forget' [some (.ref 148), none, some (.int l2), some (.int l3), some (.int l4), some (.int (l5 + 1)), none, none] ⟨rfl, ⟨rfl, ⟨rfl, ⟨rfl, ⟨rfl, trivial⟩⟩⟩⟩⟩ ?_
        exact ih hw
      · replace hw := hw.2 hq
        refine z_aload_n rfl rfl ?_
        refine z_iload rfl rfl ?_
        refine z_iconst 4 rfl rfl ?_
        obtain ⟨hc2, hw⟩ := hw
        refine z_cvi (M' := M_r_of) (post := fun v S' => (S 154 ((8 * l5) + 4).toNatClampNeg) = v ∧ S = S') [.int l5, .int 4] hx rfl w_754 cv_r_of hG.1 (by decide) rfl rfl rfl rfl (zr_of hx hG (⟨hc2, ⟨rfl, rfl⟩⟩)) ?_ (fun _ _ hf => hf.elim)
        rintro v S' ⟨rfl, rfl⟩
        refine z_iload_n rfl rfl ?_
        refine z_iload rfl rfl ?_
        obtain ⟨hc3, hw⟩ := hw
        refine z_csi (M' := M_r_scaled) (post := fun v S' => (((S 154 ((8 * l5) + 4).toNatClampNeg) * l3) / l4) = v ∧ S = S') [.int (S 154 ((8 * l5) + 4).toNatClampNeg), .int l3, .int l4] hx rfl w_808 cs_r_scaled rfl rfl rfl (zr_scaled hx hG (⟨hc3, ⟨rfl, rfl⟩⟩)) ?_ (fun _ _ hf => hf.elim)
        rintro v S' ⟨rfl, rfl⟩
        refine z_istore [some (.ref 148), none, some (.int l2), some (.int l3), some (.int l4), some (.int l5), some (.int (((S 154 ((8 * l5) + 4).toNatClampNeg) * l3) / l4)), none] rfl rfl rfl ?_
        refine z_aload_n rfl rfl ?_
        refine z_iload rfl rfl ?_
        refine z_iconst 5 rfl rfl ?_
        obtain ⟨hc4, hw⟩ := hw
        refine z_cvi (M' := M_r_of) (post := fun v S' => (S 154 ((8 * l5) + 5).toNatClampNeg) = v ∧ S = S') [.int l5, .int 5] hx rfl w_754 cv_r_of hG.1 (by decide) rfl rfl rfl rfl (zr_of hx hG (⟨hc4, ⟨rfl, rfl⟩⟩)) ?_ (fun _ _ hf => hf.elim)
        rintro v S' ⟨rfl, rfl⟩
        refine z_iload_n rfl rfl ?_
        refine z_iload rfl rfl ?_
        obtain ⟨hc5, hw⟩ := hw
        refine z_csi (M' := M_r_scaled) (post := fun v S' => (((S 154 ((8 * l5) + 5).toNatClampNeg) * l3) / l4) = v ∧ S = S') [.int (S 154 ((8 * l5) + 5).toNatClampNeg), .int l3, .int l4] hx rfl w_808 cs_r_scaled rfl rfl rfl (zr_scaled hx hG (⟨hc5, ⟨rfl, rfl⟩⟩)) ?_ (fun _ _ hf => hf.elim)
        rintro v S' ⟨rfl, rfl⟩
        refine z_istore [some (.ref 148), none, some (.int l2), some (.int l3), some (.int l4), some (.int l5), some (.int (((S 154 ((8 * l5) + 4).toNatClampNeg) * l3) / l4)), some (.int (((S 154 ((8 * l5) + 5).toNatClampNeg) * l3) / l4))] rfl rfl rfl ?_
        refine z_aload_n rfl rfl ?_
        refine z_iload rfl rfl ?_
        refine z_iconst 2 rfl rfl ?_
        refine z_aload_n rfl rfl ?_
        refine z_geti (ci := 7) 12 rfl hG.1 rfl w_670 ?_
        refine z_aload_n rfl rfl ?_
        refine z_iload rfl rfl ?_
        refine z_iconst 2 rfl rfl ?_
        obtain ⟨hc6, hw⟩ := hw
        refine z_cvi (M' := M_r_of) (post := fun v S' => (S 154 ((8 * l5) + 2).toNatClampNeg) = v ∧ S = S') [.int l5, .int 2] hx rfl w_754 cv_r_of hG.1 (by decide) rfl rfl rfl rfl (zr_of hx hG (⟨hc6, ⟨rfl, rfl⟩⟩)) ?_ (fun _ _ hf => hf.elim)
        rintro v S' ⟨rfl, rfl⟩
        refine z_aload_n rfl rfl ?_
        refine z_geti (ci := 7) 12 rfl hG.1 rfl w_670 ?_
        refine z_isub rfl ?_
        refine z_iload_n rfl rfl ?_
        refine z_iload rfl rfl ?_
        obtain ⟨hc7, hw⟩ := hw
        refine z_csi (M' := M_r_scaled) (post := fun v S' => ((((S 154 ((8 * l5) + 2).toNatClampNeg) - (S 148 12)) * l3) / l4) = v ∧ S = S') [.int ((S 154 ((8 * l5) + 2).toNatClampNeg) - (S 148 12)), .int l3, .int l4] hx rfl w_808 cs_r_scaled rfl rfl rfl (zr_scaled hx hG (⟨hc7, ⟨rfl, rfl⟩⟩)) ?_ (fun _ _ hf => hf.elim)
        rintro v S' ⟨rfl, rfl⟩
        refine z_iadd rfl ?_
        obtain ⟨hc8, hw⟩ := hw
        replace hw := hw _ rfl
        refine z_cvv (M' := M_r_put) (post := fun S' => (up2 S 154 ((8 * l5) + 2).toNatClampNeg ((S 148 12) + ((((S 154 ((8 * l5) + 2).toNatClampNeg) - (S 148 12)) * l3) / l4))) = S') [.int l5, .int 2, .int ((S 148 12) + ((((S 154 ((8 * l5) + 2).toNatClampNeg) - (S 148 12)) * l3) / l4))] hx rfl w_774 cv_r_put hG.1 (by decide) rfl rfl rfl rfl (zr_put hx hG (⟨hc8, fun _ hS => by subst hS; exact rfl⟩)) ?_ (fun _ _ hf => hf.elim)
        rintro S' rfl
        refine z_aload_n rfl rfl ?_
        refine z_iload rfl rfl ?_
        refine z_iconst 3 rfl rfl ?_
        refine z_aload_n rfl rfl ?_
        refine z_geti (ci := 7) 13 rfl hG.1 rfl w_671 ?_
        refine z_aload_n rfl rfl ?_
        refine z_iload rfl rfl ?_
        refine z_iconst 3 rfl rfl ?_
        obtain ⟨hc9, hw⟩ := hw
        refine z_cvi (M' := M_r_of) (post := fun v S' => ((up2 S 154 ((8 * l5) + 2).toNatClampNeg ((S 148 12) + ((((S 154 ((8 * l5) + 2).toNatClampNeg) - (S 148 12)) * l3) / l4))) 154 ((8 * l5) + 3).toNatClampNeg) = v ∧ (up2 S 154 ((8 * l5) + 2).toNatClampNeg ((S 148 12) + ((((S 154 ((8 * l5) + 2).toNatClampNeg) - (S 148 12)) * l3) / l4))) = S') [.int l5, .int 3] hx rfl w_754 cv_r_of hG.1 (by decide) rfl rfl rfl rfl (zr_of hx hG (⟨hc9, ⟨rfl, rfl⟩⟩)) ?_ (fun _ _ hf => hf.elim)
        rintro v S' ⟨rfl, rfl⟩
        refine z_aload_n rfl rfl ?_
        refine z_geti (ci := 7) 13 rfl hG.1 rfl w_671 ?_
        refine z_isub rfl ?_
        refine z_iload_n rfl rfl ?_
        refine z_iload rfl rfl ?_
        obtain ⟨hc10, hw⟩ := hw
        refine z_csi (M' := M_r_scaled) (post := fun v S' => (((((up2 S 154 ((8 * l5) + 2).toNatClampNeg ((S 148 12) + ((((S 154 ((8 * l5) + 2).toNatClampNeg) - (S 148 12)) * l3) / l4))) 154 ((8 * l5) + 3).toNatClampNeg) - ((up2 S 154 ((8 * l5) + 2).toNatClampNeg ((S 148 12) + ((((S 154 ((8 * l5) + 2).toNatClampNeg) - (S 148 12)) * l3) / l4))) 148 13)) * l3) / l4) = v ∧ (up2 S 154 ((8 * l5) + 2).toNatClampNeg ((S 148 12) + ((((S 154 ((8 * l5) + 2).toNatClampNeg) - (S 148 12)) * l3) / l4))) = S') [.int (((up2 S 154 ((8 * l5) + 2).toNatClampNeg ((S 148 12) + ((((S 154 ((8 * l5) + 2).toNatClampNeg) - (S 148 12)) * l3) / l4))) 154 ((8 * l5) + 3).toNatClampNeg) - ((up2 S 154 ((8 * l5) + 2).toNatClampNeg ((S 148 12) + ((((S 154 ((8 * l5) + 2).toNatClampNeg) - (S 148 12)) * l3) / l4))) 148 13)), .int l3, .int l4] hx rfl w_808 cs_r_scaled rfl rfl rfl (zr_scaled hx hG (⟨hc10, ⟨rfl, rfl⟩⟩)) ?_ (fun _ _ hf => hf.elim)
        rintro v S' ⟨rfl, rfl⟩
        refine z_iadd rfl ?_
        obtain ⟨hc11, hw⟩ := hw
        replace hw := hw _ rfl
        refine z_cvv (M' := M_r_put) (post := fun S' => (up2 (up2 S 154 ((8 * l5) + 2).toNatClampNeg ((S 148 12) + ((((S 154 ((8 * l5) + 2).toNatClampNeg) - (S 148 12)) * l3) / l4))) 154 ((8 * l5) + 3).toNatClampNeg (((up2 S 154 ((8 * l5) + 2).toNatClampNeg ((S 148 12) + ((((S 154 ((8 * l5) + 2).toNatClampNeg) - (S 148 12)) * l3) / l4))) 148 13) + (((((up2 S 154 ((8 * l5) + 2).toNatClampNeg ((S 148 12) + ((((S 154 ((8 * l5) + 2).toNatClampNeg) - (S 148 12)) * l3) / l4))) 154 ((8 * l5) + 3).toNatClampNeg) - ((up2 S 154 ((8 * l5) + 2).toNatClampNeg ((S 148 12) + ((((S 154 ((8 * l5) + 2).toNatClampNeg) - (S 148 12)) * l3) / l4))) 148 13)) * l3) / l4))) = S') [.int l5, .int 3, .int (((up2 S 154 ((8 * l5) + 2).toNatClampNeg ((S 148 12) + ((((S 154 ((8 * l5) + 2).toNatClampNeg) - (S 148 12)) * l3) / l4))) 148 13) + (((((up2 S 154 ((8 * l5) + 2).toNatClampNeg ((S 148 12) + ((((S 154 ((8 * l5) + 2).toNatClampNeg) - (S 148 12)) * l3) / l4))) 154 ((8 * l5) + 3).toNatClampNeg) - ((up2 S 154 ((8 * l5) + 2).toNatClampNeg ((S 148 12) + ((((S 154 ((8 * l5) + 2).toNatClampNeg) - (S 148 12)) * l3) / l4))) 148 13)) * l3) / l4))] hx rfl w_774 cv_r_put hG.1 (by decide) rfl rfl rfl rfl (zr_put hx hG (⟨hc11, fun _ hS => by subst hS; exact rfl⟩)) ?_ (fun _ _ hf => hf.elim)
        rintro S' rfl
        refine z_aload_n rfl rfl ?_
        refine z_iload rfl rfl ?_
        refine z_iconst 4 rfl rfl ?_
        refine z_iload rfl rfl ?_
        refine z_iconst 1 rfl rfl ?_
        have hj123 : ∀ v : Int32, v = (if 1 ≤ (((S 154 ((8 * l5) + 4).toNatClampNeg) * l3) / l4) then (((S 154 ((8 * l5) + 4).toNatClampNeg) * l3) / l4) else 1 : Int32) → Z g M_r_scale 0 0 132 [some (.ref 148), none, some (.int l2), some (.int l3), some (.int l4), some (.int l5), some (.int (((S 154 ((8 * l5) + 4).toNatClampNeg) * l3) / l4)), some (.int (((S 154 ((8 * l5) + 5).toNatClampNeg) * l3) / l4))] [.int v, .int 4, .int l5, .ref 148] ((up2 (up2 S 154 ((8 * l5) + 2).toNatClampNeg ((S 148 12) + ((((S 154 ((8 * l5) + 2).toNatClampNeg) - (S 148 12)) * l3) / l4))) 154 ((8 * l5) + 3).toNatClampNeg (((up2 S 154 ((8 * l5) + 2).toNatClampNeg ((S 148 12) + ((((S 154 ((8 * l5) + 2).toNatClampNeg) - (S 148 12)) * l3) / l4))) 148 13) + (((((up2 S 154 ((8 * l5) + 2).toNatClampNeg ((S 148 12) + ((((S 154 ((8 * l5) + 2).toNatClampNeg) - (S 148 12)) * l3) / l4))) 154 ((8 * l5) + 3).toNatClampNeg) - ((up2 S 154 ((8 * l5) + 2).toNatClampNeg ((S 148 12) + ((((S 154 ((8 * l5) + 2).toNatClampNeg) - (S 148 12)) * l3) / l4))) 148 13)) * l3) / l4))), G) (Qv G post noEx) := by
          intro v hv
          subst hv
          obtain ⟨hc12, hw⟩ := hw
          replace hw := hw _ rfl
          refine z_cvv (M' := M_r_put) (post := fun S' => (up2 (up2 (up2 S 154 ((8 * l5) + 2).toNatClampNeg ((S 148 12) + ((((S 154 ((8 * l5) + 2).toNatClampNeg) - (S 148 12)) * l3) / l4))) 154 ((8 * l5) + 3).toNatClampNeg (((up2 S 154 ((8 * l5) + 2).toNatClampNeg ((S 148 12) + ((((S 154 ((8 * l5) + 2).toNatClampNeg) - (S 148 12)) * l3) / l4))) 148 13) + (((((up2 S 154 ((8 * l5) + 2).toNatClampNeg ((S 148 12) + ((((S 154 ((8 * l5) + 2).toNatClampNeg) - (S 148 12)) * l3) / l4))) 154 ((8 * l5) + 3).toNatClampNeg) - ((up2 S 154 ((8 * l5) + 2).toNatClampNeg ((S 148 12) + ((((S 154 ((8 * l5) + 2).toNatClampNeg) - (S 148 12)) * l3) / l4))) 148 13)) * l3) / l4))) 154 ((8 * l5) + 4).toNatClampNeg (if 1 ≤ (((S 154 ((8 * l5) + 4).toNatClampNeg) * l3) / l4) then (((S 154 ((8 * l5) + 4).toNatClampNeg) * l3) / l4) else 1 : Int32)) = S') [.int l5, .int 4, .int (if 1 ≤ (((S 154 ((8 * l5) + 4).toNatClampNeg) * l3) / l4) then (((S 154 ((8 * l5) + 4).toNatClampNeg) * l3) / l4) else 1 : Int32)] hx rfl w_774 cv_r_put hG.1 (by decide) rfl rfl rfl rfl (zr_put hx hG (⟨hc12, fun _ hS => by subst hS; exact rfl⟩)) ?_ (fun _ _ hf => hf.elim)
          rintro S' rfl
          refine z_aload_n rfl rfl ?_
          refine z_iload rfl rfl ?_
          refine z_iconst 5 rfl rfl ?_
          refine z_iload rfl rfl ?_
          refine z_iconst 1 rfl rfl ?_
          have hj142 : ∀ v : Int32, v = (if 1 ≤ (((S 154 ((8 * l5) + 5).toNatClampNeg) * l3) / l4) then (((S 154 ((8 * l5) + 5).toNatClampNeg) * l3) / l4) else 1 : Int32) → Z g M_r_scale 0 0 151 [some (.ref 148), none, some (.int l2), some (.int l3), some (.int l4), some (.int l5), some (.int (((S 154 ((8 * l5) + 4).toNatClampNeg) * l3) / l4)), some (.int (((S 154 ((8 * l5) + 5).toNatClampNeg) * l3) / l4))] [.int v, .int 5, .int l5, .ref 148] ((up2 (up2 (up2 S 154 ((8 * l5) + 2).toNatClampNeg ((S 148 12) + ((((S 154 ((8 * l5) + 2).toNatClampNeg) - (S 148 12)) * l3) / l4))) 154 ((8 * l5) + 3).toNatClampNeg (((up2 S 154 ((8 * l5) + 2).toNatClampNeg ((S 148 12) + ((((S 154 ((8 * l5) + 2).toNatClampNeg) - (S 148 12)) * l3) / l4))) 148 13) + (((((up2 S 154 ((8 * l5) + 2).toNatClampNeg ((S 148 12) + ((((S 154 ((8 * l5) + 2).toNatClampNeg) - (S 148 12)) * l3) / l4))) 154 ((8 * l5) + 3).toNatClampNeg) - ((up2 S 154 ((8 * l5) + 2).toNatClampNeg ((S 148 12) + ((((S 154 ((8 * l5) + 2).toNatClampNeg) - (S 148 12)) * l3) / l4))) 148 13)) * l3) / l4))) 154 ((8 * l5) + 4).toNatClampNeg (if 1 ≤ (((S 154 ((8 * l5) + 4).toNatClampNeg) * l3) / l4) then (((S 154 ((8 * l5) + 4).toNatClampNeg) * l3) / l4) else 1 : Int32)), G) (Qv G post noEx) := by
            intro v hv
            subst hv
            obtain ⟨hc13, hw⟩ := hw
            replace hw := hw _ rfl
            refine z_cvv (M' := M_r_put) (post := fun S' => (up2 (up2 (up2 (up2 S 154 ((8 * l5) + 2).toNatClampNeg ((S 148 12) + ((((S 154 ((8 * l5) + 2).toNatClampNeg) - (S 148 12)) * l3) / l4))) 154 ((8 * l5) + 3).toNatClampNeg (((up2 S 154 ((8 * l5) + 2).toNatClampNeg ((S 148 12) + ((((S 154 ((8 * l5) + 2).toNatClampNeg) - (S 148 12)) * l3) / l4))) 148 13) + (((((up2 S 154 ((8 * l5) + 2).toNatClampNeg ((S 148 12) + ((((S 154 ((8 * l5) + 2).toNatClampNeg) - (S 148 12)) * l3) / l4))) 154 ((8 * l5) + 3).toNatClampNeg) - ((up2 S 154 ((8 * l5) + 2).toNatClampNeg ((S 148 12) + ((((S 154 ((8 * l5) + 2).toNatClampNeg) - (S 148 12)) * l3) / l4))) 148 13)) * l3) / l4))) 154 ((8 * l5) + 4).toNatClampNeg (if 1 ≤ (((S 154 ((8 * l5) + 4).toNatClampNeg) * l3) / l4) then (((S 154 ((8 * l5) + 4).toNatClampNeg) * l3) / l4) else 1 : Int32)) 154 ((8 * l5) + 5).toNatClampNeg (if 1 ≤ (((S 154 ((8 * l5) + 5).toNatClampNeg) * l3) / l4) then (((S 154 ((8 * l5) + 5).toNatClampNeg) * l3) / l4) else 1 : Int32)) = S') [.int l5, .int 5, .int (if 1 ≤ (((S 154 ((8 * l5) + 5).toNatClampNeg) * l3) / l4) then (((S 154 ((8 * l5) + 5).toNatClampNeg) * l3) / l4) else 1 : Int32)] hx rfl w_774 cv_r_put hG.1 (by decide) rfl rfl rfl rfl (zr_put hx hG (⟨hc13, fun _ hS => by subst hS; exact rfl⟩)) ?_ (fun _ _ hf => hf.elim)
            rintro S' rfl
            refine z_iinc 1 [some (.ref 148), none, some (.int l2), some (.int l3), some (.int l4), some (.int (l5 + 1)), some (.int (((S 154 ((8 * l5) + 4).toNatClampNeg) * l3) / l4)), some (.int (((S 154 ((8 * l5) + 5).toNatClampNeg) * l3) / l4))] rfl rfl rfl rfl ?_
            refine z_goto rfl ?_
            refine Z.forget' [some (.ref 148), none, some (.int l2), some (.int l3), some (.int l4), some (.int (l5 + 1)), none, none] ⟨rfl, ⟨rfl, ⟨rfl, ⟨rfl, ⟨rfl, trivial⟩⟩⟩⟩⟩ ?_
            exact ih hw
          refine z_icmp_ge rfl (fun hp142 => ?_) (fun hp142 => ?_)
          · refine z_iload rfl rfl ?_
            exact hj142 _ (by rw [if_pos hp142])
          · refine z_iconst 1 rfl rfl ?_
            refine z_goto rfl ?_
            exact hj142 _ (by rw [if_neg hp142])
        refine z_icmp_ge rfl (fun hp123 => ?_) (fun hp123 => ?_)
        · refine z_iload rfl rfl ?_
          exact hj123 _ (by rw [if_pos hp123])
        · refine z_iconst 1 rfl rfl ?_
          refine z_goto rfl ?_
          exact hj123 _ (by rw [if_neg hp123])
def r_scale (post : Mem → Prop) (S : Mem) (l1 : Int32) (l2 : Int32) (l3 : Int32) (l4 : Int32) : Prop :=
  r_findBox (fun S1 =>
   ∃ n, r_scale_L9 post n S1 l2 l3 l4 l1) S l1 l2
set_option maxRecDepth 100000 in
set_option maxHeartbeats 1000000 in
theorem zr_scale {g : Gm} {G : Gp} {S : Mem} {post : Mem → Prop} {l1 : Int32} {l2 : Int32} {l3 : Int32} {l4 : Int32} (hx : G.2.2.2 = false) (hG : isR G) (hw : r_scale post S l1 l2 l3 l4) : Z g M_r_scale 0 0 0 (entryL [.ref 148, .int l1, .int l2, .int l3, .int l4] (mL M_r_scale)) [] (S, G) (Qv G post noEx) := by
  unfold r_scale at hw
  show Z g M_r_scale 0 0 0 [some (.ref 148), some (.int l1), some (.int l2), some (.int l3), some (.int l4), none, none, none] [] (S, G) (Qv G post noEx)
  refine z_aload_n rfl rfl ?_
  refine z_iload_n rfl rfl ?_
  refine z_iload_n rfl rfl ?_
  refine z_cvv (M' := M_r_findBox) [.int l1, .int l2] hx rfl w_802 cv_r_findBox hG.1 (by decide) rfl rfl rfl rfl (zr_findBox hx hG hw) ?_ (fun _ _ hf => hf.elim)
  clear hw
  intro S1 hw
  refine z_iload_n rfl rfl ?_
  refine z_istore [some (.ref 148), some (.int l1), some (.int l2), some (.int l3), some (.int l4), some (.int l1), none, none] rfl rfl rfl ?_
  refine Z.forget' [some (.ref 148), none, some (.int l2), some (.int l3), some (.int l4), some (.int l1), none, none] ⟨rfl, ⟨rfl, ⟨rfl, ⟨rfl, ⟨rfl, trivial⟩⟩⟩⟩⟩ ?_
  obtain ⟨n, hw⟩ := hw
  exact zr_scale_L9 hx hG n hw
def r_raise_J70 (post : Mem → Prop)  (S : Mem) (l4 : Int32) (k1 : Int32) : Prop :=
  r_lay (fun S1 =>
   post S1) S k1 l4
set_option maxRecDepth 100000 in
set_option maxHeartbeats 1000000 in
theorem zr_raise_J70 {g : Gm} {G : Gp} {post : Mem → Prop} (hx : G.2.2.2 = false) (hG : isR G) {S : Mem} {l4 : Int32} {k1 : Int32}  (hw : r_raise_J70 post S l4 k1) : Z g M_r_raise 0 0 70 [some (.ref 148), none, none, none, some (.int l4), none] [.int k1, .ref 148] (S, G) (Qv G post noEx) := by
  unfold r_raise_J70 at hw
  refine z_iload rfl rfl ?_
  refine z_cvv (M' := M_r_lay) [.int k1, .int l4] hx rfl w_819 cv_r_lay hG.1 (by decide) rfl rfl rfl rfl (zr_lay hx hG hw) ?_ (fun _ _ hf => hf.elim)
  clear hw
  intro S1 hw
  exact z_vret rfl rfl rfl rfl (Or.inl ⟨_, rfl, rfl, hw⟩)
def r_raise_J39 (post : Mem → Prop)  (S : Mem) (l2 : Int32) (l3 : Int32) (l4 : Int32) (k0 : Int32) : Prop :=
  ((l2 = 0) →
   r_raise_J70 post S l4 (k0 + 1)) ∧
  ((¬ l2 = 0) →
   ((0 ≤ l3) →
    r_behind (fun r1 S1 =>
     r_raise_J70 post S1 l4 r1) S k0) ∧
   ((¬ 0 ≤ l3) →
    r_raise_J70 post S l4 (S 148 7)))
set_option maxRecDepth 100000 in
set_option maxHeartbeats 1000000 in
theorem zr_raise_J39 {g : Gm} {G : Gp} {post : Mem → Prop} (hx : G.2.2.2 = false) (hG : isR G) {S : Mem} {l2 : Int32} {l3 : Int32} {l4 : Int32} {k0 : Int32}  (hw : r_raise_J39 post S l2 l3 l4 k0) : Z g M_r_raise 0 0 39 [some (.ref 148), none, some (.int l2), some (.int l3), some (.int l4), none] [.int k0] (S, G) (Qv G post noEx) := by
  unfold r_raise_J39 at hw
  refine z_istore [some (.ref 148), none, some (.int l2), some (.int l3), some (.int l4), some (.int k0)] rfl rfl rfl ?_
  refine z_aload_n rfl rfl ?_
  refine z_iload_n rfl rfl ?_
  refine z_if_eq rfl (fun hq => ?_) (fun hq => ?_)
  · replace hw := hw.1 hq
    refine z_iload rfl rfl ?_
    refine z_iconst 1 rfl rfl ?_
    refine z_iadd rfl ?_
    refine Z.forget' [some (.ref 148), none, none, none, some (.int l4), none] ⟨rfl, ⟨rfl, trivial⟩⟩ ?_
    exact zr_raise_J70 hx hG hw
  · replace hw := hw.2 hq
    refine z_iload_n rfl rfl ?_
    refine z_if_ge rfl (fun hq => ?_) (fun hq => ?_)
    · replace hw := hw.1 hq
      refine z_aload_n rfl rfl ?_
      refine z_iload rfl rfl ?_
      refine z_cvi (M' := M_r_behind) [.int k0] hx rfl w_782 cv_r_behind hG.1 (by decide) rfl rfl rfl rfl (zr_behind hx hG hw) ?_ (fun _ _ hf => hf.elim)
      clear hw
      intro r1 S1 hw
      refine z_goto rfl ?_
      refine Z.forget' [some (.ref 148), none, none, none, some (.int l4), none] ⟨rfl, ⟨rfl, trivial⟩⟩ ?_
      exact zr_raise_J70 hx hG hw
    · replace hw := hw.2 hq
      refine z_aload_n rfl rfl ?_
      refine z_geti (ci := 7) 7 rfl hG.1 rfl w_665 ?_
      refine z_goto rfl ?_
      refine Z.forget' [some (.ref 148), none, none, none, some (.int l4), none] ⟨rfl, ⟨rfl, trivial⟩⟩ ?_
      exact zr_raise_J70 hx hG hw
def r_raise (post : Mem → Prop) (S : Mem) (l1 : Int32) (l2 : Int32) : Prop :=
  (vp_in ((8 * l1) + 7) 112) ∧ 
  r_behind (fun r1 S1 =>
   r_lift (fun S2 =>
    ((0 ≤ (S 154 ((8 * l1) + 7).toNatClampNeg)) →
     r_find (fun r3 S3 =>
      r_raise_J39 post S3 l2 (S 154 ((8 * l1) + 7).toNatClampNeg) (r1 - l1) r3) S2 (S 154 ((8 * l1) + 7).toNatClampNeg)) ∧
    ((¬ 0 ≤ (S 154 ((8 * l1) + 7).toNatClampNeg)) →
     r_raise_J39 post S2 l2 (S 154 ((8 * l1) + 7).toNatClampNeg) (r1 - l1) (-1))) S1 l1 (l1 + (r1 - l1))) S l1
set_option maxRecDepth 100000 in
set_option maxHeartbeats 1000000 in
theorem zr_raise {g : Gm} {G : Gp} {S : Mem} {post : Mem → Prop} {l1 : Int32} {l2 : Int32} (hx : G.2.2.2 = false) (hG : isR G) (hw : r_raise post S l1 l2) : Z g M_r_raise 0 0 0 (entryL [.ref 148, .int l1, .int l2] (mL M_r_raise)) [] (S, G) (Qv G post noEx) := by
  unfold r_raise at hw
  show Z g M_r_raise 0 0 0 [some (.ref 148), some (.int l1), some (.int l2), none, none, none] [] (S, G) (Qv G post noEx)
  refine z_aload_n rfl rfl ?_
  refine z_iload_n rfl rfl ?_
  refine z_bipush 7 rfl rfl ?_
  obtain ⟨hc1, hw⟩ := hw
  refine z_cvi (M' := M_r_of) (post := fun v S' => (S 154 ((8 * l1) + 7).toNatClampNeg) = v ∧ S = S') [.int l1, .int 7] hx rfl w_754 cv_r_of hG.1 (by decide) rfl rfl rfl rfl (zr_of hx hG (⟨hc1, ⟨rfl, rfl⟩⟩)) ?_ (fun _ _ hf => hf.elim)
  rintro v S' ⟨rfl, rfl⟩
  refine z_istore_n [some (.ref 148), some (.int l1), some (.int l2), some (.int (S 154 ((8 * l1) + 7).toNatClampNeg)), none, none] rfl rfl rfl ?_
  refine z_aload_n rfl rfl ?_
  refine z_iload_n rfl rfl ?_
  refine z_cvi (M' := M_r_behind) [.int l1] hx rfl w_782 cv_r_behind hG.1 (by decide) rfl rfl rfl rfl (zr_behind hx hG hw) ?_ (fun _ _ hf => hf.elim)
  clear hw
  intro r1 S1 hw
  refine z_iload_n rfl rfl ?_
  refine z_isub rfl ?_
  refine z_istore [some (.ref 148), some (.int l1), some (.int l2), some (.int (S 154 ((8 * l1) + 7).toNatClampNeg)), some (.int (r1 - l1)), none] rfl rfl rfl ?_
  refine z_aload_n rfl rfl ?_
  refine z_iload_n rfl rfl ?_
  refine z_iload_n rfl rfl ?_
  refine z_iload rfl rfl ?_
  refine z_iadd rfl ?_
  refine z_cvv (M' := M_r_lift) [.int l1, .int (l1 + (r1 - l1))] hx rfl w_815 cv_r_lift hG.1 (by decide) rfl rfl rfl rfl (zr_lift hx hG hw) ?_ (fun _ _ hf => hf.elim)
  clear hw
  intro S2 hw
  refine z_iload_n rfl rfl ?_
  refine z_if_ge rfl (fun hq => ?_) (fun hq => ?_)
  · replace hw := hw.1 hq
    refine z_aload_n rfl rfl ?_
    refine z_iload_n rfl rfl ?_
    refine z_cvi (M' := M_r_find) [.int (S 154 ((8 * l1) + 7).toNatClampNeg)] hx rfl w_750 cv_r_find hG.1 (by decide) rfl rfl rfl rfl (zr_find hx hG hw) ?_ (fun _ _ hf => hf.elim)
    clear hw
    intro r3 S3 hw
    refine Z.forget' [some (.ref 148), none, some (.int l2), some (.int (S 154 ((8 * l1) + 7).toNatClampNeg)), some (.int (r1 - l1)), none] ⟨rfl, ⟨rfl, ⟨rfl, ⟨rfl, trivial⟩⟩⟩⟩ ?_
    exact zr_raise_J39 hx hG hw
  · replace hw := hw.2 hq
    refine z_iconst (-1) rfl rfl ?_
    refine z_goto rfl ?_
    refine Z.forget' [some (.ref 148), none, some (.int l2), some (.int (S 154 ((8 * l1) + 7).toNatClampNeg)), some (.int (r1 - l1)), none] ⟨rfl, ⟨rfl, ⟨rfl, ⟨rfl, trivial⟩⟩⟩⟩ ?_
    exact zr_raise_J39 hx hG hw
def r_group (post : Mem → Prop) (S : Mem) (l1 : Int32) (l2 : Int32) (l3 : Int32) : Prop :=
  r_behind (fun r1 S1 =>
   r_lift (fun S2 =>
    r_lay (fun S3 =>
     (vp_in ((8 * ((if l3 ≤ l2 then l2 else l3 : Int32) - (r1 - (if l3 ≤ l2 then l3 else l2 : Int32)))) + 7) 112) ∧ ∀ S4, S4 = up2 S3 154 ((8 * ((if l3 ≤ l2 then l2 else l3 : Int32) - (r1 - (if l3 ≤ l2 then l3 else l2 : Int32)))) + 7).toNatClampNeg l1 → 
     (vp_in ((8 * (((if l3 ≤ l2 then l2 else l3 : Int32) - (r1 - (if l3 ≤ l2 then l3 else l2 : Int32))) + (r1 - (if l3 ≤ l2 then l3 else l2 : Int32)))) + 7) 112) ∧ ∀ S5, S5 = up2 S4 154 ((8 * (((if l3 ≤ l2 then l2 else l3 : Int32) - (r1 - (if l3 ≤ l2 then l3 else l2 : Int32))) + (r1 - (if l3 ≤ l2 then l3 else l2 : Int32)))) + 7).toNatClampNeg l1 → 
     r_makeRoom (fun S6 =>
      (vp_in ((8 * ((if l3 ≤ l2 then l2 else l3 : Int32) - (r1 - (if l3 ≤ l2 then l3 else l2 : Int32)))) + 0) 112) ∧ ∀ S7, S7 = up2 S6 154 ((8 * ((if l3 ≤ l2 then l2 else l3 : Int32) - (r1 - (if l3 ≤ l2 then l3 else l2 : Int32)))) + 0).toNatClampNeg l1 → 
      (vp_in ((8 * ((if l3 ≤ l2 then l2 else l3 : Int32) - (r1 - (if l3 ≤ l2 then l3 else l2 : Int32)))) + 1) 112) ∧ ∀ S8, S8 = up2 S7 154 ((8 * ((if l3 ≤ l2 then l2 else l3 : Int32) - (r1 - (if l3 ≤ l2 then l3 else l2 : Int32)))) + 1).toNatClampNeg 3 → 
      (vp_in ((8 * ((if l3 ≤ l2 then l2 else l3 : Int32) - (r1 - (if l3 ≤ l2 then l3 else l2 : Int32)))) + 2) 112) ∧ ∀ S9, S9 = up2 S8 154 ((8 * ((if l3 ≤ l2 then l2 else l3 : Int32) - (r1 - (if l3 ≤ l2 then l3 else l2 : Int32)))) + 2).toNatClampNeg 0 → 
      (vp_in ((8 * ((if l3 ≤ l2 then l2 else l3 : Int32) - (r1 - (if l3 ≤ l2 then l3 else l2 : Int32)))) + 3) 112) ∧ ∀ S10, S10 = up2 S9 154 ((8 * ((if l3 ≤ l2 then l2 else l3 : Int32) - (r1 - (if l3 ≤ l2 then l3 else l2 : Int32)))) + 3).toNatClampNeg 0 → 
      (vp_in ((8 * ((if l3 ≤ l2 then l2 else l3 : Int32) - (r1 - (if l3 ≤ l2 then l3 else l2 : Int32)))) + 4) 112) ∧ ∀ S11, S11 = up2 S10 154 ((8 * ((if l3 ≤ l2 then l2 else l3 : Int32) - (r1 - (if l3 ≤ l2 then l3 else l2 : Int32)))) + 4).toNatClampNeg 0 → 
      (vp_in ((8 * ((if l3 ≤ l2 then l2 else l3 : Int32) - (r1 - (if l3 ≤ l2 then l3 else l2 : Int32)))) + 5) 112) ∧ ∀ S12, S12 = up2 S11 154 ((8 * ((if l3 ≤ l2 then l2 else l3 : Int32) - (r1 - (if l3 ≤ l2 then l3 else l2 : Int32)))) + 5).toNatClampNeg 0 → 
      (vp_in ((8 * ((if l3 ≤ l2 then l2 else l3 : Int32) - (r1 - (if l3 ≤ l2 then l3 else l2 : Int32)))) + 6) 112) ∧ ∀ S13, S13 = up2 S12 154 ((8 * ((if l3 ≤ l2 then l2 else l3 : Int32) - (r1 - (if l3 ≤ l2 then l3 else l2 : Int32)))) + 6).toNatClampNeg (-1) → 
      (vp_in ((8 * ((if l3 ≤ l2 then l2 else l3 : Int32) - (r1 - (if l3 ≤ l2 then l3 else l2 : Int32)))) + 7) 112) ∧ ∀ S14, S14 = up2 S13 154 ((8 * ((if l3 ≤ l2 then l2 else l3 : Int32) - (r1 - (if l3 ≤ l2 then l3 else l2 : Int32)))) + 7).toNatClampNeg (-1) → 
      post S14) S5 ((if l3 ≤ l2 then l2 else l3 : Int32) - (r1 - (if l3 ≤ l2 then l3 else l2 : Int32))) 1) S2 ((if l3 ≤ l2 then l2 else l3 : Int32) - (r1 - (if l3 ≤ l2 then l3 else l2 : Int32))) (r1 - (if l3 ≤ l2 then l3 else l2 : Int32))) S1 (if l3 ≤ l2 then l3 else l2 : Int32) ((if l3 ≤ l2 then l3 else l2 : Int32) + (r1 - (if l3 ≤ l2 then l3 else l2 : Int32)))) S (if l3 ≤ l2 then l3 else l2 : Int32)
set_option maxRecDepth 100000 in
set_option maxHeartbeats 1000000 in
theorem zr_group {g : Gm} {G : Gp} {S : Mem} {post : Mem → Prop} {l1 : Int32} {l2 : Int32} {l3 : Int32} (hx : G.2.2.2 = false) (hG : isR G) (hw : r_group post S l1 l2 l3) : Z g M_r_group 0 0 0 (entryL [.ref 148, .int l1, .int l2, .int l3] (mL M_r_group)) [] (S, G) (Qv G post noEx) := by
  unfold r_group at hw
  show Z g M_r_group 0 0 0 [some (.ref 148), some (.int l1), some (.int l2), some (.int l3), none, none, none, none, none] [] (S, G) (Qv G post noEx)
  refine z_iload_n rfl rfl ?_
  refine z_iload_n rfl rfl ?_
  have hj2 : ∀ v : Int32, v = (if l3 ≤ l2 then l3 else l2 : Int32) → Z g M_r_group 0 0 10 [some (.ref 148), some (.int l1), some (.int l2), some (.int l3), none, none, none, none, none] [.int v] (S, G) (Qv G post noEx) := by
    intro v hv
    subst hv
    refine z_istore [some (.ref 148), some (.int l1), some (.int l2), some (.int l3), some (.int (if l3 ≤ l2 then l3 else l2 : Int32)), none, none, none, none] rfl rfl rfl ?_
    refine z_iload_n rfl rfl ?_
    refine z_iload_n rfl rfl ?_
    have hj14 : ∀ v : Int32, v = (if l3 ≤ l2 then l2 else l3 : Int32) → Z g M_r_group 0 0 22 [some (.ref 148), some (.int l1), some (.int l2), some (.int l3), some (.int (if l3 ≤ l2 then l3 else l2 : Int32)), none, none, none, none] [.int v] (S, G) (Qv G post noEx) := by
      intro v hv
      subst hv
      refine z_istore [some (.ref 148), some (.int l1), some (.int l2), some (.int l3), some (.int (if l3 ≤ l2 then l3 else l2 : Int32)), some (.int (if l3 ≤ l2 then l2 else l3 : Int32)), none, none, none] rfl rfl rfl ?_
      refine z_aload_n rfl rfl ?_
      refine z_iload rfl rfl ?_
      refine z_cvi (M' := M_r_behind) [.int (if l3 ≤ l2 then l3 else l2 : Int32)] hx rfl w_782 cv_r_behind hG.1 (by decide) rfl rfl rfl rfl (zr_behind hx hG hw) ?_ (fun _ _ hf => hf.elim)
      clear hw
      intro r1 S1 hw
      refine z_iload rfl rfl ?_
      refine z_isub rfl ?_
      refine z_istore [some (.ref 148), some (.int l1), some (.int l2), some (.int l3), some (.int (if l3 ≤ l2 then l3 else l2 : Int32)), some (.int (if l3 ≤ l2 then l2 else l3 : Int32)), some (.int (r1 - (if l3 ≤ l2 then l3 else l2 : Int32))), none, none] rfl rfl rfl ?_
      refine z_aload_n rfl rfl ?_
      refine z_iload rfl rfl ?_
      refine z_iload rfl rfl ?_
      refine z_iload rfl rfl ?_
      refine z_iadd rfl ?_
      refine z_cvv (M' := M_r_lift) [.int (if l3 ≤ l2 then l3 else l2 : Int32), .int ((if l3 ≤ l2 then l3 else l2 : Int32) + (r1 - (if l3 ≤ l2 then l3 else l2 : Int32)))] hx rfl w_815 cv_r_lift hG.1 (by decide) rfl rfl rfl rfl (zr_lift hx hG hw) ?_ (fun _ _ hf => hf.elim)
      clear hw
      intro S2 hw
      refine z_iload rfl rfl ?_
      refine z_iload rfl rfl ?_
      refine z_isub rfl ?_
      refine z_istore [some (.ref 148), some (.int l1), some (.int l2), some (.int l3), some (.int (if l3 ≤ l2 then l3 else l2 : Int32)), some (.int (if l3 ≤ l2 then l2 else l3 : Int32)), some (.int (r1 - (if l3 ≤ l2 then l3 else l2 : Int32))), some (.int ((if l3 ≤ l2 then l2 else l3 : Int32) - (r1 - (if l3 ≤ l2 then l3 else l2 : Int32)))), none] rfl rfl rfl ?_
      refine z_aload_n rfl rfl ?_
      refine z_iload rfl rfl ?_
      refine z_iload rfl rfl ?_
      refine z_cvv (M' := M_r_lay) [.int ((if l3 ≤ l2 then l2 else l3 : Int32) - (r1 - (if l3 ≤ l2 then l3 else l2 : Int32))), .int (r1 - (if l3 ≤ l2 then l3 else l2 : Int32))] hx rfl w_819 cv_r_lay hG.1 (by decide) rfl rfl rfl rfl (zr_lay hx hG hw) ?_ (fun _ _ hf => hf.elim)
      clear hw
      intro S3 hw
      refine z_iload rfl rfl ?_
      refine z_iload rfl rfl ?_
      refine z_iadd rfl ?_
      refine z_istore [some (.ref 148), some (.int l1), some (.int l2), some (.int l3), some (.int (if l3 ≤ l2 then l3 else l2 : Int32)), some (.int (if l3 ≤ l2 then l2 else l3 : Int32)), some (.int (r1 - (if l3 ≤ l2 then l3 else l2 : Int32))), some (.int ((if l3 ≤ l2 then l2 else l3 : Int32) - (r1 - (if l3 ≤ l2 then l3 else l2 : Int32)))), some (.int (((if l3 ≤ l2 then l2 else l3 : Int32) - (r1 - (if l3 ≤ l2 then l3 else l2 : Int32))) + (r1 - (if l3 ≤ l2 then l3 else l2 : Int32))))] rfl rfl rfl ?_
      refine z_aload_n rfl rfl ?_
      refine z_iload rfl rfl ?_
      refine z_bipush 7 rfl rfl ?_
      refine z_iload_n rfl rfl ?_
      obtain ⟨hc1, hw⟩ := hw
      replace hw := hw _ rfl
      refine z_cvv (M' := M_r_put) (post := fun S' => (up2 S3 154 ((8 * ((if l3 ≤ l2 then l2 else l3 : Int32) - (r1 - (if l3 ≤ l2 then l3 else l2 : Int32)))) + 7).toNatClampNeg l1) = S') [.int ((if l3 ≤ l2 then l2 else l3 : Int32) - (r1 - (if l3 ≤ l2 then l3 else l2 : Int32))), .int 7, .int l1] hx rfl w_774 cv_r_put hG.1 (by decide) rfl rfl rfl rfl (zr_put hx hG (⟨hc1, fun _ hS => by subst hS; exact rfl⟩)) ?_ (fun _ _ hf => hf.elim)
      rintro S' rfl
      refine z_aload_n rfl rfl ?_
      refine z_iload rfl rfl ?_
      refine z_bipush 7 rfl rfl ?_
      refine z_iload_n rfl rfl ?_
      obtain ⟨hc2, hw⟩ := hw
      replace hw := hw _ rfl
      refine z_cvv (M' := M_r_put) (post := fun S' => (up2 (up2 S3 154 ((8 * ((if l3 ≤ l2 then l2 else l3 : Int32) - (r1 - (if l3 ≤ l2 then l3 else l2 : Int32)))) + 7).toNatClampNeg l1) 154 ((8 * (((if l3 ≤ l2 then l2 else l3 : Int32) - (r1 - (if l3 ≤ l2 then l3 else l2 : Int32))) + (r1 - (if l3 ≤ l2 then l3 else l2 : Int32)))) + 7).toNatClampNeg l1) = S') [.int (((if l3 ≤ l2 then l2 else l3 : Int32) - (r1 - (if l3 ≤ l2 then l3 else l2 : Int32))) + (r1 - (if l3 ≤ l2 then l3 else l2 : Int32))), .int 7, .int l1] hx rfl w_774 cv_r_put hG.1 (by decide) rfl rfl rfl rfl (zr_put hx hG (⟨hc2, fun _ hS => by subst hS; exact rfl⟩)) ?_ (fun _ _ hf => hf.elim)
      rintro S' rfl
      refine z_aload_n rfl rfl ?_
      refine z_iload rfl rfl ?_
      refine z_iconst 1 rfl rfl ?_
      refine z_cvv (M' := M_r_makeRoom) [.int ((if l3 ≤ l2 then l2 else l3 : Int32) - (r1 - (if l3 ≤ l2 then l3 else l2 : Int32))), .int 1] hx rfl w_823 cv_r_makeRoom hG.1 (by decide) rfl rfl rfl rfl (zr_makeRoom hx hG hw) ?_ (fun _ _ hf => hf.elim)
      clear hw
      intro S6 hw
      refine z_aload_n rfl rfl ?_
      refine z_iload rfl rfl ?_
      refine z_iconst 0 rfl rfl ?_
      refine z_iload_n rfl rfl ?_
      obtain ⟨hc3, hw⟩ := hw
      replace hw := hw _ rfl
      refine z_cvv (M' := M_r_put) (post := fun S' => (up2 S6 154 ((8 * ((if l3 ≤ l2 then l2 else l3 : Int32) - (r1 - (if l3 ≤ l2 then l3 else l2 : Int32)))) + 0).toNatClampNeg l1) = S') [.int ((if l3 ≤ l2 then l2 else l3 : Int32) - (r1 - (if l3 ≤ l2 then l3 else l2 : Int32))), .int 0, .int l1] hx rfl w_774 cv_r_put hG.1 (by decide) rfl rfl rfl rfl (zr_put hx hG (⟨hc3, fun _ hS => by subst hS; exact rfl⟩)) ?_ (fun _ _ hf => hf.elim)
      rintro S' rfl
      refine z_aload_n rfl rfl ?_
      refine z_iload rfl rfl ?_
      refine z_iconst 1 rfl rfl ?_
      refine z_iconst 3 rfl rfl ?_
      obtain ⟨hc4, hw⟩ := hw
      replace hw := hw _ rfl
      refine z_cvv (M' := M_r_put) (post := fun S' => (up2 (up2 S6 154 ((8 * ((if l3 ≤ l2 then l2 else l3 : Int32) - (r1 - (if l3 ≤ l2 then l3 else l2 : Int32)))) + 0).toNatClampNeg l1) 154 ((8 * ((if l3 ≤ l2 then l2 else l3 : Int32) - (r1 - (if l3 ≤ l2 then l3 else l2 : Int32)))) + 1).toNatClampNeg 3) = S') [.int ((if l3 ≤ l2 then l2 else l3 : Int32) - (r1 - (if l3 ≤ l2 then l3 else l2 : Int32))), .int 1, .int 3] hx rfl w_774 cv_r_put hG.1 (by decide) rfl rfl rfl rfl (zr_put hx hG (⟨hc4, fun _ hS => by subst hS; exact rfl⟩)) ?_ (fun _ _ hf => hf.elim)
      rintro S' rfl
      refine z_aload_n rfl rfl ?_
      refine z_iload rfl rfl ?_
      refine z_iconst 2 rfl rfl ?_
      refine z_iconst 0 rfl rfl ?_
      obtain ⟨hc5, hw⟩ := hw
      replace hw := hw _ rfl
      refine z_cvv (M' := M_r_put) (post := fun S' => (up2 (up2 (up2 S6 154 ((8 * ((if l3 ≤ l2 then l2 else l3 : Int32) - (r1 - (if l3 ≤ l2 then l3 else l2 : Int32)))) + 0).toNatClampNeg l1) 154 ((8 * ((if l3 ≤ l2 then l2 else l3 : Int32) - (r1 - (if l3 ≤ l2 then l3 else l2 : Int32)))) + 1).toNatClampNeg 3) 154 ((8 * ((if l3 ≤ l2 then l2 else l3 : Int32) - (r1 - (if l3 ≤ l2 then l3 else l2 : Int32)))) + 2).toNatClampNeg 0) = S') [.int ((if l3 ≤ l2 then l2 else l3 : Int32) - (r1 - (if l3 ≤ l2 then l3 else l2 : Int32))), .int 2, .int 0] hx rfl w_774 cv_r_put hG.1 (by decide) rfl rfl rfl rfl (zr_put hx hG (⟨hc5, fun _ hS => by subst hS; exact rfl⟩)) ?_ (fun _ _ hf => hf.elim)
      rintro S' rfl
      refine z_aload_n rfl rfl ?_
      refine z_iload rfl rfl ?_
      refine z_iconst 3 rfl rfl ?_
      refine z_iconst 0 rfl rfl ?_
      obtain ⟨hc6, hw⟩ := hw
      replace hw := hw _ rfl
      refine z_cvv (M' := M_r_put) (post := fun S' => (up2 (up2 (up2 (up2 S6 154 ((8 * ((if l3 ≤ l2 then l2 else l3 : Int32) - (r1 - (if l3 ≤ l2 then l3 else l2 : Int32)))) + 0).toNatClampNeg l1) 154 ((8 * ((if l3 ≤ l2 then l2 else l3 : Int32) - (r1 - (if l3 ≤ l2 then l3 else l2 : Int32)))) + 1).toNatClampNeg 3) 154 ((8 * ((if l3 ≤ l2 then l2 else l3 : Int32) - (r1 - (if l3 ≤ l2 then l3 else l2 : Int32)))) + 2).toNatClampNeg 0) 154 ((8 * ((if l3 ≤ l2 then l2 else l3 : Int32) - (r1 - (if l3 ≤ l2 then l3 else l2 : Int32)))) + 3).toNatClampNeg 0) = S') [.int ((if l3 ≤ l2 then l2 else l3 : Int32) - (r1 - (if l3 ≤ l2 then l3 else l2 : Int32))), .int 3, .int 0] hx rfl w_774 cv_r_put hG.1 (by decide) rfl rfl rfl rfl (zr_put hx hG (⟨hc6, fun _ hS => by subst hS; exact rfl⟩)) ?_ (fun _ _ hf => hf.elim)
      rintro S' rfl
      refine z_aload_n rfl rfl ?_
      refine z_iload rfl rfl ?_
      refine z_iconst 4 rfl rfl ?_
      refine z_iconst 0 rfl rfl ?_
      obtain ⟨hc7, hw⟩ := hw
      replace hw := hw _ rfl
      refine z_cvv (M' := M_r_put) (post := fun S' => (up2 (up2 (up2 (up2 (up2 S6 154 ((8 * ((if l3 ≤ l2 then l2 else l3 : Int32) - (r1 - (if l3 ≤ l2 then l3 else l2 : Int32)))) + 0).toNatClampNeg l1) 154 ((8 * ((if l3 ≤ l2 then l2 else l3 : Int32) - (r1 - (if l3 ≤ l2 then l3 else l2 : Int32)))) + 1).toNatClampNeg 3) 154 ((8 * ((if l3 ≤ l2 then l2 else l3 : Int32) - (r1 - (if l3 ≤ l2 then l3 else l2 : Int32)))) + 2).toNatClampNeg 0) 154 ((8 * ((if l3 ≤ l2 then l2 else l3 : Int32) - (r1 - (if l3 ≤ l2 then l3 else l2 : Int32)))) + 3).toNatClampNeg 0) 154 ((8 * ((if l3 ≤ l2 then l2 else l3 : Int32) - (r1 - (if l3 ≤ l2 then l3 else l2 : Int32)))) + 4).toNatClampNeg 0) = S') [.int ((if l3 ≤ l2 then l2 else l3 : Int32) - (r1 - (if l3 ≤ l2 then l3 else l2 : Int32))), .int 4, .int 0] hx rfl w_774 cv_r_put hG.1 (by decide) rfl rfl rfl rfl (zr_put hx hG (⟨hc7, fun _ hS => by subst hS; exact rfl⟩)) ?_ (fun _ _ hf => hf.elim)
      rintro S' rfl
      refine z_aload_n rfl rfl ?_
      refine z_iload rfl rfl ?_
      refine z_iconst 5 rfl rfl ?_
      refine z_iconst 0 rfl rfl ?_
      obtain ⟨hc8, hw⟩ := hw
      replace hw := hw _ rfl
      refine z_cvv (M' := M_r_put) (post := fun S' => (up2 (up2 (up2 (up2 (up2 (up2 S6 154 ((8 * ((if l3 ≤ l2 then l2 else l3 : Int32) - (r1 - (if l3 ≤ l2 then l3 else l2 : Int32)))) + 0).toNatClampNeg l1) 154 ((8 * ((if l3 ≤ l2 then l2 else l3 : Int32) - (r1 - (if l3 ≤ l2 then l3 else l2 : Int32)))) + 1).toNatClampNeg 3) 154 ((8 * ((if l3 ≤ l2 then l2 else l3 : Int32) - (r1 - (if l3 ≤ l2 then l3 else l2 : Int32)))) + 2).toNatClampNeg 0) 154 ((8 * ((if l3 ≤ l2 then l2 else l3 : Int32) - (r1 - (if l3 ≤ l2 then l3 else l2 : Int32)))) + 3).toNatClampNeg 0) 154 ((8 * ((if l3 ≤ l2 then l2 else l3 : Int32) - (r1 - (if l3 ≤ l2 then l3 else l2 : Int32)))) + 4).toNatClampNeg 0) 154 ((8 * ((if l3 ≤ l2 then l2 else l3 : Int32) - (r1 - (if l3 ≤ l2 then l3 else l2 : Int32)))) + 5).toNatClampNeg 0) = S') [.int ((if l3 ≤ l2 then l2 else l3 : Int32) - (r1 - (if l3 ≤ l2 then l3 else l2 : Int32))), .int 5, .int 0] hx rfl w_774 cv_r_put hG.1 (by decide) rfl rfl rfl rfl (zr_put hx hG (⟨hc8, fun _ hS => by subst hS; exact rfl⟩)) ?_ (fun _ _ hf => hf.elim)
      rintro S' rfl
      refine z_aload_n rfl rfl ?_
      refine z_iload rfl rfl ?_
      refine z_bipush 6 rfl rfl ?_
      refine z_iconst (-1) rfl rfl ?_
      obtain ⟨hc9, hw⟩ := hw
      replace hw := hw _ rfl
      refine z_cvv (M' := M_r_put) (post := fun S' => (up2 (up2 (up2 (up2 (up2 (up2 (up2 S6 154 ((8 * ((if l3 ≤ l2 then l2 else l3 : Int32) - (r1 - (if l3 ≤ l2 then l3 else l2 : Int32)))) + 0).toNatClampNeg l1) 154 ((8 * ((if l3 ≤ l2 then l2 else l3 : Int32) - (r1 - (if l3 ≤ l2 then l3 else l2 : Int32)))) + 1).toNatClampNeg 3) 154 ((8 * ((if l3 ≤ l2 then l2 else l3 : Int32) - (r1 - (if l3 ≤ l2 then l3 else l2 : Int32)))) + 2).toNatClampNeg 0) 154 ((8 * ((if l3 ≤ l2 then l2 else l3 : Int32) - (r1 - (if l3 ≤ l2 then l3 else l2 : Int32)))) + 3).toNatClampNeg 0) 154 ((8 * ((if l3 ≤ l2 then l2 else l3 : Int32) - (r1 - (if l3 ≤ l2 then l3 else l2 : Int32)))) + 4).toNatClampNeg 0) 154 ((8 * ((if l3 ≤ l2 then l2 else l3 : Int32) - (r1 - (if l3 ≤ l2 then l3 else l2 : Int32)))) + 5).toNatClampNeg 0) 154 ((8 * ((if l3 ≤ l2 then l2 else l3 : Int32) - (r1 - (if l3 ≤ l2 then l3 else l2 : Int32)))) + 6).toNatClampNeg (-1)) = S') [.int ((if l3 ≤ l2 then l2 else l3 : Int32) - (r1 - (if l3 ≤ l2 then l3 else l2 : Int32))), .int 6, .int (-1)] hx rfl w_774 cv_r_put hG.1 (by decide) rfl rfl rfl rfl (zr_put hx hG (⟨hc9, fun _ hS => by subst hS; exact rfl⟩)) ?_ (fun _ _ hf => hf.elim)
      rintro S' rfl
      refine z_aload_n rfl rfl ?_
      refine z_iload rfl rfl ?_
      refine z_bipush 7 rfl rfl ?_
      refine z_iconst (-1) rfl rfl ?_
      obtain ⟨hc10, hw⟩ := hw
      replace hw := hw _ rfl
      refine z_cvv (M' := M_r_put) (post := fun S' => (up2 (up2 (up2 (up2 (up2 (up2 (up2 (up2 S6 154 ((8 * ((if l3 ≤ l2 then l2 else l3 : Int32) - (r1 - (if l3 ≤ l2 then l3 else l2 : Int32)))) + 0).toNatClampNeg l1) 154 ((8 * ((if l3 ≤ l2 then l2 else l3 : Int32) - (r1 - (if l3 ≤ l2 then l3 else l2 : Int32)))) + 1).toNatClampNeg 3) 154 ((8 * ((if l3 ≤ l2 then l2 else l3 : Int32) - (r1 - (if l3 ≤ l2 then l3 else l2 : Int32)))) + 2).toNatClampNeg 0) 154 ((8 * ((if l3 ≤ l2 then l2 else l3 : Int32) - (r1 - (if l3 ≤ l2 then l3 else l2 : Int32)))) + 3).toNatClampNeg 0) 154 ((8 * ((if l3 ≤ l2 then l2 else l3 : Int32) - (r1 - (if l3 ≤ l2 then l3 else l2 : Int32)))) + 4).toNatClampNeg 0) 154 ((8 * ((if l3 ≤ l2 then l2 else l3 : Int32) - (r1 - (if l3 ≤ l2 then l3 else l2 : Int32)))) + 5).toNatClampNeg 0) 154 ((8 * ((if l3 ≤ l2 then l2 else l3 : Int32) - (r1 - (if l3 ≤ l2 then l3 else l2 : Int32)))) + 6).toNatClampNeg (-1)) 154 ((8 * ((if l3 ≤ l2 then l2 else l3 : Int32) - (r1 - (if l3 ≤ l2 then l3 else l2 : Int32)))) + 7).toNatClampNeg (-1)) = S') [.int ((if l3 ≤ l2 then l2 else l3 : Int32) - (r1 - (if l3 ≤ l2 then l3 else l2 : Int32))), .int 7, .int (-1)] hx rfl w_774 cv_r_put hG.1 (by decide) rfl rfl rfl rfl (zr_put hx hG (⟨hc10, fun _ hS => by subst hS; exact rfl⟩)) ?_ (fun _ _ hf => hf.elim)
      rintro S' rfl
      exact z_vret rfl rfl rfl rfl (Or.inl ⟨_, rfl, rfl, hw⟩)
    refine z_icmp_ge rfl (fun hp14 => ?_) (fun hp14 => ?_)
    · refine z_iload_n rfl rfl ?_
      exact hj14 _ (by rw [if_pos hp14])
    · refine z_iload_n rfl rfl ?_
      refine z_goto rfl ?_
      exact hj14 _ (by rw [if_neg hp14])
  refine z_icmp_ge rfl (fun hp2 => ?_) (fun hp2 => ?_)
  · refine z_iload_n rfl rfl ?_
    exact hj2 _ (by rw [if_pos hp2])
  · refine z_iload_n rfl rfl ?_
    refine z_goto rfl ?_
    exact hj2 _ (by rw [if_neg hp2])
def r_ungroup_L18 (post : Mem → Prop)  : Nat → Mem → Int32 → Int32 → Int32 → Int32 → Prop
  | 0, _, _, _, _, _ => False
  | n + 1, S, l1, l2, l3, l4 =>
  (((S 148 7) ≤ l4) →
   r_takeOut (fun S1 =>
    post S1) S l1 (l1 + 1)) ∧
  ((¬ (S 148 7) ≤ l4) →
   (vp_in ((8 * l4) + 7) 112) ∧ 
   ((¬ (S 154 ((8 * l4) + 7).toNatClampNeg) = l2) →
    r_ungroup_L18 post n S l1 l2 l3 (l4 + 1)) ∧
   (((S 154 ((8 * l4) + 7).toNatClampNeg) = l2) →
    (vp_in ((8 * l4) + 7) 112) ∧ ∀ S2, S2 = up2 S 154 ((8 * l4) + 7).toNatClampNeg l3 → 
    r_ungroup_L18 post n S2 l1 l2 l3 (l4 + 1)))
set_option maxRecDepth 100000 in
set_option maxHeartbeats 1000000 in
theorem zr_ungroup_L18 {g : Gm} {G : Gp} {post : Mem → Prop} (hx : G.2.2.2 = false) (hG : isR G) : ∀ (n : Nat) {S : Mem} {l1 : Int32} {l2 : Int32} {l3 : Int32} {l4 : Int32} , r_ungroup_L18 post n S l1 l2 l3 l4 → Z g M_r_ungroup 0 0 18 [some (.ref 148), some (.int l1), some (.int l2), some (.int l3), some (.int l4)] [] (S, G) (Qv G post noEx) := by
  intro n
  induction n with
  | zero =>
    intros
    rename_i hw
    exact hw.elim
  | succ n ih =>
    intro S l1 l2 l3 l4 hw
    rw [r_ungroup_L18] at hw
    refine z_iload rfl rfl ?_
    refine z_aload_n rfl rfl ?_
    refine z_geti (ci := 7) 7 rfl hG.1 rfl w_665 ?_
    refine z_icmp_ge rfl (fun hq => ?_) (fun hq => ?_)
    · replace hw := hw.1 hq
      refine z_aload_n rfl rfl ?_
      refine z_iload_n rfl rfl ?_
      refine z_iload_n rfl rfl ?_
      refine z_iconst 1 rfl rfl ?_
      refine z_iadd rfl ?_
      refine z_cvv (M' := M_r_takeOut) [.int l1, .int (l1 + 1)] hx rfl w_786 cv_r_takeOut hG.1 (by decide) rfl rfl rfl rfl (zr_takeOut hx hG hw) ?_ (fun _ _ hf => hf.elim)
      clear hw
      intro S1 hw
      exact z_vret rfl rfl rfl rfl (Or.inl ⟨_, rfl, rfl, hw⟩)
    · replace hw := hw.2 hq
      refine z_aload_n rfl rfl ?_
      refine z_iload rfl rfl ?_
      refine z_bipush 7 rfl rfl ?_
      obtain ⟨hc1, hw⟩ := hw
      refine z_cvi (M' := M_r_of) (post := fun v S' => (S 154 ((8 * l4) + 7).toNatClampNeg) = v ∧ S = S') [.int l4, .int 7] hx rfl w_754 cv_r_of hG.1 (by decide) rfl rfl rfl rfl (zr_of hx hG (⟨hc1, ⟨rfl, rfl⟩⟩)) ?_ (fun _ _ hf => hf.elim)
      rintro v S' ⟨rfl, rfl⟩
      refine z_iload_n rfl rfl ?_
      refine z_icmp_ne rfl (fun hq => ?_) (fun hq => ?_)
      · replace hw := hw.1 hq
        refine z_iinc 1 [some (.ref 148), some (.int l1), some (.int l2), some (.int l3), some (.int (l4 + 1))] rfl rfl rfl rfl ?_
        refine z_goto rfl ?_
        refine Z.forget' [some (.ref 148), some (.int l1), some (.int l2), some (.int l3), some (.int (l4 + 1))] ⟨rfl, ⟨rfl, ⟨rfl, ⟨rfl, ⟨rfl, trivial⟩⟩⟩⟩⟩ ?_
        exact ih hw
      · replace hw := hw.2 hq
        refine z_aload_n rfl rfl ?_
        refine z_iload rfl rfl ?_
        refine z_bipush 7 rfl rfl ?_
        refine z_iload_n rfl rfl ?_
        obtain ⟨hc2, hw⟩ := hw
        replace hw := hw _ rfl
        refine z_cvv (M' := M_r_put) (post := fun S' => (up2 S 154 ((8 * l4) + 7).toNatClampNeg l3) = S') [.int l4, .int 7, .int l3] hx rfl w_774 cv_r_put hG.1 (by decide) rfl rfl rfl rfl (zr_put hx hG (⟨hc2, fun _ hS => by subst hS; exact rfl⟩)) ?_ (fun _ _ hf => hf.elim)
        rintro S' rfl
        refine z_iinc 1 [some (.ref 148), some (.int l1), some (.int l2), some (.int l3), some (.int (l4 + 1))] rfl rfl rfl rfl ?_
        refine z_goto rfl ?_
        refine Z.forget' [some (.ref 148), some (.int l1), some (.int l2), some (.int l3), some (.int (l4 + 1))] ⟨rfl, ⟨rfl, ⟨rfl, ⟨rfl, ⟨rfl, trivial⟩⟩⟩⟩⟩ ?_
        exact ih hw
def r_ungroup (post : Mem → Prop) (S : Mem) (l1 : Int32) : Prop :=
  (vp_in ((8 * l1) + 0) 112) ∧ 
  (vp_in ((8 * l1) + 7) 112) ∧ 
  ∃ n, r_ungroup_L18 post n S l1 (S 154 ((8 * l1) + 0).toNatClampNeg) (S 154 ((8 * l1) + 7).toNatClampNeg) 0
set_option maxRecDepth 100000 in
set_option maxHeartbeats 1000000 in
theorem zr_ungroup {g : Gm} {G : Gp} {S : Mem} {post : Mem → Prop} {l1 : Int32} (hx : G.2.2.2 = false) (hG : isR G) (hw : r_ungroup post S l1) : Z g M_r_ungroup 0 0 0 (entryL [.ref 148, .int l1] (mL M_r_ungroup)) [] (S, G) (Qv G post noEx) := by
  unfold r_ungroup at hw
  show Z g M_r_ungroup 0 0 0 [some (.ref 148), some (.int l1), none, none, none] [] (S, G) (Qv G post noEx)
  refine z_aload_n rfl rfl ?_
  refine z_iload_n rfl rfl ?_
  refine z_iconst 0 rfl rfl ?_
  obtain ⟨hc1, hw⟩ := hw
  refine z_cvi (M' := M_r_of) (post := fun v S' => (S 154 ((8 * l1) + 0).toNatClampNeg) = v ∧ S = S') [.int l1, .int 0] hx rfl w_754 cv_r_of hG.1 (by decide) rfl rfl rfl rfl (zr_of hx hG (⟨hc1, ⟨rfl, rfl⟩⟩)) ?_ (fun _ _ hf => hf.elim)
  rintro v S' ⟨rfl, rfl⟩
  refine z_istore_n [some (.ref 148), some (.int l1), some (.int (S 154 ((8 * l1) + 0).toNatClampNeg)), none, none] rfl rfl rfl ?_
  refine z_aload_n rfl rfl ?_
  refine z_iload_n rfl rfl ?_
  refine z_bipush 7 rfl rfl ?_
  obtain ⟨hc2, hw⟩ := hw
  refine z_cvi (M' := M_r_of) (post := fun v S' => (S 154 ((8 * l1) + 7).toNatClampNeg) = v ∧ S = S') [.int l1, .int 7] hx rfl w_754 cv_r_of hG.1 (by decide) rfl rfl rfl rfl (zr_of hx hG (⟨hc2, ⟨rfl, rfl⟩⟩)) ?_ (fun _ _ hf => hf.elim)
  rintro v S' ⟨rfl, rfl⟩
  refine z_istore_n [some (.ref 148), some (.int l1), some (.int (S 154 ((8 * l1) + 0).toNatClampNeg)), some (.int (S 154 ((8 * l1) + 7).toNatClampNeg)), none] rfl rfl rfl ?_
  refine z_iconst 0 rfl rfl ?_
  refine z_istore [some (.ref 148), some (.int l1), some (.int (S 154 ((8 * l1) + 0).toNatClampNeg)), some (.int (S 154 ((8 * l1) + 7).toNatClampNeg)), some (.int 0)] rfl rfl rfl ?_
  refine Z.forget' [some (.ref 148), some (.int l1), some (.int (S 154 ((8 * l1) + 0).toNatClampNeg)), some (.int (S 154 ((8 * l1) + 7).toNatClampNeg)), some (.int 0)] ⟨rfl, ⟨rfl, ⟨rfl, ⟨rfl, ⟨rfl, trivial⟩⟩⟩⟩⟩ ?_
  obtain ⟨n, hw⟩ := hw
  exact zr_ungroup_L18 hx hG n hw
def r_twice (post : Mem → Prop) (S : Mem) (l1 : Int32) (l2 : Int32) (l3 : Int32) (l4 : Int32) : Prop :=
  r_makeRoom (fun S1 =>
   r_copyCells (fun S2 =>
    (vp_in ((8 * (l2 + 1)) + 0) 112) ∧ ∀ S3, S3 = up2 S2 154 ((8 * (l2 + 1)) + 0).toNatClampNeg l1 → 
    (vp_in ((8 * l2) + 2) 112) ∧ 
    (vp_in ((8 * (l2 + 1)) + 2) 112) ∧ ∀ S4, S4 = up2 S3 154 ((8 * (l2 + 1)) + 2).toNatClampNeg ((S3 154 ((8 * l2) + 2).toNatClampNeg) + l3) → 
    (vp_in ((8 * l2) + 3) 112) ∧ 
    (vp_in ((8 * (l2 + 1)) + 3) 112) ∧ ∀ S5, S5 = up2 S4 154 ((8 * (l2 + 1)) + 3).toNatClampNeg ((S4 154 ((8 * l2) + 3).toNatClampNeg) + l4) → 
    post S5) S1 l2 (l2 + 1)) S (l2 + 1) 1
set_option maxRecDepth 100000 in
set_option maxHeartbeats 1000000 in
theorem zr_twice {g : Gm} {G : Gp} {S : Mem} {post : Mem → Prop} {l1 : Int32} {l2 : Int32} {l3 : Int32} {l4 : Int32} (hx : G.2.2.2 = false) (hG : isR G) (hw : r_twice post S l1 l2 l3 l4) : Z g M_r_twice 0 0 0 (entryL [.ref 148, .int l1, .int l2, .int l3, .int l4] (mL M_r_twice)) [] (S, G) (Qv G post noEx) := by
  unfold r_twice at hw
  show Z g M_r_twice 0 0 0 [some (.ref 148), some (.int l1), some (.int l2), some (.int l3), some (.int l4)] [] (S, G) (Qv G post noEx)
  refine z_aload_n rfl rfl ?_
  refine z_iload_n rfl rfl ?_
  refine z_iconst 1 rfl rfl ?_
  refine z_iadd rfl ?_
  refine z_iconst 1 rfl rfl ?_
  refine z_cvv (M' := M_r_makeRoom) [.int (l2 + 1), .int 1] hx rfl w_823 cv_r_makeRoom hG.1 (by decide) rfl rfl rfl rfl (zr_makeRoom hx hG hw) ?_ (fun _ _ hf => hf.elim)
  clear hw
  intro S1 hw
  refine z_aload_n rfl rfl ?_
  refine z_iload_n rfl rfl ?_
  refine z_iload_n rfl rfl ?_
  refine z_iconst 1 rfl rfl ?_
  refine z_iadd rfl ?_
  refine z_cvv (M' := M_r_copyCells) [.int l2, .int (l2 + 1)] hx rfl w_790 cv_r_copyCells hG.1 (by decide) rfl rfl rfl rfl (zr_copyCells hx hG hw) ?_ (fun _ _ hf => hf.elim)
  clear hw
  intro S2 hw
  refine z_aload_n rfl rfl ?_
  refine z_iload_n rfl rfl ?_
  refine z_iconst 1 rfl rfl ?_
  refine z_iadd rfl ?_
  refine z_iconst 0 rfl rfl ?_
  refine z_iload_n rfl rfl ?_
  obtain ⟨hc1, hw⟩ := hw
  replace hw := hw _ rfl
  refine z_cvv (M' := M_r_put) (post := fun S' => (up2 S2 154 ((8 * (l2 + 1)) + 0).toNatClampNeg l1) = S') [.int (l2 + 1), .int 0, .int l1] hx rfl w_774 cv_r_put hG.1 (by decide) rfl rfl rfl rfl (zr_put hx hG (⟨hc1, fun _ hS => by subst hS; exact rfl⟩)) ?_ (fun _ _ hf => hf.elim)
  rintro S' rfl
  refine z_aload_n rfl rfl ?_
  refine z_iload_n rfl rfl ?_
  refine z_iconst 1 rfl rfl ?_
  refine z_iadd rfl ?_
  refine z_iconst 2 rfl rfl ?_
  refine z_aload_n rfl rfl ?_
  refine z_iload_n rfl rfl ?_
  refine z_iconst 2 rfl rfl ?_
  obtain ⟨hc2, hw⟩ := hw
  refine z_cvi (M' := M_r_of) (post := fun v S' => ((up2 S2 154 ((8 * (l2 + 1)) + 0).toNatClampNeg l1) 154 ((8 * l2) + 2).toNatClampNeg) = v ∧ (up2 S2 154 ((8 * (l2 + 1)) + 0).toNatClampNeg l1) = S') [.int l2, .int 2] hx rfl w_754 cv_r_of hG.1 (by decide) rfl rfl rfl rfl (zr_of hx hG (⟨hc2, ⟨rfl, rfl⟩⟩)) ?_ (fun _ _ hf => hf.elim)
  rintro v S' ⟨rfl, rfl⟩
  refine z_iload_n rfl rfl ?_
  refine z_iadd rfl ?_
  obtain ⟨hc3, hw⟩ := hw
  replace hw := hw _ rfl
  refine z_cvv (M' := M_r_put) (post := fun S' => (up2 (up2 S2 154 ((8 * (l2 + 1)) + 0).toNatClampNeg l1) 154 ((8 * (l2 + 1)) + 2).toNatClampNeg (((up2 S2 154 ((8 * (l2 + 1)) + 0).toNatClampNeg l1) 154 ((8 * l2) + 2).toNatClampNeg) + l3)) = S') [.int (l2 + 1), .int 2, .int (((up2 S2 154 ((8 * (l2 + 1)) + 0).toNatClampNeg l1) 154 ((8 * l2) + 2).toNatClampNeg) + l3)] hx rfl w_774 cv_r_put hG.1 (by decide) rfl rfl rfl rfl (zr_put hx hG (⟨hc3, fun _ hS => by subst hS; exact rfl⟩)) ?_ (fun _ _ hf => hf.elim)
  rintro S' rfl
  refine z_aload_n rfl rfl ?_
  refine z_iload_n rfl rfl ?_
  refine z_iconst 1 rfl rfl ?_
  refine z_iadd rfl ?_
  refine z_iconst 3 rfl rfl ?_
  refine z_aload_n rfl rfl ?_
  refine z_iload_n rfl rfl ?_
  refine z_iconst 3 rfl rfl ?_
  obtain ⟨hc4, hw⟩ := hw
  refine z_cvi (M' := M_r_of) (post := fun v S' => ((up2 (up2 S2 154 ((8 * (l2 + 1)) + 0).toNatClampNeg l1) 154 ((8 * (l2 + 1)) + 2).toNatClampNeg (((up2 S2 154 ((8 * (l2 + 1)) + 0).toNatClampNeg l1) 154 ((8 * l2) + 2).toNatClampNeg) + l3)) 154 ((8 * l2) + 3).toNatClampNeg) = v ∧ (up2 (up2 S2 154 ((8 * (l2 + 1)) + 0).toNatClampNeg l1) 154 ((8 * (l2 + 1)) + 2).toNatClampNeg (((up2 S2 154 ((8 * (l2 + 1)) + 0).toNatClampNeg l1) 154 ((8 * l2) + 2).toNatClampNeg) + l3)) = S') [.int l2, .int 3] hx rfl w_754 cv_r_of hG.1 (by decide) rfl rfl rfl rfl (zr_of hx hG (⟨hc4, ⟨rfl, rfl⟩⟩)) ?_ (fun _ _ hf => hf.elim)
  rintro v S' ⟨rfl, rfl⟩
  refine z_iload rfl rfl ?_
  refine z_iadd rfl ?_
  obtain ⟨hc5, hw⟩ := hw
  replace hw := hw _ rfl
  refine z_cvv (M' := M_r_put) (post := fun S' => (up2 (up2 (up2 S2 154 ((8 * (l2 + 1)) + 0).toNatClampNeg l1) 154 ((8 * (l2 + 1)) + 2).toNatClampNeg (((up2 S2 154 ((8 * (l2 + 1)) + 0).toNatClampNeg l1) 154 ((8 * l2) + 2).toNatClampNeg) + l3)) 154 ((8 * (l2 + 1)) + 3).toNatClampNeg (((up2 (up2 S2 154 ((8 * (l2 + 1)) + 0).toNatClampNeg l1) 154 ((8 * (l2 + 1)) + 2).toNatClampNeg (((up2 S2 154 ((8 * (l2 + 1)) + 0).toNatClampNeg l1) 154 ((8 * l2) + 2).toNatClampNeg) + l3)) 154 ((8 * l2) + 3).toNatClampNeg) + l4)) = S') [.int (l2 + 1), .int 3, .int (((up2 (up2 S2 154 ((8 * (l2 + 1)) + 0).toNatClampNeg l1) 154 ((8 * (l2 + 1)) + 2).toNatClampNeg (((up2 S2 154 ((8 * (l2 + 1)) + 0).toNatClampNeg l1) 154 ((8 * l2) + 2).toNatClampNeg) + l3)) 154 ((8 * l2) + 3).toNatClampNeg) + l4)] hx rfl w_774 cv_r_put hG.1 (by decide) rfl rfl rfl rfl (zr_put hx hG (⟨hc5, fun _ hS => by subst hS; exact rfl⟩)) ?_ (fun _ _ hf => hf.elim)
  rintro S' rfl
  exact z_vret rfl rfl rfl rfl (Or.inl ⟨_, rfl, rfl, hw⟩)
def r_align (post : Mem → Prop) (S : Mem) (l1 : Int32) (l2 : Int32) (l3 : Int32) : Prop :=
  r_behind (fun r1 S1 =>
   r_findBox (fun S2 =>
    r_behind (fun r3 S3 =>
     r_findBox (fun S4 =>
      r_behind (fun r5 S5 =>
       r_shift (fun S6 =>
        post S6) S5 l1 r5 (if l3 = 0 then ((S2 148 12) - (S4 148 12)) else (if l3 = 2 then ((S2 148 14) - (S4 148 14)) else 0 : Int32) : Int32) (if l3 = 1 then ((S2 148 13) - (S4 148 13)) else (if l3 = 3 then ((S2 148 15) - (S4 148 15)) else 0 : Int32) : Int32)) S4 l1) S3 l1 r3) S2 l1) S1 l2 r1) S l2
set_option maxRecDepth 100000 in
set_option maxHeartbeats 1000000 in
theorem zr_align {g : Gm} {G : Gp} {S : Mem} {post : Mem → Prop} {l1 : Int32} {l2 : Int32} {l3 : Int32} (hx : G.2.2.2 = false) (hG : isR G) (hw : r_align post S l1 l2 l3) : Z g M_r_align 0 0 0 (entryL [.ref 148, .int l1, .int l2, .int l3] (mL M_r_align)) [] (S, G) (Qv G post noEx) := by
  unfold r_align at hw
  show Z g M_r_align 0 0 0 [some (.ref 148), some (.int l1), some (.int l2), some (.int l3), none, none, none, none, none, none] [] (S, G) (Qv G post noEx)
  refine z_aload_n rfl rfl ?_
  refine z_iload_n rfl rfl ?_
  refine z_aload_n rfl rfl ?_
  refine z_iload_n rfl rfl ?_
  refine z_cvi (M' := M_r_behind) [.int l2] hx rfl w_782 cv_r_behind hG.1 (by decide) rfl rfl rfl rfl (zr_behind hx hG hw) ?_ (fun _ _ hf => hf.elim)
  clear hw
  intro r1 S1 hw
  refine z_cvv (M' := M_r_findBox) [.int l2, .int r1] hx rfl w_802 cv_r_findBox hG.1 (by decide) rfl rfl rfl rfl (zr_findBox hx hG hw) ?_ (fun _ _ hf => hf.elim)
  clear hw
  intro S2 hw
  refine z_aload_n rfl rfl ?_
  refine z_geti (ci := 7) 12 rfl hG.1 rfl w_670 ?_
  refine z_istore [some (.ref 148), some (.int l1), some (.int l2), some (.int l3), some (.int (S2 148 12)), none, none, none, none, none] rfl rfl rfl ?_
  refine z_aload_n rfl rfl ?_
  refine z_geti (ci := 7) 13 rfl hG.1 rfl w_671 ?_
  refine z_istore [some (.ref 148), some (.int l1), some (.int l2), some (.int l3), some (.int (S2 148 12)), some (.int (S2 148 13)), none, none, none, none] rfl rfl rfl ?_
  refine z_aload_n rfl rfl ?_
  refine z_geti (ci := 7) 14 rfl hG.1 rfl w_672 ?_
  refine z_istore [some (.ref 148), some (.int l1), some (.int l2), some (.int l3), some (.int (S2 148 12)), some (.int (S2 148 13)), some (.int (S2 148 14)), none, none, none] rfl rfl rfl ?_
  refine z_aload_n rfl rfl ?_
  refine z_geti (ci := 7) 15 rfl hG.1 rfl w_673 ?_
  refine z_istore [some (.ref 148), some (.int l1), some (.int l2), some (.int l3), some (.int (S2 148 12)), some (.int (S2 148 13)), some (.int (S2 148 14)), some (.int (S2 148 15)), none, none] rfl rfl rfl ?_
  refine z_aload_n rfl rfl ?_
  refine z_iload_n rfl rfl ?_
  refine z_aload_n rfl rfl ?_
  refine z_iload_n rfl rfl ?_
  refine z_cvi (M' := M_r_behind) [.int l1] hx rfl w_782 cv_r_behind hG.1 (by decide) rfl rfl rfl rfl (zr_behind hx hG hw) ?_ (fun _ _ hf => hf.elim)
  clear hw
  intro r3 S3 hw
  refine z_cvv (M' := M_r_findBox) [.int l1, .int r3] hx rfl w_802 cv_r_findBox hG.1 (by decide) rfl rfl rfl rfl (zr_findBox hx hG hw) ?_ (fun _ _ hf => hf.elim)
  clear hw
  intro S4 hw
  refine z_iload_n rfl rfl ?_
  have hj45 : ∀ v : Int32, v = (if l3 = 0 then ((S2 148 12) - (S4 148 12)) else (if l3 = 2 then ((S2 148 14) - (S4 148 14)) else 0 : Int32) : Int32) → Z g M_r_align 0 0 74 [some (.ref 148), some (.int l1), some (.int l2), some (.int l3), some (.int (S2 148 12)), some (.int (S2 148 13)), some (.int (S2 148 14)), some (.int (S2 148 15)), none, none] [.int v] (S4, G) (Qv G post noEx) := by
    intro v hv
    subst hv
    refine z_istore [some (.ref 148), some (.int l1), some (.int l2), some (.int l3), some (.int (S2 148 12)), some (.int (S2 148 13)), some (.int (S2 148 14)), some (.int (S2 148 15)), some (.int (if l3 = 0 then ((S2 148 12) - (S4 148 12)) else (if l3 = 2 then ((S2 148 14) - (S4 148 14)) else 0 : Int32) : Int32)), none] rfl rfl rfl ?_
    refine z_iload_n rfl rfl ?_
    refine z_iconst 1 rfl rfl ?_
    have hj78 : ∀ v : Int32, v = (if l3 = 1 then ((S2 148 13) - (S4 148 13)) else (if l3 = 3 then ((S2 148 15) - (S4 148 15)) else 0 : Int32) : Int32) → Z g M_r_align 0 0 107 [some (.ref 148), some (.int l1), some (.int l2), some (.int l3), some (.int (S2 148 12)), some (.int (S2 148 13)), some (.int (S2 148 14)), some (.int (S2 148 15)), some (.int (if l3 = 0 then ((S2 148 12) - (S4 148 12)) else (if l3 = 2 then ((S2 148 14) - (S4 148 14)) else 0 : Int32) : Int32)), none] [.int v] (S4, G) (Qv G post noEx) := by
      intro v hv
      subst hv
      refine z_istore [some (.ref 148), some (.int l1), some (.int l2), some (.int l3), some (.int (S2 148 12)), some (.int (S2 148 13)), some (.int (S2 148 14)), some (.int (S2 148 15)), some (.int (if l3 = 0 then ((S2 148 12) - (S4 148 12)) else (if l3 = 2 then ((S2 148 14) - (S4 148 14)) else 0 : Int32) : Int32)), some (.int (if l3 = 1 then ((S2 148 13) - (S4 148 13)) else (if l3 = 3 then ((S2 148 15) - (S4 148 15)) else 0 : Int32) : Int32))] rfl rfl rfl ?_
      refine z_aload_n rfl rfl ?_
      refine z_iload_n rfl rfl ?_
      refine z_aload_n rfl rfl ?_
      refine z_iload_n rfl rfl ?_
      refine z_cvi (M' := M_r_behind) [.int l1] hx rfl w_782 cv_r_behind hG.1 (by decide) rfl rfl rfl rfl (zr_behind hx hG hw) ?_ (fun _ _ hf => hf.elim)
      clear hw
      intro r5 S5 hw
      refine z_iload rfl rfl ?_
      refine z_iload rfl rfl ?_
      refine z_cvv (M' := M_r_shift) [.int l1, .int r5, .int (if l3 = 0 then ((S2 148 12) - (S4 148 12)) else (if l3 = 2 then ((S2 148 14) - (S4 148 14)) else 0 : Int32) : Int32), .int (if l3 = 1 then ((S2 148 13) - (S4 148 13)) else (if l3 = 3 then ((S2 148 15) - (S4 148 15)) else 0 : Int32) : Int32)] hx rfl w_794 cv_r_shift hG.1 (by decide) rfl rfl rfl rfl (zr_shift hx hG hw) ?_ (fun _ _ hf => hf.elim)
      clear hw
      intro S6 hw
      exact z_vret rfl rfl rfl rfl (Or.inl ⟨_, rfl, rfl, hw⟩)
    refine z_icmp_ne rfl (fun hp78 => ?_) (fun hp78 => ?_)
    · refine z_iload_n rfl rfl ?_
      refine z_iconst 3 rfl rfl ?_
      refine z_icmp_ne rfl (fun hp93 => ?_) (fun hp93 => ?_)
      · refine z_iconst 0 rfl rfl ?_
        exact hj78 _ (by rw [if_neg hp78, if_neg hp93])
      · refine z_iload rfl rfl ?_
        refine z_aload_n rfl rfl ?_
        refine z_geti (ci := 7) 15 rfl hG.1 rfl w_673 ?_
        refine z_isub rfl ?_
        refine z_goto rfl ?_
        exact hj78 _ (by rw [if_neg hp78, if_pos hp93])
    · refine z_iload rfl rfl ?_
      refine z_aload_n rfl rfl ?_
      refine z_geti (ci := 7) 13 rfl hG.1 rfl w_671 ?_
      refine z_isub rfl ?_
      refine z_goto rfl ?_
      exact hj78 _ (by rw [if_pos hp78])
  refine z_if_ne rfl (fun hp45 => ?_) (fun hp45 => ?_)
  · refine z_iload_n rfl rfl ?_
    refine z_iconst 2 rfl rfl ?_
    refine z_icmp_ne rfl (fun hp60 => ?_) (fun hp60 => ?_)
    · refine z_iconst 0 rfl rfl ?_
      exact hj45 _ (by rw [if_neg hp45, if_neg hp60])
    · refine z_iload rfl rfl ?_
      refine z_aload_n rfl rfl ?_
      refine z_geti (ci := 7) 14 rfl hG.1 rfl w_672 ?_
      refine z_isub rfl ?_
      refine z_goto rfl ?_
      exact hj45 _ (by rw [if_neg hp45, if_pos hp60])
  · refine z_iload rfl rfl ?_
    refine z_aload_n rfl rfl ?_
    refine z_geti (ci := 7) 12 rfl hG.1 rfl w_670 ?_
    refine z_isub rfl ?_
    refine z_goto rfl ?_
    exact hj45 _ (by rw [if_pos hp45])
def r_isAlone (post : Int32 → Mem → Prop) (S : Mem) (l1 : Int32) : Prop :=
  ((¬ l1 < 0 → (vp_in ((8 * l1) + 7) 112))) ∧ 
  vp_nar .boolean (if l1 < 0 then 0 else (if 0 ≤ (S 154 ((8 * l1) + 7).toNatClampNeg) then 0 else 1 : Int32) : Int32) = (if l1 < 0 then 0 else (if 0 ≤ (S 154 ((8 * l1) + 7).toNatClampNeg) then 0 else 1 : Int32) : Int32) ∧ post (if l1 < 0 then 0 else (if 0 ≤ (S 154 ((8 * l1) + 7).toNatClampNeg) then 0 else 1 : Int32) : Int32) S
set_option maxRecDepth 100000 in
set_option maxHeartbeats 1000000 in
theorem zr_isAlone {g : Gm} {G : Gp} {S : Mem} {post : Int32 → Mem → Prop} {l1 : Int32} (hx : G.2.2.2 = false) (hG : isR G) (hw : r_isAlone post S l1) : Z g M_r_isAlone 0 0 0 (entryL [.ref 148, .int l1] (mL M_r_isAlone)) [] (S, G) (Qi G post noEx) := by
  unfold r_isAlone at hw
  show Z g M_r_isAlone 0 0 0 [some (.ref 148), some (.int l1)] [] (S, G) (Qi G post noEx)
  refine z_iload_n rfl rfl ?_
  obtain ⟨hc2, hw⟩ := hw
  have hj1 : ∀ v : Int32, v = (if l1 < 0 then 0 else (if 0 ≤ (S 154 ((8 * l1) + 7).toNatClampNeg) then 0 else 1 : Int32) : Int32) → Z g M_r_isAlone 0 0 19 [some (.ref 148), some (.int l1)] [.int v] (S, G) (Qi G post noEx) := by
    intro v hv
    subst hv
    obtain ⟨hc1, hw⟩ := hw
    exact z_zret rfl rfl (nar_of hc1) rfl rfl (Or.inl ⟨_, _, rfl, rfl, hw⟩)
  refine z_if_lt rfl (fun hp1 => ?_) (fun hp1 => ?_)
  · refine z_iconst 0 rfl rfl ?_
    exact hj1 _ (by rw [if_pos hp1])
  · refine z_aload_n rfl rfl ?_
    refine z_iload_n rfl rfl ?_
    refine z_bipush 7 rfl rfl ?_
    refine z_cvi (M' := M_r_of) (post := fun v S' => (S 154 ((8 * l1) + 7).toNatClampNeg) = v ∧ S = S') [.int l1, .int 7] hx rfl w_754 cv_r_of hG.1 (by decide) rfl rfl rfl rfl (zr_of hx hG  (⟨(hc2 hp1), ⟨rfl, rfl⟩⟩)) ?_ (fun _ _ hf => hf.elim)
    rintro v S' ⟨rfl, rfl⟩
    refine z_if_ge rfl (fun hp11 => ?_) (fun hp11 => ?_)
    · refine z_iconst 0 rfl rfl ?_
      exact hj1 _ (by rw [if_neg hp1, if_pos hp11])
    · refine z_iconst 1 rfl rfl ?_
      refine z_goto rfl ?_
      exact hj1 _ (by rw [if_neg hp1, if_neg hp11])
def r_fits_J50 (post : Int32 → Mem → Prop)  (S : Mem) (l1 : Int32) (l2 : Int32) (l3 : Int32) : Prop :=
  (vp_in ((4 * l1) + 1) 96) ∧ 
  r_find (fun r1 S1 =>
   ((r1 < 0) →
    post 0 S1) ∧
   ((¬ r1 < 0) →
    ((¬ r1 = l3) →
     ((¬ l2 = 6) →
      (vp_in ((4 * l1) + 1) 96) ∧ 
      r_isIn (fun r2 S2 =>
       ((¬ r2 = 0) →
        post 0 S2) ∧
       ((r2 = 0) →
        (vp_in ((4 * l1) + 0) 96) ∧ 
        r_isIn (fun r3 S3 =>
         ((¬ r3 = 0) →
          post 0 S3) ∧
         ((r3 = 0) →
          post 1 S3)) S2 r1 (S2 150 ((4 * l1) + 0).toNatClampNeg))) S1 l3 (S1 150 ((4 * l1) + 1).toNatClampNeg)) ∧
     ((l2 = 6) →
      r_isAlone (fun r4 S4 =>
       ((r4 = 0) →
        post 0 S4) ∧
       ((¬ r4 = 0) →
        r_isAlone (fun r5 S5 =>
         ((r5 = 0) →
          post 0 S5) ∧
         ((¬ r5 = 0) →
          post 1 S5)) S4 r1)) S1 l3)) ∧
    ((r1 = l3) →
     post 0 S1))) S (S 150 ((4 * l1) + 1).toNatClampNeg)
set_option maxRecDepth 100000 in
set_option maxHeartbeats 1000000 in
theorem zr_fits_J50 {g : Gm} {G : Gp} {post : Int32 → Mem → Prop} (hx : G.2.2.2 = false) (hG : isR G) {S : Mem} {l1 : Int32} {l2 : Int32} {l3 : Int32}  (hw : r_fits_J50 post S l1 l2 l3) : Z g M_r_fits 0 0 50 [some (.ref 148), some (.int l1), some (.int l2), some (.int l3), none] [] (S, G) (Qi G post noEx) := by
  unfold r_fits_J50 at hw
  refine z_aload_n rfl rfl ?_
  refine z_aload_n rfl rfl ?_
  refine z_iload_n rfl rfl ?_
  refine z_iconst 1 rfl rfl ?_
  obtain ⟨hc1, hw⟩ := hw
  refine z_cvi (M' := M_r_arg) (post := fun v S' => (S 150 ((4 * l1) + 1).toNatClampNeg) = v ∧ S = S') [.int l1, .int 1] hx rfl w_734 cv_r_arg hG.1 (by decide) rfl rfl rfl rfl (zr_arg hx hG (⟨hc1, ⟨rfl, rfl⟩⟩)) ?_ (fun _ _ hf => hf.elim)
  rintro v S' ⟨rfl, rfl⟩
  refine z_cvi (M' := M_r_find) [.int (S 150 ((4 * l1) + 1).toNatClampNeg)] hx rfl w_750 cv_r_find hG.1 (by decide) rfl rfl rfl rfl (zr_find hx hG hw) ?_ (fun _ _ hf => hf.elim)
  clear hw
  intro r1 S1 hw
  refine z_istore [some (.ref 148), some (.int l1), some (.int l2), some (.int l3), some (.int r1)] rfl rfl rfl ?_
  refine z_iload rfl rfl ?_
  refine z_if_lt rfl (fun hq => ?_) (fun hq => ?_)
  · replace hw := hw.1 hq
    refine z_iconst 0 rfl rfl ?_
    exact z_zret rfl rfl (by decide) rfl rfl (Or.inl ⟨_, _, rfl, rfl, hw⟩)
  · replace hw := hw.2 hq
    refine z_iload rfl rfl ?_
    refine z_iload_n rfl rfl ?_
    refine z_icmp_ne rfl (fun hq => ?_) (fun hq => ?_)
    · replace hw := hw.1 hq
      refine z_iload_n rfl rfl ?_
      refine z_bipush 6 rfl rfl ?_
      refine z_icmp_ne rfl (fun hq => ?_) (fun hq => ?_)
      · replace hw := hw.1 hq
        refine z_aload_n rfl rfl ?_
        refine z_iload_n rfl rfl ?_
        refine z_aload_n rfl rfl ?_
        refine z_iload_n rfl rfl ?_
        refine z_iconst 1 rfl rfl ?_
        obtain ⟨hc2, hw⟩ := hw
        refine z_cvi (M' := M_r_arg) (post := fun v S' => (S1 150 ((4 * l1) + 1).toNatClampNeg) = v ∧ S1 = S') [.int l1, .int 1] hx rfl w_734 cv_r_arg hG.1 (by decide) rfl rfl rfl rfl (zr_arg hx hG (⟨hc2, ⟨rfl, rfl⟩⟩)) ?_ (fun _ _ hf => hf.elim)
        rintro v S' ⟨rfl, rfl⟩
        refine z_cvi (M' := M_r_isIn) [.int l3, .int (S1 150 ((4 * l1) + 1).toNatClampNeg)] hx rfl w_762 cv_r_isIn hG.1 (by decide) rfl rfl rfl rfl (zr_isIn hx hG hw) ?_ (fun _ _ hf => hf.elim)
        clear hw
        intro r2 S2 hw
        refine z_if_ne rfl (fun hq => ?_) (fun hq => ?_)
        · replace hw := hw.1 hq
          refine z_iconst 0 rfl rfl ?_
          exact z_zret rfl rfl (by decide) rfl rfl (Or.inl ⟨_, _, rfl, rfl, hw⟩)
        · replace hw := hw.2 hq
          refine z_aload_n rfl rfl ?_
          refine z_iload rfl rfl ?_
          refine z_aload_n rfl rfl ?_
          refine z_iload_n rfl rfl ?_
          refine z_iconst 0 rfl rfl ?_
          obtain ⟨hc3, hw⟩ := hw
          refine z_cvi (M' := M_r_arg) (post := fun v S' => (S2 150 ((4 * l1) + 0).toNatClampNeg) = v ∧ S2 = S') [.int l1, .int 0] hx rfl w_734 cv_r_arg hG.1 (by decide) rfl rfl rfl rfl (zr_arg hx hG (⟨hc3, ⟨rfl, rfl⟩⟩)) ?_ (fun _ _ hf => hf.elim)
          rintro v S' ⟨rfl, rfl⟩
          refine z_cvi (M' := M_r_isIn) [.int r1, .int (S2 150 ((4 * l1) + 0).toNatClampNeg)] hx rfl w_762 cv_r_isIn hG.1 (by decide) rfl rfl rfl rfl (zr_isIn hx hG hw) ?_ (fun _ _ hf => hf.elim)
          clear hw
          intro r3 S3 hw
          refine z_if_ne rfl (fun hq => ?_) (fun hq => ?_)
          · replace hw := hw.1 hq
            refine z_iconst 0 rfl rfl ?_
            exact z_zret rfl rfl (by decide) rfl rfl (Or.inl ⟨_, _, rfl, rfl, hw⟩)
          · replace hw := hw.2 hq
            refine z_iconst 1 rfl rfl ?_
            refine z_goto rfl ?_
            exact z_zret rfl rfl (by decide) rfl rfl (Or.inl ⟨_, _, rfl, rfl, hw⟩)
      · replace hw := hw.2 hq
        refine z_aload_n rfl rfl ?_
        refine z_iload_n rfl rfl ?_
        refine z_cvi (M' := M_r_isAlone) [.int l3] hx rfl w_758 cv_r_isAlone hG.1 (by decide) rfl rfl rfl rfl (zr_isAlone hx hG hw) ?_ (fun _ _ hf => hf.elim)
        clear hw
        intro r4 S4 hw
        refine z_if_eq rfl (fun hq => ?_) (fun hq => ?_)
        · replace hw := hw.1 hq
          refine z_iconst 0 rfl rfl ?_
          refine z_goto rfl ?_
          exact z_zret rfl rfl (by decide) rfl rfl (Or.inl ⟨_, _, rfl, rfl, hw⟩)
        · replace hw := hw.2 hq
          refine z_aload_n rfl rfl ?_
          refine z_iload rfl rfl ?_
          refine z_cvi (M' := M_r_isAlone) [.int r1] hx rfl w_758 cv_r_isAlone hG.1 (by decide) rfl rfl rfl rfl (zr_isAlone hx hG hw) ?_ (fun _ _ hf => hf.elim)
          clear hw
          intro r5 S5 hw
          refine z_if_eq rfl (fun hq => ?_) (fun hq => ?_)
          · replace hw := hw.1 hq
            refine z_iconst 0 rfl rfl ?_
            refine z_goto rfl ?_
            exact z_zret rfl rfl (by decide) rfl rfl (Or.inl ⟨_, _, rfl, rfl, hw⟩)
          · replace hw := hw.2 hq
            refine z_iconst 1 rfl rfl ?_
            refine z_goto rfl ?_
            exact z_zret rfl rfl (by decide) rfl rfl (Or.inl ⟨_, _, rfl, rfl, hw⟩)
    · replace hw := hw.2 hq
      refine z_iconst 0 rfl rfl ?_
      exact z_zret rfl rfl (by decide) rfl rfl (Or.inl ⟨_, _, rfl, rfl, hw⟩)
def r_fits_J25 (post : Int32 → Mem → Prop)  (S : Mem) (l1 : Int32) (l2 : Int32) (k0 : Int32) : Prop :=
  ((¬ l2 = 0) →
   ((0 ≤ k0) →
    ((l2 = 6) →
     r_fits_J50 post S l1 l2 k0) ∧
    ((¬ l2 = 6) →
     ((¬ l2 = 9) →
      ((l2 = 7 → (vp_in ((8 * k0) + 1) 112)) ∧ (¬ l2 = 7 → (l2 = 8 → (vp_in ((8 * k0) + 1) 112)))) ∧ 
      vp_nar .boolean (if l2 = 7 then (if (S 154 ((8 * k0) + 1).toNatClampNeg) = 3 then 1 else 0 : Int32) else (if l2 = 8 then (if (S 154 ((8 * k0) + 1).toNatClampNeg) = 3 then 0 else 1 : Int32) else 1 : Int32) : Int32) = (if l2 = 7 then (if (S 154 ((8 * k0) + 1).toNatClampNeg) = 3 then 1 else 0 : Int32) else (if l2 = 8 then (if (S 154 ((8 * k0) + 1).toNatClampNeg) = 3 then 0 else 1 : Int32) else 1 : Int32) : Int32) ∧ post (if l2 = 7 then (if (S 154 ((8 * k0) + 1).toNatClampNeg) = 3 then 1 else 0 : Int32) else (if l2 = 8 then (if (S 154 ((8 * k0) + 1).toNatClampNeg) = 3 then 0 else 1 : Int32) else 1 : Int32) : Int32) S) ∧
     ((l2 = 9) →
      r_fits_J50 post S l1 l2 k0))) ∧
   ((¬ 0 ≤ k0) →
    post 0 S)) ∧
  ((l2 = 0) →
   post 1 S)
set_option maxRecDepth 100000 in
set_option maxHeartbeats 1000000 in
theorem zr_fits_J25 {g : Gm} {G : Gp} {post : Int32 → Mem → Prop} (hx : G.2.2.2 = false) (hG : isR G) {S : Mem} {l1 : Int32} {l2 : Int32} {k0 : Int32}  (hw : r_fits_J25 post S l1 l2 k0) : Z g M_r_fits 0 0 25 [some (.ref 148), some (.int l1), some (.int l2), none, none] [.int k0] (S, G) (Qi G post noEx) := by
  unfold r_fits_J25 at hw
  refine z_istore_n [some (.ref 148), some (.int l1), some (.int l2), some (.int k0), none] rfl rfl rfl ?_
  refine z_iload_n rfl rfl ?_
  refine z_if_ne rfl (fun hq => ?_) (fun hq => ?_)
  · replace hw := hw.1 hq
    refine z_iload_n rfl rfl ?_
    refine z_if_ge rfl (fun hq => ?_) (fun hq => ?_)
    · replace hw := hw.1 hq
      refine z_iload_n rfl rfl ?_
      refine z_bipush 6 rfl rfl ?_
      refine z_icmp_eq rfl (fun hq => ?_) (fun hq => ?_)
      · replace hw := hw.1 hq
        refine Z.forget' [some (.ref 148), some (.int l1), some (.int l2), some (.int k0), none] ⟨rfl, ⟨rfl, ⟨rfl, ⟨rfl, trivial⟩⟩⟩⟩ ?_
        exact zr_fits_J50 hx hG hw
      · replace hw := hw.2 hq
        refine z_iload_n rfl rfl ?_
        refine z_bipush 9 rfl rfl ?_
        refine z_icmp_ne rfl (fun hq => ?_) (fun hq => ?_)
        · replace hw := hw.1 hq
          refine z_iload_n rfl rfl ?_
          refine z_bipush 7 rfl rfl ?_
          obtain ⟨hc2, hw⟩ := hw
          have hj144 : ∀ v : Int32, v = (if l2 = 7 then (if (S 154 ((8 * k0) + 1).toNatClampNeg) = 3 then 1 else 0 : Int32) else (if l2 = 8 then (if (S 154 ((8 * k0) + 1).toNatClampNeg) = 3 then 0 else 1 : Int32) else 1 : Int32) : Int32) → Z g M_r_fits 0 0 186 [some (.ref 148), some (.int l1), some (.int l2), some (.int k0), none] [.int v] (S, G) (Qi G post noEx) := by
            intro v hv
            subst hv
            obtain ⟨hc1, hw⟩ := hw
            exact z_zret rfl rfl (nar_of hc1) rfl rfl (Or.inl ⟨_, _, rfl, rfl, hw⟩)
          refine z_icmp_ne rfl (fun hp144 => ?_) (fun hp144 => ?_)
          · refine z_iload_n rfl rfl ?_
            refine z_bipush 8 rfl rfl ?_
            refine z_icmp_ne rfl (fun hp168 => ?_) (fun hp168 => ?_)
            · refine z_iconst 1 rfl rfl ?_
              refine z_goto rfl ?_
              exact hj144 _ (by rw [if_neg hp144, if_neg hp168])
            · refine z_aload_n rfl rfl ?_
              refine z_iload_n rfl rfl ?_
              refine z_iconst 1 rfl rfl ?_
              refine z_cvi (M' := M_r_of) (post := fun v S' => (S 154 ((8 * k0) + 1).toNatClampNeg) = v ∧ S = S') [.int k0, .int 1] hx rfl w_754 cv_r_of hG.1 (by decide) rfl rfl rfl rfl (zr_of hx hG  (⟨((hc2.2 hp144) hp168), ⟨rfl, rfl⟩⟩)) ?_ (fun _ _ hf => hf.elim)
              rintro v S' ⟨rfl, rfl⟩
              refine z_iconst 3 rfl rfl ?_
              refine z_icmp_eq rfl (fun hp178 => ?_) (fun hp178 => ?_)
              · refine z_iconst 0 rfl rfl ?_
                exact hj144 _ (by rw [if_neg hp144, if_pos hp168, if_pos hp178])
              · refine z_iconst 1 rfl rfl ?_
                refine z_goto rfl ?_
                exact hj144 _ (by rw [if_neg hp144, if_pos hp168, if_neg hp178])
          · refine z_aload_n rfl rfl ?_
            refine z_iload_n rfl rfl ?_
            refine z_iconst 1 rfl rfl ?_
            refine z_cvi (M' := M_r_of) (post := fun v S' => (S 154 ((8 * k0) + 1).toNatClampNeg) = v ∧ S = S') [.int k0, .int 1] hx rfl w_754 cv_r_of hG.1 (by decide) rfl rfl rfl rfl (zr_of hx hG  (⟨(hc2.1 hp144), ⟨rfl, rfl⟩⟩)) ?_ (fun _ _ hf => hf.elim)
            rintro v S' ⟨rfl, rfl⟩
            refine z_iconst 3 rfl rfl ?_
            refine z_icmp_ne rfl (fun hp154 => ?_) (fun hp154 => ?_)
            · refine z_iconst 0 rfl rfl ?_
              refine z_goto rfl ?_
              exact hj144 _ (by rw [if_pos hp144, if_neg hp154])
            · refine z_iconst 1 rfl rfl ?_
              refine z_goto rfl ?_
              exact hj144 _ (by rw [if_pos hp144, if_pos hp154])
        · replace hw := hw.2 hq
          refine Z.forget' [some (.ref 148), some (.int l1), some (.int l2), some (.int k0), none] ⟨rfl, ⟨rfl, ⟨rfl, ⟨rfl, trivial⟩⟩⟩⟩ ?_
          exact zr_fits_J50 hx hG hw
    · replace hw := hw.2 hq
      refine z_iconst 0 rfl rfl ?_
      exact z_zret rfl rfl (by decide) rfl rfl (Or.inl ⟨_, _, rfl, rfl, hw⟩)
  · replace hw := hw.2 hq
    refine z_iconst 1 rfl rfl ?_
    exact z_zret rfl rfl (by decide) rfl rfl (Or.inl ⟨_, _, rfl, rfl, hw⟩)
def r_fits (post : Int32 → Mem → Prop) (S : Mem) (l1 : Int32) : Prop :=
  (vp_in l1 24) ∧ ((¬ (S 149 l1.toNatClampNeg) = 0) →
   (vp_in ((4 * l1) + 0) 96) ∧ 
   r_find (fun r1 S1 =>
    r_fits_J25 post S1 l1 (S 149 l1.toNatClampNeg) r1) S (S 150 ((4 * l1) + 0).toNatClampNeg)) ∧
  (((S 149 l1.toNatClampNeg) = 0) →
   r_fits_J25 post S l1 (S 149 l1.toNatClampNeg) 0)
set_option maxRecDepth 100000 in
set_option maxHeartbeats 1000000 in
theorem zr_fits {g : Gm} {G : Gp} {S : Mem} {post : Int32 → Mem → Prop} {l1 : Int32} (hx : G.2.2.2 = false) (hG : isR G) (hw : r_fits post S l1) : Z g M_r_fits 0 0 0 (entryL [.ref 148, .int l1] (mL M_r_fits)) [] (S, G) (Qi G post noEx) := by
  unfold r_fits at hw
  show Z g M_r_fits 0 0 0 [some (.ref 148), some (.int l1), none, none, none] [] (S, G) (Qi G post noEx)
  refine z_aload_n rfl rfl ?_
  refine z_getr (ci := 7) 2 rfl hG.1 rfl w_660 hG.2.1 ?_
  refine z_iload_n rfl rfl ?_
  obtain ⟨hc1, hw⟩ := hw
  refine z_iald (l1.toNatClampNeg) rfl hG.2.2.1 hc1 rfl ?_
  refine z_istore_n [some (.ref 148), some (.int l1), some (.int (S 149 l1.toNatClampNeg)), none, none] rfl rfl rfl ?_
  refine z_iload_n rfl rfl ?_
  refine z_if_ne rfl (fun hq => ?_) (fun hq => ?_)
  · replace hw := hw.1 hq
    refine z_aload_n rfl rfl ?_
    refine z_aload_n rfl rfl ?_
    refine z_iload_n rfl rfl ?_
    refine z_iconst 0 rfl rfl ?_
    obtain ⟨hc2, hw⟩ := hw
    refine z_cvi (M' := M_r_arg) (post := fun v S' => (S 150 ((4 * l1) + 0).toNatClampNeg) = v ∧ S = S') [.int l1, .int 0] hx rfl w_734 cv_r_arg hG.1 (by decide) rfl rfl rfl rfl (zr_arg hx hG (⟨hc2, ⟨rfl, rfl⟩⟩)) ?_ (fun _ _ hf => hf.elim)
    rintro v S' ⟨rfl, rfl⟩
    refine z_cvi (M' := M_r_find) [.int (S 150 ((4 * l1) + 0).toNatClampNeg)] hx rfl w_750 cv_r_find hG.1 (by decide) rfl rfl rfl rfl (zr_find hx hG hw) ?_ (fun _ _ hf => hf.elim)
    clear hw
    intro r1 S1 hw
    refine Z.forget' [some (.ref 148), some (.int l1), some (.int (S 149 l1.toNatClampNeg)), none, none] ⟨rfl, ⟨rfl, ⟨rfl, trivial⟩⟩⟩ ?_
    exact zr_fits_J25 hx hG hw
  · replace hw := hw.2 hq
    refine z_iconst 0 rfl rfl ?_
    refine z_goto rfl ?_
    refine Z.forget' [some (.ref 148), some (.int l1), some (.int (S 149 l1.toNatClampNeg)), none, none] ⟨rfl, ⟨rfl, ⟨rfl, trivial⟩⟩⟩ ?_
    exact zr_fits_J25 hx hG hw
def r_act_L155 (post : Mem → Prop)  : Nat → Mem → Int32 → Int32 → Int32 → Prop
  | 0, _, _, _, _ => False
  | n + 1, S, l2, l3, l5 =>
  ((l5 ≤ l2) →
   post S) ∧
  ((¬ l5 ≤ l2) →
   (vp_in ((8 * l2) + 1) 112) ∧ 
   (vp_in ((8 * l2) + 6) 112) ∧ ∀ S1, S1 = up2 S 154 ((8 * l2) + 6).toNatClampNeg (if (S 154 ((8 * l2) + 1).toNatClampNeg) = 3 then (-1) else l3 : Int32) → 
   r_act_L155 post n S1 (l2 + 1) l3 l5)
set_option maxRecDepth 100000 in
set_option maxHeartbeats 1000000 in
theorem zr_act_L155 {g : Gm} {G : Gp} {post : Mem → Prop} (hx : G.2.2.2 = false) (hG : isR G) : ∀ (n : Nat) {S : Mem} {l2 : Int32} {l3 : Int32} {l5 : Int32} , r_act_L155 post n S l2 l3 l5 → Z g M_r_act 0 0 155 [some (.ref 148), none, some (.int l2), some (.int l3), none, some (.int l5)] [] (S, G) (Qv G post noEx) := by
  intro n
  induction n with
  | zero =>
    intros
    rename_i hw
    exact hw.elim
  | succ n ih =>
    intro S l2 l3 l5 hw
    rw [r_act_L155] at hw
    refine z_iload_n rfl rfl ?_
    refine z_iload rfl rfl ?_
    refine z_icmp_ge rfl (fun hq => ?_) (fun hq => ?_)
    · replace hw := hw.1 hq
      refine z_goto rfl ?_
      exact z_vret rfl rfl rfl rfl (Or.inl ⟨_, rfl, rfl, hw⟩)
    · replace hw := hw.2 hq
      refine z_aload_n rfl rfl ?_
      refine z_iload_n rfl rfl ?_
      refine z_bipush 6 rfl rfl ?_
      refine z_aload_n rfl rfl ?_
      refine z_iload_n rfl rfl ?_
      refine z_iconst 1 rfl rfl ?_
      obtain ⟨hc1, hw⟩ := hw
      refine z_cvi (M' := M_r_of) (post := fun v S' => (S 154 ((8 * l2) + 1).toNatClampNeg) = v ∧ S = S') [.int l2, .int 1] hx rfl w_754 cv_r_of hG.1 (by decide) rfl rfl rfl rfl (zr_of hx hG (⟨hc1, ⟨rfl, rfl⟩⟩)) ?_ (fun _ _ hf => hf.elim)
      rintro v S' ⟨rfl, rfl⟩
      refine z_iconst 3 rfl rfl ?_
      have hj172 : ∀ v : Int32, v = (if (S 154 ((8 * l2) + 1).toNatClampNeg) = 3 then (-1) else l3 : Int32) → Z g M_r_act 0 0 180 [some (.ref 148), none, some (.int l2), some (.int l3), none, some (.int l5)] [.int v, .int 6, .int l2, .ref 148] (S, G) (Qv G post noEx) := by
        intro v hv
        subst hv
        obtain ⟨hc2, hw⟩ := hw
        replace hw := hw _ rfl
        refine z_cvv (M' := M_r_put) (post := fun S' => (up2 S 154 ((8 * l2) + 6).toNatClampNeg (if (S 154 ((8 * l2) + 1).toNatClampNeg) = 3 then (-1) else l3 : Int32)) = S') [.int l2, .int 6, .int (if (S 154 ((8 * l2) + 1).toNatClampNeg) = 3 then (-1) else l3 : Int32)] hx rfl w_774 cv_r_put hG.1 (by decide) rfl rfl rfl rfl (zr_put hx hG (⟨hc2, fun _ hS => by subst hS; exact rfl⟩)) ?_ (fun _ _ hf => hf.elim)
        rintro S' rfl
        refine z_iinc 1 [some (.ref 148), none, some (.int (l2 + 1)), some (.int l3), none, some (.int l5)] rfl rfl rfl rfl ?_
        refine z_goto rfl ?_
        refine Z.forget' [some (.ref 148), none, some (.int (l2 + 1)), some (.int l3), none, some (.int l5)] ⟨rfl, ⟨rfl, ⟨rfl, ⟨rfl, trivial⟩⟩⟩⟩ ?_
        exact ih hw
      refine z_icmp_ne rfl (fun hp172 => ?_) (fun hp172 => ?_)
      · refine z_iload_n rfl rfl ?_
        exact hj172 _ (by rw [if_neg hp172])
      · refine z_iconst (-1) rfl rfl ?_
        refine z_goto rfl ?_
        exact hj172 _ (by rw [if_pos hp172])
def r_act_J26 (post : Mem → Prop)  (S : Mem) (l1 : Int32) (k0 : Int32) : Prop :=
  (vp_in ((4 * l1) + 1) 96) ∧ 
  (vp_in ((4 * l1) + 2) 96) ∧ 
  (vp_in l1 24) ∧ ((S 149 l1.toNatClampNeg) = 0 → r_make (fun S1 =>
    post S1) S l1) ∧
  ((S 149 l1.toNatClampNeg) = 1 → r_delete (fun S2 =>
    post S2) S k0) ∧
  ((S 149 l1.toNatClampNeg) = 2 → r_behind (fun r3 S3 =>
    r_shift (fun S4 =>
     post S4) S3 k0 r3 (S 150 ((4 * l1) + 1).toNatClampNeg) (S 150 ((4 * l1) + 2).toNatClampNeg)) S k0) ∧
  ((S 149 l1.toNatClampNeg) = 3 → r_behind (fun r5 S5 =>
    r_scale (fun S6 =>
     post S6) S5 k0 r5 (S 150 ((4 * l1) + 1).toNatClampNeg) (S 150 ((4 * l1) + 2).toNatClampNeg)) S k0) ∧
  ((S 149 l1.toNatClampNeg) = 4 → r_behind (fun r7 S7 =>
    ∃ n, r_act_L155 post n S7 k0 (S 150 ((4 * l1) + 1).toNatClampNeg) r7) S k0) ∧
  ((S 149 l1.toNatClampNeg) = 5 → r_raise (fun S8 =>
    post S8) S k0 (if (S 150 ((4 * l1) + 1).toNatClampNeg) = 1 then 1 else 0 : Int32)) ∧
  ((S 149 l1.toNatClampNeg) = 6 → r_find (fun r9 S9 =>
    r_group (fun S10 =>
     post S10) S9 l1 k0 r9) S (S 150 ((4 * l1) + 1).toNatClampNeg)) ∧
  ((S 149 l1.toNatClampNeg) = 7 → r_ungroup (fun S11 =>
    post S11) S k0) ∧
  ((S 149 l1.toNatClampNeg) = 8 → r_twice (fun S12 =>
    post S12) S l1 k0 (S 150 ((4 * l1) + 1).toNatClampNeg) (S 150 ((4 * l1) + 2).toNatClampNeg)) ∧
  (((S 149 l1.toNatClampNeg).toInt < 0 ∨ 8 < (S 149 l1.toNatClampNeg).toInt) → r_find (fun r13 S13 =>
    r_align (fun S14 =>
     post S14) S13 k0 r13 (S 150 ((4 * l1) + 2).toNatClampNeg)) S (S 150 ((4 * l1) + 1).toNatClampNeg))
set_option maxRecDepth 100000 in
set_option maxHeartbeats 1000000 in
theorem zr_act_J26 {g : Gm} {G : Gp} {post : Mem → Prop} (hx : G.2.2.2 = false) (hG : isR G) {S : Mem} {l1 : Int32} {k0 : Int32}  (hw : r_act_J26 post S l1 k0) : Z g M_r_act 0 0 26 [some (.ref 148), some (.int l1), none, none, none, none] [.int k0] (S, G) (Qv G post noEx) := by
  unfold r_act_J26 at hw
  refine z_istore_n [some (.ref 148), some (.int l1), some (.int k0), none, none, none] rfl rfl rfl ?_
  refine z_aload_n rfl rfl ?_
  refine z_iload_n rfl rfl ?_
  refine z_iconst 1 rfl rfl ?_
  obtain ⟨hc1, hw⟩ := hw
  refine z_cvi (M' := M_r_arg) (post := fun v S' => (S 150 ((4 * l1) + 1).toNatClampNeg) = v ∧ S = S') [.int l1, .int 1] hx rfl w_734 cv_r_arg hG.1 (by decide) rfl rfl rfl rfl (zr_arg hx hG (⟨hc1, ⟨rfl, rfl⟩⟩)) ?_ (fun _ _ hf => hf.elim)
  rintro v S' ⟨rfl, rfl⟩
  refine z_istore_n [some (.ref 148), some (.int l1), some (.int k0), some (.int (S 150 ((4 * l1) + 1).toNatClampNeg)), none, none] rfl rfl rfl ?_
  refine z_aload_n rfl rfl ?_
  refine z_iload_n rfl rfl ?_
  refine z_iconst 2 rfl rfl ?_
  obtain ⟨hc2, hw⟩ := hw
  refine z_cvi (M' := M_r_arg) (post := fun v S' => (S 150 ((4 * l1) + 2).toNatClampNeg) = v ∧ S = S') [.int l1, .int 2] hx rfl w_734 cv_r_arg hG.1 (by decide) rfl rfl rfl rfl (zr_arg hx hG (⟨hc2, ⟨rfl, rfl⟩⟩)) ?_ (fun _ _ hf => hf.elim)
  rintro v S' ⟨rfl, rfl⟩
  refine z_istore [some (.ref 148), some (.int l1), some (.int k0), some (.int (S 150 ((4 * l1) + 1).toNatClampNeg)), some (.int (S 150 ((4 * l1) + 2).toNatClampNeg)), none] rfl rfl rfl ?_
  refine z_aload_n rfl rfl ?_
  refine z_getr (ci := 7) 2 rfl hG.1 rfl w_660 hG.2.1 ?_
  refine z_iload_n rfl rfl ?_
  obtain ⟨hc3, hw⟩ := hw
  refine z_iald (l1.toNatClampNeg) rfl hG.2.2.1 hc3 rfl ?_
  by_cases hr : (S 149 l1.toNatClampNeg).toInt < 0 ∨ 8 < (S 149 l1.toNatClampNeg).toInt
  · refine z_switch 244 rfl (sw_out hr rfl) ?_
    replace hw := hw.2.2.2.2.2.2.2.2.2 hr
    refine z_aload_n rfl rfl ?_
    refine z_iload_n rfl rfl ?_
    refine z_aload_n rfl rfl ?_
    refine z_iload_n rfl rfl ?_
    refine z_cvi (M' := M_r_find) [.int (S 150 ((4 * l1) + 1).toNatClampNeg)] hx rfl w_750 cv_r_find hG.1 (by decide) rfl rfl rfl rfl (zr_find hx hG hw) ?_ (fun _ _ hf => hf.elim)
    clear hw
    intro r13 S13 hw
    refine z_iload rfl rfl ?_
    refine z_cvv (M' := M_r_align) [.int k0, .int r13, .int (S 150 ((4 * l1) + 2).toNatClampNeg)] hx rfl w_839 cv_r_align hG.1 (by decide) rfl rfl rfl rfl (zr_align hx hG hw) ?_ (fun _ _ hf => hf.elim)
    clear hw
    intro S14 hw
    exact z_vret rfl rfl rfl rfl (Or.inl ⟨_, rfl, rfl, hw⟩)
  · rcases sw_0_8 hr with hq | hq | hq | hq | hq | hq | hq | hq | hq
    · replace hw := hw.1 hq
      refine z_switch 100 rfl (sw_eq hq rfl) ?_
      refine z_aload_n rfl rfl ?_
      refine z_iload_n rfl rfl ?_
      refine z_cvv (M' := M_r_make) [.int l1] hx rfl w_770 cv_r_make hG.1 (by decide) rfl rfl rfl rfl (zr_make hx hG hw) ?_ (fun _ _ hf => hf.elim)
      clear hw
      intro S1 hw
      refine z_goto rfl ?_
      exact z_vret rfl rfl rfl rfl (Or.inl ⟨_, rfl, rfl, hw⟩)
    · replace hw := hw.2.1 hq
      refine z_switch 108 rfl (sw_eq hq rfl) ?_
      refine z_aload_n rfl rfl ?_
      refine z_iload_n rfl rfl ?_
      refine z_cvv (M' := M_r_delete) [.int k0] hx rfl w_778 cv_r_delete hG.1 (by decide) rfl rfl rfl rfl (zr_delete hx hG hw) ?_ (fun _ _ hf => hf.elim)
      clear hw
      intro S2 hw
      refine z_goto rfl ?_
      exact z_vret rfl rfl rfl rfl (Or.inl ⟨_, rfl, rfl, hw⟩)
    · replace hw := hw.2.2.1 hq
      refine z_switch 116 rfl (sw_eq hq rfl) ?_
      refine z_aload_n rfl rfl ?_
      refine z_iload_n rfl rfl ?_
      refine z_aload_n rfl rfl ?_
      refine z_iload_n rfl rfl ?_
      refine z_cvi (M' := M_r_behind) [.int k0] hx rfl w_782 cv_r_behind hG.1 (by decide) rfl rfl rfl rfl (zr_behind hx hG hw) ?_ (fun _ _ hf => hf.elim)
      clear hw
      intro r3 S3 hw
      refine z_iload_n rfl rfl ?_
      refine z_iload rfl rfl ?_
      refine z_cvv (M' := M_r_shift) [.int k0, .int r3, .int (S 150 ((4 * l1) + 1).toNatClampNeg), .int (S 150 ((4 * l1) + 2).toNatClampNeg)] hx rfl w_794 cv_r_shift hG.1 (by decide) rfl rfl rfl rfl (zr_shift hx hG hw) ?_ (fun _ _ hf => hf.elim)
      clear hw
      intro S4 hw
      refine z_goto rfl ?_
      exact z_vret rfl rfl rfl rfl (Or.inl ⟨_, rfl, rfl, hw⟩)
    · replace hw := hw.2.2.2.1 hq
      refine z_switch 132 rfl (sw_eq hq rfl) ?_
      refine z_aload_n rfl rfl ?_
      refine z_iload_n rfl rfl ?_
      refine z_aload_n rfl rfl ?_
      refine z_iload_n rfl rfl ?_
      refine z_cvi (M' := M_r_behind) [.int k0] hx rfl w_782 cv_r_behind hG.1 (by decide) rfl rfl rfl rfl (zr_behind hx hG hw) ?_ (fun _ _ hf => hf.elim)
      clear hw
      intro r5 S5 hw
      refine z_iload_n rfl rfl ?_
      refine z_iload rfl rfl ?_
      refine z_cvv (M' := M_r_scale) [.int k0, .int r5, .int (S 150 ((4 * l1) + 1).toNatClampNeg), .int (S 150 ((4 * l1) + 2).toNatClampNeg)] hx rfl w_798 cv_r_scale hG.1 (by decide) rfl rfl rfl rfl (zr_scale hx hG hw) ?_ (fun _ _ hf => hf.elim)
      clear hw
      intro S6 hw
      refine z_goto rfl ?_
      exact z_vret rfl rfl rfl rfl (Or.inl ⟨_, rfl, rfl, hw⟩)
    · replace hw := hw.2.2.2.2.1 hq
      refine z_switch 148 rfl (sw_eq hq rfl) ?_
      refine z_aload_n rfl rfl ?_
      refine z_iload_n rfl rfl ?_
      refine z_cvi (M' := M_r_behind) [.int k0] hx rfl w_782 cv_r_behind hG.1 (by decide) rfl rfl rfl rfl (zr_behind hx hG hw) ?_ (fun _ _ hf => hf.elim)
      clear hw
      intro r7 S7 hw
      refine z_istore [some (.ref 148), some (.int l1), some (.int k0), some (.int (S 150 ((4 * l1) + 1).toNatClampNeg)), some (.int (S 150 ((4 * l1) + 2).toNatClampNeg)), some (.int r7)] rfl rfl rfl ?_
      refine Z.forget' [some (.ref 148), none, some (.int k0), some (.int (S 150 ((4 * l1) + 1).toNatClampNeg)), none, some (.int r7)] ⟨rfl, ⟨rfl, ⟨rfl, ⟨rfl, trivial⟩⟩⟩⟩ ?_
      obtain ⟨n, hw⟩ := hw
      exact zr_act_L155 hx hG n hw
    · replace hw := hw.2.2.2.2.2.1 hq
      refine z_switch 192 rfl (sw_eq hq rfl) ?_
      refine z_aload_n rfl rfl ?_
      refine z_iload_n rfl rfl ?_
      refine z_iload_n rfl rfl ?_
      refine z_iconst 1 rfl rfl ?_
      have hj196 : ∀ v : Int32, v = (if (S 150 ((4 * l1) + 1).toNatClampNeg) = 1 then 1 else 0 : Int32) → Z g M_r_act 0 0 204 [some (.ref 148), some (.int l1), some (.int k0), some (.int (S 150 ((4 * l1) + 1).toNatClampNeg)), some (.int (S 150 ((4 * l1) + 2).toNatClampNeg)), none] [.int v, .int k0, .ref 148] (S, G) (Qv G post noEx) := by
        intro v hv
        subst hv
        refine z_cvv (M' := M_r_raise) [.int k0, .int (if (S 150 ((4 * l1) + 1).toNatClampNeg) = 1 then 1 else 0 : Int32)] hx rfl w_811 cv_r_raise hG.1 (by decide) rfl rfl rfl rfl (zr_raise hx hG hw) ?_ (fun _ _ hf => hf.elim)
        clear hw
        intro S8 hw
        refine z_goto rfl ?_
        exact z_vret rfl rfl rfl rfl (Or.inl ⟨_, rfl, rfl, hw⟩)
      refine z_icmp_ne rfl (fun hp196 => ?_) (fun hp196 => ?_)
      · refine z_iconst 0 rfl rfl ?_
        exact hj196 _ (by rw [if_neg hp196])
      · refine z_iconst 1 rfl rfl ?_
        refine z_goto rfl ?_
        exact hj196 _ (by rw [if_pos hp196])
    · replace hw := hw.2.2.2.2.2.2.1 hq
      refine z_switch 210 rfl (sw_eq hq rfl) ?_
      refine z_aload_n rfl rfl ?_
      refine z_iload_n rfl rfl ?_
      refine z_iload_n rfl rfl ?_
      refine z_aload_n rfl rfl ?_
      refine z_iload_n rfl rfl ?_
      refine z_cvi (M' := M_r_find) [.int (S 150 ((4 * l1) + 1).toNatClampNeg)] hx rfl w_750 cv_r_find hG.1 (by decide) rfl rfl rfl rfl (zr_find hx hG hw) ?_ (fun _ _ hf => hf.elim)
      clear hw
      intro r9 S9 hw
      refine z_cvv (M' := M_r_group) [.int l1, .int k0, .int r9] hx rfl w_827 cv_r_group hG.1 (by decide) rfl rfl rfl rfl (zr_group hx hG hw) ?_ (fun _ _ hf => hf.elim)
      clear hw
      intro S10 hw
      refine z_goto rfl ?_
      exact z_vret rfl rfl rfl rfl (Or.inl ⟨_, rfl, rfl, hw⟩)
    · replace hw := hw.2.2.2.2.2.2.2.1 hq
      refine z_switch 224 rfl (sw_eq hq rfl) ?_
      refine z_aload_n rfl rfl ?_
      refine z_iload_n rfl rfl ?_
      refine z_cvv (M' := M_r_ungroup) [.int k0] hx rfl w_831 cv_r_ungroup hG.1 (by decide) rfl rfl rfl rfl (zr_ungroup hx hG hw) ?_ (fun _ _ hf => hf.elim)
      clear hw
      intro S11 hw
      refine z_goto rfl ?_
      exact z_vret rfl rfl rfl rfl (Or.inl ⟨_, rfl, rfl, hw⟩)
    · replace hw := hw.2.2.2.2.2.2.2.2.1 hq
      refine z_switch 232 rfl (sw_eq hq rfl) ?_
      refine z_aload_n rfl rfl ?_
      refine z_iload_n rfl rfl ?_
      refine z_iload_n rfl rfl ?_
      refine z_iload_n rfl rfl ?_
      refine z_iload rfl rfl ?_
      refine z_cvv (M' := M_r_twice) [.int l1, .int k0, .int (S 150 ((4 * l1) + 1).toNatClampNeg), .int (S 150 ((4 * l1) + 2).toNatClampNeg)] hx rfl w_835 cv_r_twice hG.1 (by decide) rfl rfl rfl rfl (zr_twice hx hG hw) ?_ (fun _ _ hf => hf.elim)
      clear hw
      intro S12 hw
      refine z_goto rfl ?_
      exact z_vret rfl rfl rfl rfl (Or.inl ⟨_, rfl, rfl, hw⟩)
def r_act (post : Mem → Prop) (S : Mem) (l1 : Int32) : Prop :=
  (vp_in l1 24) ∧ ((¬ (S 149 l1.toNatClampNeg) = 0) →
   (vp_in ((4 * l1) + 0) 96) ∧ 
   r_find (fun r1 S1 =>
    r_act_J26 post S1 l1 r1) S (S 150 ((4 * l1) + 0).toNatClampNeg)) ∧
  (((S 149 l1.toNatClampNeg) = 0) →
   r_act_J26 post S l1 (S 148 7))
set_option maxRecDepth 100000 in
set_option maxHeartbeats 1000000 in
theorem zr_act {g : Gm} {G : Gp} {S : Mem} {post : Mem → Prop} {l1 : Int32} (hx : G.2.2.2 = false) (hG : isR G) (hw : r_act post S l1) : Z g M_r_act 0 0 0 (entryL [.ref 148, .int l1] (mL M_r_act)) [] (S, G) (Qv G post noEx) := by
  unfold r_act at hw
  show Z g M_r_act 0 0 0 [some (.ref 148), some (.int l1), none, none, none, none] [] (S, G) (Qv G post noEx)
  refine z_aload_n rfl rfl ?_
  refine z_getr (ci := 7) 2 rfl hG.1 rfl w_660 hG.2.1 ?_
  refine z_iload_n rfl rfl ?_
  obtain ⟨hc1, hw⟩ := hw
  refine z_iald (l1.toNatClampNeg) rfl hG.2.2.1 hc1 rfl ?_
  refine z_if_ne rfl (fun hq => ?_) (fun hq => ?_)
  · replace hw := hw.1 hq
    refine z_aload_n rfl rfl ?_
    refine z_aload_n rfl rfl ?_
    refine z_iload_n rfl rfl ?_
    refine z_iconst 0 rfl rfl ?_
    obtain ⟨hc2, hw⟩ := hw
    refine z_cvi (M' := M_r_arg) (post := fun v S' => (S 150 ((4 * l1) + 0).toNatClampNeg) = v ∧ S = S') [.int l1, .int 0] hx rfl w_734 cv_r_arg hG.1 (by decide) rfl rfl rfl rfl (zr_arg hx hG (⟨hc2, ⟨rfl, rfl⟩⟩)) ?_ (fun _ _ hf => hf.elim)
    rintro v S' ⟨rfl, rfl⟩
    refine z_cvi (M' := M_r_find) [.int (S 150 ((4 * l1) + 0).toNatClampNeg)] hx rfl w_750 cv_r_find hG.1 (by decide) rfl rfl rfl rfl (zr_find hx hG hw) ?_ (fun _ _ hf => hf.elim)
    clear hw
    intro r1 S1 hw
    refine Z.forget' [some (.ref 148), some (.int l1), none, none, none, none] ⟨rfl, ⟨rfl, trivial⟩⟩ ?_
    exact zr_act_J26 hx hG hw
  · replace hw := hw.2 hq
    refine z_aload_n rfl rfl ?_
    refine z_geti (ci := 7) 7 rfl hG.1 rfl w_665 ?_
    refine z_goto rfl ?_
    refine Z.forget' [some (.ref 148), some (.int l1), none, none, none, none] ⟨rfl, ⟨rfl, trivial⟩⟩ ?_
    exact zr_act_J26 hx hG hw
end
section
def r_goThrough_L150 (post : Mem → Prop) (K7 : Mem → Int32 → Int32 → Prop) : Nat → Mem → Int32 → Int32 → Int32 → Prop
  | 0, _, _, _, _ => False
  | n + 1, S, l1, l2, l4 =>
  (((8 * (S 148 7)) ≤ l4) →
   K7 S l1 (l2 + 1)) ∧
  ((¬ (8 * (S 148 7)) ≤ l4) →
   (vp_in l4 112) ∧ (vp_in l4 112) ∧ ∀ S1, S1 = up2 S 154 l4.toNatClampNeg (S 155 l4.toNatClampNeg) → r_goThrough_L150 post K7 n S1 l1 l2 (l4 + 1))
set_option maxRecDepth 100000 in
set_option maxHeartbeats 1000000 in
theorem zr_goThrough_L150 {g : Gm} {G : Gp} {post : Mem → Prop} {K7 : Mem → Int32 → Int32 → Prop} (hx : G.2.2.2 = false) (hG : isR G) (hK7 : ∀ {S : Mem} {l1 : Int32} {l2 : Int32}, K7 S l1 l2 → Z g M_r_goThrough 0 0 7 [some (.ref 148), some (.int l1), some (.int l2), none, none] [] (S, G) (Qv G post noEx)) : ∀ (n : Nat) {S : Mem} {l1 : Int32} {l2 : Int32} {l4 : Int32} , r_goThrough_L150 post K7 n S l1 l2 l4 → Z g M_r_goThrough 0 0 150 [some (.ref 148), some (.int l1), some (.int l2), none, some (.int l4)] [] (S, G) (Qv G post noEx) := by
  intro n
  induction n with
  | zero =>
    intros
    rename_i hw
    exact hw.elim
  | succ n ih =>
    intro S l1 l2 l4 hw
    rw [r_goThrough_L150] at hw
    refine z_iload rfl rfl ?_
    refine z_bipush 8 rfl rfl ?_
    refine z_aload_n rfl rfl ?_
    refine z_geti (ci := 7) 7 rfl hG.1 rfl w_665 ?_
    refine z_imul rfl ?_
    refine z_icmp_ge rfl (fun hq => ?_) (fun hq => ?_)
    · replace hw := hw.1 hq
      refine z_iinc 1 [some (.ref 148), some (.int l1), some (.int (l2 + 1)), none, some (.int l4)] rfl rfl rfl rfl ?_
      refine z_goto rfl ?_
      refine Z.forget' [some (.ref 148), some (.int l1), some (.int (l2 + 1)), none, none] ⟨rfl, ⟨rfl, ⟨rfl, trivial⟩⟩⟩ ?_
      exact hK7 hw
    · replace hw := hw.2 hq
      refine z_aload_n rfl rfl ?_
      refine z_getr (ci := 7) 8 rfl hG.1 rfl w_666 hG.2.2.2.2.2.2.2.2.2.2.2.1 ?_
      refine z_iload rfl rfl ?_
      refine z_aload_n rfl rfl ?_
      refine z_getr (ci := 7) 10 rfl hG.1 rfl w_668 hG.2.2.2.2.2.2.2.2.2.2.2.2.2.1 ?_
      refine z_iload rfl rfl ?_
      obtain ⟨hc1, hw⟩ := hw
      refine z_iald (l4.toNatClampNeg) rfl hG.2.2.2.2.2.2.2.2.2.2.2.2.2.2.1 hc1 rfl ?_
      obtain ⟨hc2, hw⟩ := hw
      replace hw := hw _ rfl
      refine z_iast (l4.toNatClampNeg) rfl hG.2.2.2.2.2.2.2.2.2.2.2.2.1 hc2 rfl ?_
      refine z_iinc 1 [some (.ref 148), some (.int l1), some (.int l2), none, some (.int (l4 + 1))] rfl rfl rfl rfl ?_
      refine z_goto rfl ?_
      refine Z.forget' [some (.ref 148), some (.int l1), some (.int l2), none, some (.int (l4 + 1))] ⟨rfl, ⟨rfl, ⟨rfl, ⟨rfl, trivial⟩⟩⟩⟩ ?_
      exact ih hw
def r_goThrough_L88 (post : Mem → Prop) (K7 : Mem → Int32 → Int32 → Prop) : Nat → Mem → Int32 → Int32 → Int32 → Prop
  | 0, _, _, _, _ => False
  | n + 1, S, l1, l2, l4 =>
  (((8 * (S 148 7)) ≤ l4) →
   r_act (fun S1 =>
    r_holdLimits (fun r2 S2 =>
     ((¬ r2 = 0) →
      K7 S2 l1 (l2 + 1)) ∧
     ((r2 = 0) →
      (vp_in l2 24) ∧ ∀ S3, S3 = up2 S2 152 l2.toNatClampNeg 2 → ∀ S4, S4 = up2 S3 148 7 (S3 148 9) → ∃ n, r_goThrough_L150 post K7 n S4 l1 l2 0)) S1 ) S l2) ∧
  ((¬ (8 * (S 148 7)) ≤ l4) →
   (vp_in l4 112) ∧ (vp_in l4 112) ∧ ∀ S5, S5 = up2 S 155 l4.toNatClampNeg (S 154 l4.toNatClampNeg) → r_goThrough_L88 post K7 n S5 l1 l2 (l4 + 1))
set_option maxRecDepth 100000 in
set_option maxHeartbeats 1000000 in
theorem zr_goThrough_L88 {g : Gm} {G : Gp} {post : Mem → Prop} {K7 : Mem → Int32 → Int32 → Prop} (hx : G.2.2.2 = false) (hG : isR G) (hK7 : ∀ {S : Mem} {l1 : Int32} {l2 : Int32}, K7 S l1 l2 → Z g M_r_goThrough 0 0 7 [some (.ref 148), some (.int l1), some (.int l2), none, none] [] (S, G) (Qv G post noEx)) : ∀ (n : Nat) {S : Mem} {l1 : Int32} {l2 : Int32} {l4 : Int32} , r_goThrough_L88 post K7 n S l1 l2 l4 → Z g M_r_goThrough 0 0 88 [some (.ref 148), some (.int l1), some (.int l2), none, some (.int l4)] [] (S, G) (Qv G post noEx) := by
  intro n
  induction n with
  | zero =>
    intros
    rename_i hw
    exact hw.elim
  | succ n ih =>
    intro S l1 l2 l4 hw
    rw [r_goThrough_L88] at hw
    refine z_iload rfl rfl ?_
    refine z_bipush 8 rfl rfl ?_
    refine z_aload_n rfl rfl ?_
    refine z_geti (ci := 7) 7 rfl hG.1 rfl w_665 ?_
    refine z_imul rfl ?_
    refine z_icmp_ge rfl (fun hq => ?_) (fun hq => ?_)
    · replace hw := hw.1 hq
      refine z_aload_n rfl rfl ?_
      refine z_iload_n rfl rfl ?_
      refine z_cvv (M' := M_r_act) [.int l2] hx rfl w_766 cv_r_act hG.1 (by decide) rfl rfl rfl rfl (zr_act hx hG hw) ?_ (fun _ _ hf => hf.elim)
      clear hw
      intro S1 hw
      refine z_aload_n rfl rfl ?_
      refine z_cvi (M' := M_r_holdLimits) [] hx rfl w_843 cv_r_holdLimits hG.1 (by decide) rfl rfl rfl rfl (zr_holdLimits hx hG hw) ?_ (fun _ _ hf => hf.elim)
      clear hw
      intro r2 S2 hw
      refine z_if_ne rfl (fun hq => ?_) (fun hq => ?_)
      · replace hw := hw.1 hq
        refine z_iinc 1 [some (.ref 148), some (.int l1), some (.int (l2 + 1)), none, some (.int l4)] rfl rfl rfl rfl ?_
        refine z_goto rfl ?_
        refine Z.forget' [some (.ref 148), some (.int l1), some (.int (l2 + 1)), none, none] ⟨rfl, ⟨rfl, ⟨rfl, trivial⟩⟩⟩ ?_
        exact hK7 hw
      · replace hw := hw.2 hq
        refine z_aload_n rfl rfl ?_
        refine z_getr (ci := 7) 5 rfl hG.1 rfl w_663 hG.2.2.2.2.2.2.2.1 ?_
        refine z_iload_n rfl rfl ?_
        refine z_iconst 2 rfl rfl ?_
        obtain ⟨hc1, hw⟩ := hw
        replace hw := hw _ rfl
        refine z_iast (l2.toNatClampNeg) rfl hG.2.2.2.2.2.2.2.2.1 hc1 rfl ?_
        refine z_aload_n rfl rfl ?_
        refine z_aload_n rfl rfl ?_
        refine z_geti (ci := 7) 9 rfl hG.1 rfl w_667 ?_
        replace hw := hw _ rfl
        refine z_puti (ci := 7) 7 rfl hG.1 rfl w_665 rfl rfl rfl ?_
        refine z_iconst 0 rfl rfl ?_
        refine z_istore [some (.ref 148), some (.int l1), some (.int l2), none, some (.int 0)] rfl rfl rfl ?_
        refine Z.forget' [some (.ref 148), some (.int l1), some (.int l2), none, some (.int 0)] ⟨rfl, ⟨rfl, ⟨rfl, ⟨rfl, trivial⟩⟩⟩⟩ ?_
        obtain ⟨n, hw⟩ := hw
        exact zr_goThrough_L150 hx hG @hK7 n hw
    · replace hw := hw.2 hq
      refine z_aload_n rfl rfl ?_
      refine z_getr (ci := 7) 10 rfl hG.1 rfl w_668 hG.2.2.2.2.2.2.2.2.2.2.2.2.2.1 ?_
      refine z_iload rfl rfl ?_
      refine z_aload_n rfl rfl ?_
      refine z_getr (ci := 7) 8 rfl hG.1 rfl w_666 hG.2.2.2.2.2.2.2.2.2.2.2.1 ?_
      refine z_iload rfl rfl ?_
      obtain ⟨hc2, hw⟩ := hw
      refine z_iald (l4.toNatClampNeg) rfl hG.2.2.2.2.2.2.2.2.2.2.2.2.1 hc2 rfl ?_
      obtain ⟨hc3, hw⟩ := hw
      replace hw := hw _ rfl
      refine z_iast (l4.toNatClampNeg) rfl hG.2.2.2.2.2.2.2.2.2.2.2.2.2.2.1 hc3 rfl ?_
      refine z_iinc 1 [some (.ref 148), some (.int l1), some (.int l2), none, some (.int (l4 + 1))] rfl rfl rfl rfl ?_
      refine z_goto rfl ?_
      refine Z.forget' [some (.ref 148), some (.int l1), some (.int l2), none, some (.int (l4 + 1))] ⟨rfl, ⟨rfl, ⟨rfl, ⟨rfl, trivial⟩⟩⟩⟩ ?_
      exact ih hw
def r_goThrough_J66 (post : Mem → Prop) (K7 : Mem → Int32 → Int32 → Prop) (S : Mem) (l1 : Int32) (l2 : Int32) (k1 : Int32) (k2 : Int32) : Prop :=
  (vp_in k1 24) ∧ ∀ S1, S1 = up2 S 152 k1.toNatClampNeg k2 → (vp_in l2 24) ∧ ((¬ (S1 152 l2.toNatClampNeg) = 1) →
   K7 S1 l1 (l2 + 1)) ∧
  (((S1 152 l2.toNatClampNeg) = 1) →
   ∀ S2, S2 = up2 S1 148 9 (S1 148 7) → ∃ n, r_goThrough_L88 post K7 n S2 l1 l2 0)
set_option maxRecDepth 100000 in
set_option maxHeartbeats 1000000 in
theorem zr_goThrough_J66 {g : Gm} {G : Gp} {post : Mem → Prop} {K7 : Mem → Int32 → Int32 → Prop} (hx : G.2.2.2 = false) (hG : isR G) (hK7 : ∀ {S : Mem} {l1 : Int32} {l2 : Int32} , K7 S l1 l2 → Z g M_r_goThrough 0 0 7 [some (.ref 148), some (.int l1), some (.int l2), none, none] [] (S, G) (Qv G post noEx)) {S : Mem} {l1 : Int32} {l2 : Int32} {k1 : Int32} {k2 : Int32}  (hw : r_goThrough_J66 post K7 S l1 l2 k1 k2) : Z g M_r_goThrough 0 0 66 [some (.ref 148), some (.int l1), some (.int l2), none, none] [.int k2, .int k1, .ref 152] (S, G) (Qv G post noEx) := by
  unfold r_goThrough_J66 at hw
  obtain ⟨hc1, hw⟩ := hw
  replace hw := hw _ rfl
  refine z_iast (k1.toNatClampNeg) rfl hG.2.2.2.2.2.2.2.2.1 hc1 rfl ?_
  refine z_aload_n rfl rfl ?_
  refine z_getr (ci := 7) 5 rfl hG.1 rfl w_663 hG.2.2.2.2.2.2.2.1 ?_
  refine z_iload_n rfl rfl ?_
  obtain ⟨hc2, hw⟩ := hw
  refine z_iald (l2.toNatClampNeg) rfl hG.2.2.2.2.2.2.2.2.1 hc2 rfl ?_
  refine z_iconst 1 rfl rfl ?_
  refine z_icmp_ne rfl (fun hq => ?_) (fun hq => ?_)
  · replace hw := hw.1 hq
    refine z_iinc 1 [some (.ref 148), some (.int l1), some (.int (l2 + 1)), none, none] rfl rfl rfl rfl ?_
    refine z_goto rfl ?_
    refine Z.forget' [some (.ref 148), some (.int l1), some (.int (l2 + 1)), none, none] ⟨rfl, ⟨rfl, ⟨rfl, trivial⟩⟩⟩ ?_
    exact hK7 hw
  · replace hw := hw.2 hq
    refine z_aload_n rfl rfl ?_
    refine z_aload_n rfl rfl ?_
    refine z_geti (ci := 7) 7 rfl hG.1 rfl w_665 ?_
    replace hw := hw _ rfl
    refine z_puti (ci := 7) 9 rfl hG.1 rfl w_667 rfl rfl rfl ?_
    refine z_iconst 0 rfl rfl ?_
    refine z_istore [some (.ref 148), some (.int l1), some (.int l2), none, some (.int 0)] rfl rfl rfl ?_
    refine Z.forget' [some (.ref 148), some (.int l1), some (.int l2), none, some (.int 0)] ⟨rfl, ⟨rfl, ⟨rfl, ⟨rfl, trivial⟩⟩⟩⟩ ?_
    obtain ⟨n, hw⟩ := hw
    exact zr_goThrough_L88 hx hG @hK7 n hw
def r_goThrough_L7 (post : Mem → Prop)  : Nat → Mem → Int32 → Int32 → Prop
  | 0, _, _, _ => False
  | n + 1, S, l1, l2 =>
  (((S 148 1) ≤ l2) →
   post S) ∧
  ((¬ (S 148 1) ≤ l2) →
   (vp_in l2 24) ∧ (((if (S 151 l2.toNatClampNeg) = (if l2 = l1 then 1 else 0 : Int32) then 0 else 1 : Int32) = 0) →
    r_fits (fun r1 S1 =>
     ((r1 = 0) →
      r_goThrough_J66 post (r_goThrough_L7 post n) S1 l1 l2 l2 2) ∧
     ((¬ r1 = 0) →
      r_goThrough_J66 post (r_goThrough_L7 post n) S1 l1 l2 l2 1)) S l2) ∧
   ((¬ (if (S 151 l2.toNatClampNeg) = (if l2 = l1 then 1 else 0 : Int32) then 0 else 1 : Int32) = 0) →
    r_goThrough_J66 post (r_goThrough_L7 post n) S l1 l2 l2 0))
set_option maxRecDepth 100000 in
set_option maxHeartbeats 1000000 in
theorem zr_goThrough_L7 {g : Gm} {G : Gp} {post : Mem → Prop} (hx : G.2.2.2 = false) (hG : isR G) : ∀ (n : Nat) {S : Mem} {l1 : Int32} {l2 : Int32} , r_goThrough_L7 post n S l1 l2 → Z g M_r_goThrough 0 0 7 [some (.ref 148), some (.int l1), some (.int l2), none, none] [] (S, G) (Qv G post noEx) := by
  intro n
  induction n with
  | zero =>
    intros
    rename_i hw
    exact hw.elim
  | succ n ih =>
    intro S l1 l2 hw
    rw [r_goThrough_L7] at hw
    refine z_iload_n rfl rfl ?_
    refine z_aload_n rfl rfl ?_
    refine z_geti (ci := 7) 1 rfl hG.1 rfl w_659 ?_
    refine z_icmp_ge rfl (fun hq => ?_) (fun hq => ?_)
    · replace hw := hw.1 hq
      exact z_vret rfl rfl rfl rfl (Or.inl ⟨_, rfl, rfl, hw⟩)
    · replace hw := hw.2 hq
      refine z_aload_n rfl rfl ?_
      refine z_getr (ci := 7) 4 rfl hG.1 rfl w_662 hG.2.2.2.2.2.1 ?_
      refine z_iload_n rfl rfl ?_
      obtain ⟨hc1, hw⟩ := hw
      refine z_zald (l2.toNatClampNeg) rfl hG.2.2.2.2.2.2.1 hc1 rfl ?_
      refine z_iload_n rfl rfl ?_
      refine z_iload_n rfl rfl ?_
      have hj23 : ∀ v : Int32, v = (if l2 = l1 then 1 else 0 : Int32) → Z g M_r_goThrough 0 0 31 [some (.ref 148), some (.int l1), some (.int l2), none, none] [.int v, .int (S 151 l2.toNatClampNeg)] (S, G) (Qv G post noEx) := by
        intro v hv
        subst hv
        have hj31 : ∀ v : Int32, v = (if (S 151 l2.toNatClampNeg) = (if l2 = l1 then 1 else 0 : Int32) then 0 else 1 : Int32) → Z g M_r_goThrough 0 0 39 [some (.ref 148), some (.int l1), some (.int l2), none, none] [.int v] (S, G) (Qv G post noEx) := by
          intro v hv
          subst hv
          refine z_istore_n [some (.ref 148), some (.int l1), some (.int l2), some (.int (if (S 151 l2.toNatClampNeg) = (if l2 = l1 then 1 else 0 : Int32) then 0 else 1 : Int32)), none] rfl rfl rfl ?_
          refine z_aload_n rfl rfl ?_
          refine z_getr (ci := 7) 5 rfl hG.1 rfl w_663 hG.2.2.2.2.2.2.2.1 ?_
          refine z_iload_n rfl rfl ?_
          refine z_iload_n rfl rfl ?_
          refine z_if_eq rfl (fun hq => ?_) (fun hq => ?_)
          · replace hw := hw.1 hq
            refine z_aload_n rfl rfl ?_
            refine z_iload_n rfl rfl ?_
            refine z_cvi (M' := M_r_fits) [.int l2] hx rfl w_746 cv_r_fits hG.1 (by decide) rfl rfl rfl rfl (zr_fits hx hG hw) ?_ (fun _ _ hf => hf.elim)
            clear hw
            intro r1 S1 hw
            refine z_if_eq rfl (fun hq => ?_) (fun hq => ?_)
            · replace hw := hw.1 hq
              refine z_iconst 2 rfl rfl ?_
              refine Z.forget' [some (.ref 148), some (.int l1), some (.int l2), none, none] ⟨rfl, ⟨rfl, ⟨rfl, trivial⟩⟩⟩ ?_
              exact zr_goThrough_J66 hx hG (@ih) hw
            · replace hw := hw.2 hq
              refine z_iconst 1 rfl rfl ?_
              refine z_goto rfl ?_
              refine Z.forget' [some (.ref 148), some (.int l1), some (.int l2), none, none] ⟨rfl, ⟨rfl, ⟨rfl, trivial⟩⟩⟩ ?_
              exact zr_goThrough_J66 hx hG (@ih) hw
          · replace hw := hw.2 hq
            refine z_iconst 0 rfl rfl ?_
            refine z_goto rfl ?_
            refine Z.forget' [some (.ref 148), some (.int l1), some (.int l2), none, none] ⟨rfl, ⟨rfl, ⟨rfl, trivial⟩⟩⟩ ?_
            exact zr_goThrough_J66 hx hG (@ih) hw
        refine z_icmp_eq rfl (fun hp31 => ?_) (fun hp31 => ?_)
        · refine z_iconst 0 rfl rfl ?_
          exact hj31 _ (by rw [if_pos hp31])
        · refine z_iconst 1 rfl rfl ?_
          refine z_goto rfl ?_
          exact hj31 _ (by rw [if_neg hp31])
      refine z_icmp_ne rfl (fun hp23 => ?_) (fun hp23 => ?_)
      · refine z_iconst 0 rfl rfl ?_
        exact hj23 _ (by rw [if_neg hp23])
      · refine z_iconst 1 rfl rfl ?_
        refine z_goto rfl ?_
        exact hj23 _ (by rw [if_pos hp23])
def r_goThrough (post : Mem → Prop) (S : Mem) (l1 : Int32) : Prop :=
  ∀ S1, S1 = up2 S 148 7 0 → ∃ n, r_goThrough_L7 post n S1 l1 0
set_option maxRecDepth 100000 in
set_option maxHeartbeats 1000000 in
theorem zr_goThrough {g : Gm} {G : Gp} {S : Mem} {post : Mem → Prop} {l1 : Int32} (hx : G.2.2.2 = false) (hG : isR G) (hw : r_goThrough post S l1) : Z g M_r_goThrough 0 0 0 (entryL [.ref 148, .int l1] (mL M_r_goThrough)) [] (S, G) (Qv G post noEx) := by
  unfold r_goThrough at hw
  show Z g M_r_goThrough 0 0 0 [some (.ref 148), some (.int l1), none, none, none] [] (S, G) (Qv G post noEx)
  refine z_aload_n rfl rfl ?_
  refine z_iconst 0 rfl rfl ?_
  replace hw := hw _ rfl
  refine z_puti (ci := 7) 7 rfl hG.1 rfl w_665 rfl rfl rfl ?_
  refine z_iconst 0 rfl rfl ?_
  refine z_istore_n [some (.ref 148), some (.int l1), some (.int 0), none, none] rfl rfl rfl ?_
  refine Z.forget' [some (.ref 148), some (.int l1), some (.int 0), none, none] ⟨rfl, ⟨rfl, ⟨rfl, trivial⟩⟩⟩ ?_
  obtain ⟨n, hw⟩ := hw
  exact zr_goThrough_L7 hx hG n hw
def r_remember_L2 (post : Mem → Prop)  : Nat → Mem → Int32 → Prop
  | 0, _, _ => False
  | n + 1, S, l1 =>
  (((S 148 1) ≤ l1) →
   post S) ∧
  ((¬ (S 148 1) ≤ l1) →
   (vp_in l1 24) ∧ (vp_in l1 24) ∧ ∀ S1, S1 = up2 S 153 l1.toNatClampNeg (S 152 l1.toNatClampNeg) → r_remember_L2 post n S1 (l1 + 1))
set_option maxRecDepth 100000 in
set_option maxHeartbeats 1000000 in
theorem zr_remember_L2 {g : Gm} {G : Gp} {post : Mem → Prop} (hx : G.2.2.2 = false) (hG : isR G) : ∀ (n : Nat) {S : Mem} {l1 : Int32} , r_remember_L2 post n S l1 → Z g M_r_remember 0 0 2 [some (.ref 148), some (.int l1)] [] (S, G) (Qv G post noEx) := by
  intro n
  induction n with
  | zero =>
    intros
    rename_i hw
    exact hw.elim
  | succ n ih =>
    intro S l1 hw
    rw [r_remember_L2] at hw
    refine z_iload_n rfl rfl ?_
    refine z_aload_n rfl rfl ?_
    refine z_geti (ci := 7) 1 rfl hG.1 rfl w_659 ?_
    refine z_icmp_ge rfl (fun hq => ?_) (fun hq => ?_)
    · replace hw := hw.1 hq
      exact z_vret rfl rfl rfl rfl (Or.inl ⟨_, rfl, rfl, hw⟩)
    · replace hw := hw.2 hq
      refine z_aload_n rfl rfl ?_
      refine z_getr (ci := 7) 6 rfl hG.1 rfl w_664 hG.2.2.2.2.2.2.2.2.2.1 ?_
      refine z_iload_n rfl rfl ?_
      refine z_aload_n rfl rfl ?_
      refine z_getr (ci := 7) 5 rfl hG.1 rfl w_663 hG.2.2.2.2.2.2.2.1 ?_
      refine z_iload_n rfl rfl ?_
      obtain ⟨hc1, hw⟩ := hw
      refine z_iald (l1.toNatClampNeg) rfl hG.2.2.2.2.2.2.2.2.1 hc1 rfl ?_
      obtain ⟨hc2, hw⟩ := hw
      replace hw := hw _ rfl
      refine z_iast (l1.toNatClampNeg) rfl hG.2.2.2.2.2.2.2.2.2.2.1 hc2 rfl ?_
      refine z_iinc 1 [some (.ref 148), some (.int (l1 + 1))] rfl rfl rfl rfl ?_
      refine z_goto rfl ?_
      refine Z.forget' [some (.ref 148), some (.int (l1 + 1))] ⟨rfl, ⟨rfl, trivial⟩⟩ ?_
      exact ih hw
def r_remember (post : Mem → Prop) (S : Mem)  : Prop :=
  ∃ n, r_remember_L2 post n S 0
set_option maxRecDepth 100000 in
set_option maxHeartbeats 1000000 in
theorem zr_remember {g : Gm} {G : Gp} {S : Mem} {post : Mem → Prop}  (hx : G.2.2.2 = false) (hG : isR G) (hw : r_remember post S ) : Z g M_r_remember 0 0 0 (entryL [.ref 148] (mL M_r_remember)) [] (S, G) (Qv G post noEx) := by
  unfold r_remember at hw
  show Z g M_r_remember 0 0 0 [some (.ref 148), none] [] (S, G) (Qv G post noEx)
  refine z_iconst 0 rfl rfl ?_
  refine z_istore_n [some (.ref 148), some (.int 0)] rfl rfl rfl ?_
  refine Z.forget' [some (.ref 148), some (.int 0)] ⟨rfl, ⟨rfl, trivial⟩⟩ ?_
  obtain ⟨n, hw⟩ := hw
  exact zr_remember_L2 hx hG n hw
def r_others_L4 (post : Int32 → Mem → Prop)  : Nat → Mem → Int32 → Int32 → Int32 → Prop
  | 0, _, _, _, _ => False
  | n + 1, S, l1, l2, l3 =>
  (((S 148 1) ≤ l3) →
   post l2 S) ∧
  ((¬ (S 148 1) ≤ l3) →
   ((¬ l3 = l1 → (vp_in l3 24) ∧ (vp_in l3 24))) ∧ 
   r_others_L4 post n S l1 (if l3 = l1 then l2 else (if (S 152 l3.toNatClampNeg) = (S 153 l3.toNatClampNeg) then l2 else (l2 + 1) : Int32) : Int32) (l3 + 1))
set_option maxRecDepth 100000 in
set_option maxHeartbeats 1000000 in
theorem zr_others_L4 {g : Gm} {G : Gp} {post : Int32 → Mem → Prop} (hx : G.2.2.2 = false) (hG : isR G) : ∀ (n : Nat) {S : Mem} {l1 : Int32} {l2 : Int32} {l3 : Int32} , r_others_L4 post n S l1 l2 l3 → Z g M_r_others 0 0 4 [some (.ref 148), some (.int l1), some (.int l2), some (.int l3)] [] (S, G) (Qi G post noEx) := by
  intro n
  induction n with
  | zero =>
    intros
    rename_i hw
    exact hw.elim
  | succ n ih =>
    intro S l1 l2 l3 hw
    rw [r_others_L4] at hw
    refine z_iload_n rfl rfl ?_
    refine z_aload_n rfl rfl ?_
    refine z_geti (ci := 7) 1 rfl hG.1 rfl w_659 ?_
    refine z_icmp_ge rfl (fun hq => ?_) (fun hq => ?_)
    · replace hw := hw.1 hq
      refine z_iload_n rfl rfl ?_
      exact z_iret rfl rfl rfl rfl (Or.inl ⟨_, _, rfl, rfl, hw⟩)
    · replace hw := hw.2 hq
      refine z_iload_n rfl rfl ?_
      refine z_iload_n rfl rfl ?_
      obtain ⟨hc1, hw⟩ := hw
      have hj14 : ∀ v : Int32, v = (if l3 = l1 then l2 else (if (S 152 l3.toNatClampNeg) = (S 153 l3.toNatClampNeg) then l2 else (l2 + 1) : Int32) : Int32) → Z g M_r_others 0 0 39 [some (.ref 148), some (.int l1), some (.int l2), some (.int l3)] [.int v] (S, G) (Qi G post noEx) := by
        intro v hv
        subst hv
        refine z_istore_n [some (.ref 148), some (.int l1), some (.int (if l3 = l1 then l2 else (if (S 152 l3.toNatClampNeg) = (S 153 l3.toNatClampNeg) then l2 else (l2 + 1) : Int32) : Int32)), some (.int l3)] rfl rfl rfl ?_
        refine z_iinc 1 [some (.ref 148), some (.int l1), some (.int (if l3 = l1 then l2 else (if (S 152 l3.toNatClampNeg) = (S 153 l3.toNatClampNeg) then l2 else (l2 + 1) : Int32) : Int32)), some (.int (l3 + 1))] rfl rfl rfl rfl ?_
        refine z_goto rfl ?_
        refine Z.forget' [some (.ref 148), some (.int l1), some (.int (if l3 = l1 then l2 else (if (S 152 l3.toNatClampNeg) = (S 153 l3.toNatClampNeg) then l2 else (l2 + 1) : Int32) : Int32)), some (.int (l3 + 1))] ⟨rfl, ⟨rfl, ⟨rfl, ⟨rfl, trivial⟩⟩⟩⟩ ?_
        exact ih hw
      refine z_icmp_eq rfl (fun hp14 => ?_) (fun hp14 => ?_)
      · refine z_iload_n rfl rfl ?_
        exact hj14 _ (by rw [if_pos hp14])
      · refine z_aload_n rfl rfl ?_
        refine z_getr (ci := 7) 5 rfl hG.1 rfl w_663 hG.2.2.2.2.2.2.2.1 ?_
        refine z_iload_n rfl rfl ?_
        refine z_iald (l3.toNatClampNeg) rfl hG.2.2.2.2.2.2.2.2.1 (hc1 hp14).1 rfl ?_
        refine z_aload_n rfl rfl ?_
        refine z_getr (ci := 7) 6 rfl hG.1 rfl w_664 hG.2.2.2.2.2.2.2.2.2.1 ?_
        refine z_iload_n rfl rfl ?_
        refine z_iald (l3.toNatClampNeg) rfl hG.2.2.2.2.2.2.2.2.2.2.1 (hc1 hp14).2 rfl ?_
        refine z_icmp_eq rfl (fun hp29 => ?_) (fun hp29 => ?_)
        · refine z_iload_n rfl rfl ?_
          exact hj14 _ (by rw [if_neg hp14, if_pos hp29])
        · refine z_iload_n rfl rfl ?_
          refine z_iconst 1 rfl rfl ?_
          refine z_iadd rfl ?_
          refine z_goto rfl ?_
          exact hj14 _ (by rw [if_neg hp14, if_neg hp29])
def r_others (post : Int32 → Mem → Prop) (S : Mem) (l1 : Int32) : Prop :=
  ∃ n, r_others_L4 post n S l1 0 0
set_option maxRecDepth 100000 in
set_option maxHeartbeats 1000000 in
theorem zr_others {g : Gm} {G : Gp} {S : Mem} {post : Int32 → Mem → Prop} {l1 : Int32} (hx : G.2.2.2 = false) (hG : isR G) (hw : r_others post S l1) : Z g M_r_others 0 0 0 (entryL [.ref 148, .int l1] (mL M_r_others)) [] (S, G) (Qi G post noEx) := by
  unfold r_others at hw
  show Z g M_r_others 0 0 0 [some (.ref 148), some (.int l1), none, none] [] (S, G) (Qi G post noEx)
  refine z_iconst 0 rfl rfl ?_
  refine z_istore_n [some (.ref 148), some (.int l1), some (.int 0), none] rfl rfl rfl ?_
  refine z_iconst 0 rfl rfl ?_
  refine z_istore_n [some (.ref 148), some (.int l1), some (.int 0), some (.int 0)] rfl rfl rfl ?_
  refine Z.forget' [some (.ref 148), some (.int l1), some (.int 0), some (.int 0)] ⟨rfl, ⟨rfl, ⟨rfl, ⟨rfl, trivial⟩⟩⟩⟩ ?_
  obtain ⟨n, hw⟩ := hw
  exact zr_others_L4 hx hG n hw
def r_argumentsOf (post : Int32 → Mem → Prop) (S : Mem) (l0 : Int32) : Prop :=
  post (if l0 = 0 then 4 else (if l0 = 1 then 1 else (if l0 = 7 then 1 else (if l0 = 4 then 2 else (if l0 = 5 then 2 else (if l0 = 6 then 2 else 3 : Int32) : Int32) : Int32) : Int32) : Int32) : Int32) S
set_option maxRecDepth 100000 in
set_option maxHeartbeats 1000000 in
theorem zr_argumentsOf {g : Gm} {G : Gp} {S : Mem} {post : Int32 → Mem → Prop} {l0 : Int32} (hx : G.2.2.2 = false) (hG : isR G) (hw : r_argumentsOf post S l0) : Z g M_r_argumentsOf 0 0 0 (entryL [.int l0] (mL M_r_argumentsOf)) [] (S, G) (Qi G post noEx) := by
  unfold r_argumentsOf at hw
  show Z g M_r_argumentsOf 0 0 0 [some (.int l0)] [] (S, G) (Qi G post noEx)
  refine z_iload_n rfl rfl ?_
  have hj1 : ∀ v : Int32, v = (if l0 = 0 then 4 else (if l0 = 1 then 1 else (if l0 = 7 then 1 else (if l0 = 4 then 2 else (if l0 = 5 then 2 else (if l0 = 6 then 2 else 3 : Int32) : Int32) : Int32) : Int32) : Int32) : Int32) → Z g M_r_argumentsOf 0 0 44 [some (.int l0)] [.int v] (S, G) (Qi G post noEx) := by
    intro v hv
    subst hv
    exact z_iret rfl rfl rfl rfl (Or.inl ⟨_, _, rfl, rfl, hw⟩)
  refine z_if_ne rfl (fun hp1 => ?_) (fun hp1 => ?_)
  · refine z_iload_n rfl rfl ?_
    refine z_iconst 1 rfl rfl ?_
    refine z_icmp_eq rfl (fun hp10 => ?_) (fun hp10 => ?_)
    · refine z_iconst 1 rfl rfl ?_
      refine z_goto rfl ?_
      exact hj1 _ (by rw [if_neg hp1, if_pos hp10])
    · refine z_iload_n rfl rfl ?_
      refine z_bipush 7 rfl rfl ?_
      refine z_icmp_ne rfl (fun hp16 => ?_) (fun hp16 => ?_)
      · refine z_iload_n rfl rfl ?_
        refine z_iconst 4 rfl rfl ?_
        refine z_icmp_eq rfl (fun hp25 => ?_) (fun hp25 => ?_)
        · refine z_iconst 2 rfl rfl ?_
          refine z_goto rfl ?_
          exact hj1 _ (by rw [if_neg hp1, if_neg hp10, if_neg hp16, if_pos hp25])
        · refine z_iload_n rfl rfl ?_
          refine z_iconst 5 rfl rfl ?_
          refine z_icmp_eq rfl (fun hp30 => ?_) (fun hp30 => ?_)
          · refine z_iconst 2 rfl rfl ?_
            refine z_goto rfl ?_
            exact hj1 _ (by rw [if_neg hp1, if_neg hp10, if_neg hp16, if_neg hp25, if_pos hp30])
          · refine z_iload_n rfl rfl ?_
            refine z_bipush 6 rfl rfl ?_
            refine z_icmp_ne rfl (fun hp36 => ?_) (fun hp36 => ?_)
            · refine z_iconst 3 rfl rfl ?_
              exact hj1 _ (by rw [if_neg hp1, if_neg hp10, if_neg hp16, if_neg hp25, if_neg hp30, if_neg hp36])
            · refine z_iconst 2 rfl rfl ?_
              refine z_goto rfl ?_
              exact hj1 _ (by rw [if_neg hp1, if_neg hp10, if_neg hp16, if_neg hp25, if_neg hp30, if_pos hp36])
      · refine z_iconst 1 rfl rfl ?_
        refine z_goto rfl ?_
        exact hj1 _ (by rw [if_neg hp1, if_neg hp10, if_pos hp16])
  · refine z_iconst 4 rfl rfl ?_
    refine z_goto rfl ?_
    exact hj1 _ (by rw [if_pos hp1])
def r_isBetween (post : Int32 → Mem → Prop) (S : Mem) (l0 : Int32) (l1 : Int32) (l2 : Int32) : Prop :=
  vp_nar .boolean (if l0 < l1 then 0 else (if l2 < l0 then 0 else 1 : Int32) : Int32) = (if l0 < l1 then 0 else (if l2 < l0 then 0 else 1 : Int32) : Int32) ∧ post (if l0 < l1 then 0 else (if l2 < l0 then 0 else 1 : Int32) : Int32) S
set_option maxRecDepth 100000 in
set_option maxHeartbeats 1000000 in
theorem zr_isBetween {g : Gm} {G : Gp} {S : Mem} {post : Int32 → Mem → Prop} {l0 : Int32} {l1 : Int32} {l2 : Int32} (hx : G.2.2.2 = false) (hG : isR G) (hw : r_isBetween post S l0 l1 l2) : Z g M_r_isBetween 0 0 0 (entryL [.int l0, .int l1, .int l2] (mL M_r_isBetween)) [] (S, G) (Qi G post noEx) := by
  unfold r_isBetween at hw
  show Z g M_r_isBetween 0 0 0 [some (.int l0), some (.int l1), some (.int l2)] [] (S, G) (Qi G post noEx)
  refine z_iload_n rfl rfl ?_
  refine z_iload_n rfl rfl ?_
  have hj2 : ∀ v : Int32, v = (if l0 < l1 then 0 else (if l2 < l0 then 0 else 1 : Int32) : Int32) → Z g M_r_isBetween 0 0 15 [some (.int l0), some (.int l1), some (.int l2)] [.int v] (S, G) (Qi G post noEx) := by
    intro v hv
    subst hv
    obtain ⟨hc1, hw⟩ := hw
    exact z_zret rfl rfl (nar_of hc1) rfl rfl (Or.inl ⟨_, _, rfl, rfl, hw⟩)
  refine z_icmp_lt rfl (fun hp2 => ?_) (fun hp2 => ?_)
  · refine z_iconst 0 rfl rfl ?_
    exact hj2 _ (by rw [if_pos hp2])
  · refine z_iload_n rfl rfl ?_
    refine z_iload_n rfl rfl ?_
    refine z_icmp_gt rfl (fun hp7 => ?_) (fun hp7 => ?_)
    · refine z_iconst 0 rfl rfl ?_
      exact hj2 _ (by rw [if_neg hp2, if_pos hp7])
    · refine z_iconst 1 rfl rfl ?_
      refine z_goto rfl ?_
      exact hj2 _ (by rw [if_neg hp2, if_neg hp7])
def r_isArgument_J94 (post : Int32 → Mem → Prop)  (S : Mem) (l2 : Int32) : Prop :=
  r_isBetween (fun r1 S1 =>
   vp_nar .boolean r1 = r1 ∧ post r1 S1) S l2 0 23
set_option maxRecDepth 100000 in
set_option maxHeartbeats 1000000 in
theorem zr_isArgument_J94 {g : Gm} {G : Gp} {post : Int32 → Mem → Prop} (hx : G.2.2.2 = false) (hG : isR G) {S : Mem} {l2 : Int32}  (hw : r_isArgument_J94 post S l2) : Z g M_r_isArgument 0 0 94 [none, none, some (.int l2)] [] (S, G) (Qi G post noEx) := by
  unfold r_isArgument_J94 at hw
  refine z_iload_n rfl rfl ?_
  refine z_iconst 0 rfl rfl ?_
  refine z_bipush 23 rfl rfl ?_
  refine z_csi (M' := M_r_isBetween) [.int l2, .int 0, .int 23] hx rfl w_731 cs_r_isBetween rfl rfl rfl (zr_isBetween hx hG hw) ?_ (fun _ _ hf => hf.elim)
  clear hw
  intro r1 S1 hw
  obtain ⟨hc1, hw⟩ := hw
  exact z_zret rfl rfl (nar_of hc1) rfl rfl (Or.inl ⟨_, _, rfl, rfl, hw⟩)
def r_isArgument_J102 (post : Int32 → Mem → Prop)  (S : Mem) (l0 : Int32) (l2 : Int32) : Prop :=
  (l0 = 3 → r_isBetween (fun r1 S1 =>
    vp_nar .boolean r1 = r1 ∧ post r1 S1) S l2 1 9) ∧
  (l0 = 4 → r_isBetween (fun r2 S2 =>
    vp_nar .boolean r2 = r2 ∧ post r2 S2) S l2 0 7) ∧
  (l0 = 5 → r_isBetween (fun r3 S3 =>
    vp_nar .boolean r3 = r3 ∧ post r3 S3) S l2 0 1) ∧
  (l0 = 6 → r_isBetween (fun r4 S4 =>
    vp_nar .boolean r4 = r4 ∧ post r4 S4) S l2 (-200) 200) ∧
  (l0 = 7 → r_isBetween (fun r5 S5 =>
    vp_nar .boolean r5 = r5 ∧ post r5 S5) S l2 (-200) 200) ∧
  (l0 = 8 → r_isBetween (fun r6 S6 =>
    vp_nar .boolean r6 = r6 ∧ post r6 S6) S l2 (-200) 200) ∧
  (l0 = 9 → r_isBetween (fun r7 S7 =>
    vp_nar .boolean r7 = r7 ∧ post r7 S7) S l2 0 3) ∧
  ((l0.toInt < 3 ∨ 9 < l0.toInt) → r_isBetween (fun r8 S8 =>
    vp_nar .boolean r8 = r8 ∧ post r8 S8) S l2 (-200) 200)
set_option maxRecDepth 100000 in
set_option maxHeartbeats 1000000 in
theorem zr_isArgument_J102 {g : Gm} {G : Gp} {post : Int32 → Mem → Prop} (hx : G.2.2.2 = false) (hG : isR G) {S : Mem} {l0 : Int32} {l2 : Int32}  (hw : r_isArgument_J102 post S l0 l2) : Z g M_r_isArgument 0 0 102 [some (.int l0), none, some (.int l2)] [] (S, G) (Qi G post noEx) := by
  unfold r_isArgument_J102 at hw
  refine z_iload_n rfl rfl ?_
  by_cases hr : l0.toInt < 3 ∨ 9 < l0.toInt
  · refine z_switch 174 rfl (sw_out hr rfl) ?_
    replace hw := hw.2.2.2.2.2.2.2 hr
    refine z_iload_n rfl rfl ?_
    refine z_sipush (-200) rfl rfl ?_
    refine z_sipush 200 rfl rfl ?_
    refine z_csi (M' := M_r_isBetween) [.int l2, .int (-200), .int 200] hx rfl w_731 cs_r_isBetween rfl rfl rfl (zr_isBetween hx hG hw) ?_ (fun _ _ hf => hf.elim)
    clear hw
    intro r8 S8 hw
    obtain ⟨hc8, hw⟩ := hw
    exact z_zret rfl rfl (nar_of hc8) rfl rfl (Or.inl ⟨_, _, rfl, rfl, hw⟩)
  · rcases sw_3_9 hr with hq | hq | hq | hq | hq | hq | hq
    · replace hw := hw.1 hq
      refine z_switch 144 rfl (sw_eq hq rfl) ?_
      refine z_iload_n rfl rfl ?_
      refine z_iconst 1 rfl rfl ?_
      refine z_bipush 9 rfl rfl ?_
      refine z_csi (M' := M_r_isBetween) [.int l2, .int 1, .int 9] hx rfl w_731 cs_r_isBetween rfl rfl rfl (zr_isBetween hx hG hw) ?_ (fun _ _ hf => hf.elim)
      clear hw
      intro r1 S1 hw
      obtain ⟨hc1, hw⟩ := hw
      exact z_zret rfl rfl (nar_of hc1) rfl rfl (Or.inl ⟨_, _, rfl, rfl, hw⟩)
    · replace hw := hw.2.1 hq
      refine z_switch 152 rfl (sw_eq hq rfl) ?_
      refine z_iload_n rfl rfl ?_
      refine z_iconst 0 rfl rfl ?_
      refine z_bipush 7 rfl rfl ?_
      refine z_csi (M' := M_r_isBetween) [.int l2, .int 0, .int 7] hx rfl w_731 cs_r_isBetween rfl rfl rfl (zr_isBetween hx hG hw) ?_ (fun _ _ hf => hf.elim)
      clear hw
      intro r2 S2 hw
      obtain ⟨hc2, hw⟩ := hw
      exact z_zret rfl rfl (nar_of hc2) rfl rfl (Or.inl ⟨_, _, rfl, rfl, hw⟩)
    · replace hw := hw.2.2.1 hq
      refine z_switch 160 rfl (sw_eq hq rfl) ?_
      refine z_iload_n rfl rfl ?_
      refine z_iconst 0 rfl rfl ?_
      refine z_iconst 1 rfl rfl ?_
      refine z_csi (M' := M_r_isBetween) [.int l2, .int 0, .int 1] hx rfl w_731 cs_r_isBetween rfl rfl rfl (zr_isBetween hx hG hw) ?_ (fun _ _ hf => hf.elim)
      clear hw
      intro r3 S3 hw
      obtain ⟨hc3, hw⟩ := hw
      exact z_zret rfl rfl (nar_of hc3) rfl rfl (Or.inl ⟨_, _, rfl, rfl, hw⟩)
    · replace hw := hw.2.2.2.1 hq
      refine z_switch 174 rfl (sw_eq hq rfl) ?_
      refine z_iload_n rfl rfl ?_
      refine z_sipush (-200) rfl rfl ?_
      refine z_sipush 200 rfl rfl ?_
      refine z_csi (M' := M_r_isBetween) [.int l2, .int (-200), .int 200] hx rfl w_731 cs_r_isBetween rfl rfl rfl (zr_isBetween hx hG hw) ?_ (fun _ _ hf => hf.elim)
      clear hw
      intro r4 S4 hw
      obtain ⟨hc4, hw⟩ := hw
      exact z_zret rfl rfl (nar_of hc4) rfl rfl (Or.inl ⟨_, _, rfl, rfl, hw⟩)
    · replace hw := hw.2.2.2.2.1 hq
      refine z_switch 174 rfl (sw_eq hq rfl) ?_
      refine z_iload_n rfl rfl ?_
      refine z_sipush (-200) rfl rfl ?_
      refine z_sipush 200 rfl rfl ?_
      refine z_csi (M' := M_r_isBetween) [.int l2, .int (-200), .int 200] hx rfl w_731 cs_r_isBetween rfl rfl rfl (zr_isBetween hx hG hw) ?_ (fun _ _ hf => hf.elim)
      clear hw
      intro r5 S5 hw
      obtain ⟨hc5, hw⟩ := hw
      exact z_zret rfl rfl (nar_of hc5) rfl rfl (Or.inl ⟨_, _, rfl, rfl, hw⟩)
    · replace hw := hw.2.2.2.2.2.1 hq
      refine z_switch 174 rfl (sw_eq hq rfl) ?_
      refine z_iload_n rfl rfl ?_
      refine z_sipush (-200) rfl rfl ?_
      refine z_sipush 200 rfl rfl ?_
      refine z_csi (M' := M_r_isBetween) [.int l2, .int (-200), .int 200] hx rfl w_731 cs_r_isBetween rfl rfl rfl (zr_isBetween hx hG hw) ?_ (fun _ _ hf => hf.elim)
      clear hw
      intro r6 S6 hw
      obtain ⟨hc6, hw⟩ := hw
      exact z_zret rfl rfl (nar_of hc6) rfl rfl (Or.inl ⟨_, _, rfl, rfl, hw⟩)
    · replace hw := hw.2.2.2.2.2.2.1 hq
      refine z_switch 167 rfl (sw_eq hq rfl) ?_
      refine z_iload_n rfl rfl ?_
      refine z_iconst 0 rfl rfl ?_
      refine z_iconst 3 rfl rfl ?_
      refine z_csi (M' := M_r_isBetween) [.int l2, .int 0, .int 3] hx rfl w_731 cs_r_isBetween rfl rfl rfl (zr_isBetween hx hG hw) ?_ (fun _ _ hf => hf.elim)
      clear hw
      intro r7 S7 hw
      obtain ⟨hc7, hw⟩ := hw
      exact z_zret rfl rfl (nar_of hc7) rfl rfl (Or.inl ⟨_, _, rfl, rfl, hw⟩)
def r_isArgument (post : Int32 → Mem → Prop) (S : Mem) (l0 : Int32) (l1 : Int32) (l2 : Int32) : Prop :=
  ((¬ l0 = 0) →
   ((l1 = 0) →
    r_isArgument_J94 post S l2) ∧
   ((¬ l1 = 0) →
    ((¬ l1 = 1) →
     r_isArgument_J102 post S l0 l2) ∧
    ((l1 = 1) →
     ((l0 = 6) →
      r_isArgument_J94 post S l2) ∧
     ((¬ l0 = 6) →
      ((¬ l0 = 9) →
       r_isArgument_J102 post S l0 l2) ∧
      ((l0 = 9) →
       r_isArgument_J94 post S l2))))) ∧
  ((l0 = 0) →
   ((¬ l1 = 0) →
    ((3 ≤ l1) →
     ((l2 < 0) →
      post 0 S) ∧
     ((¬ l2 < 0) →
      r_isBetween (fun r1 S1 =>
       ((r1 = 0) →
        post 0 S1) ∧
       ((¬ r1 = 0) →
        r_isBetween (fun r2 S2 =>
         ((r2 = 0) →
          post 0 S2) ∧
         ((¬ r2 = 0) →
          post 1 S2)) S1 (l2 / 128) 1 100)) S (l2 - l2 / 128 * 128) 1 100)) ∧
    ((¬ 3 ≤ l1) →
     r_isBetween (fun r3 S3 =>
      vp_nar .boolean r3 = r3 ∧ post r3 S3) S l2 (-200) 200)) ∧
   ((l1 = 0) →
    r_isBetween (fun r4 S4 =>
     vp_nar .boolean r4 = r4 ∧ post r4 S4) S l2 0 2))
set_option maxRecDepth 100000 in
set_option maxHeartbeats 1000000 in
theorem zr_isArgument {g : Gm} {G : Gp} {S : Mem} {post : Int32 → Mem → Prop} {l0 : Int32} {l1 : Int32} {l2 : Int32} (hx : G.2.2.2 = false) (hG : isR G) (hw : r_isArgument post S l0 l1 l2) : Z g M_r_isArgument 0 0 0 (entryL [.int l0, .int l1, .int l2] (mL M_r_isArgument)) [] (S, G) (Qi G post noEx) := by
  unfold r_isArgument at hw
  show Z g M_r_isArgument 0 0 0 [some (.int l0), some (.int l1), some (.int l2)] [] (S, G) (Qi G post noEx)
  refine z_iload_n rfl rfl ?_
  refine z_if_ne rfl (fun hq => ?_) (fun hq => ?_)
  · replace hw := hw.1 hq
    refine z_iload_n rfl rfl ?_
    refine z_if_eq rfl (fun hq => ?_) (fun hq => ?_)
    · replace hw := hw.1 hq
      refine Z.forget' [none, none, some (.int l2)] ⟨rfl, trivial⟩ ?_
      exact zr_isArgument_J94 hx hG hw
    · replace hw := hw.2 hq
      refine z_iload_n rfl rfl ?_
      refine z_iconst 1 rfl rfl ?_
      refine z_icmp_ne rfl (fun hq => ?_) (fun hq => ?_)
      · replace hw := hw.1 hq
        refine Z.forget' [some (.int l0), none, some (.int l2)] ⟨rfl, ⟨rfl, trivial⟩⟩ ?_
        exact zr_isArgument_J102 hx hG hw
      · replace hw := hw.2 hq
        refine z_iload_n rfl rfl ?_
        refine z_bipush 6 rfl rfl ?_
        refine z_icmp_eq rfl (fun hq => ?_) (fun hq => ?_)
        · replace hw := hw.1 hq
          refine Z.forget' [none, none, some (.int l2)] ⟨rfl, trivial⟩ ?_
          exact zr_isArgument_J94 hx hG hw
        · replace hw := hw.2 hq
          refine z_iload_n rfl rfl ?_
          refine z_bipush 9 rfl rfl ?_
          refine z_icmp_ne rfl (fun hq => ?_) (fun hq => ?_)
          · replace hw := hw.1 hq
            refine Z.forget' [some (.int l0), none, some (.int l2)] ⟨rfl, ⟨rfl, trivial⟩⟩ ?_
            exact zr_isArgument_J102 hx hG hw
          · replace hw := hw.2 hq
            refine Z.forget' [none, none, some (.int l2)] ⟨rfl, trivial⟩ ?_
            exact zr_isArgument_J94 hx hG hw
  · replace hw := hw.2 hq
    refine z_iload_n rfl rfl ?_
    refine z_if_ne rfl (fun hq => ?_) (fun hq => ?_)
    · replace hw := hw.1 hq
      refine z_iload_n rfl rfl ?_
      refine z_iconst 3 rfl rfl ?_
      refine z_icmp_ge rfl (fun hq => ?_) (fun hq => ?_)
      · replace hw := hw.1 hq
        refine z_iload_n rfl rfl ?_
        refine z_if_lt rfl (fun hq => ?_) (fun hq => ?_)
        · replace hw := hw.1 hq
          refine z_iconst 0 rfl rfl ?_
          exact z_zret rfl rfl (by decide) rfl rfl (Or.inl ⟨_, _, rfl, rfl, hw⟩)
        · replace hw := hw.2 hq
          refine z_iload_n rfl rfl ?_
          refine z_sipush 128 rfl rfl ?_
          refine z_irem rfl (by decide) ?_
          refine z_iconst 1 rfl rfl ?_
          refine z_bipush 100 rfl rfl ?_
          refine z_csi (M' := M_r_isBetween) [.int (l2 - l2 / 128 * 128), .int 1, .int 100] hx rfl w_731 cs_r_isBetween rfl rfl rfl (zr_isBetween hx hG hw) ?_ (fun _ _ hf => hf.elim)
          clear hw
          intro r1 S1 hw
          refine z_if_eq rfl (fun hq => ?_) (fun hq => ?_)
          · replace hw := hw.1 hq
            refine z_iconst 0 rfl rfl ?_
            exact z_zret rfl rfl (by decide) rfl rfl (Or.inl ⟨_, _, rfl, rfl, hw⟩)
          · replace hw := hw.2 hq
            refine z_iload_n rfl rfl ?_
            refine z_sipush 128 rfl rfl ?_
            refine z_idiv rfl (by decide) ?_
            refine z_iconst 1 rfl rfl ?_
            refine z_bipush 100 rfl rfl ?_
            refine z_csi (M' := M_r_isBetween) [.int (l2 / 128), .int 1, .int 100] hx rfl w_731 cs_r_isBetween rfl rfl rfl (zr_isBetween hx hG hw) ?_ (fun _ _ hf => hf.elim)
            clear hw
            intro r2 S2 hw
            refine z_if_eq rfl (fun hq => ?_) (fun hq => ?_)
            · replace hw := hw.1 hq
              refine z_iconst 0 rfl rfl ?_
              exact z_zret rfl rfl (by decide) rfl rfl (Or.inl ⟨_, _, rfl, rfl, hw⟩)
            · replace hw := hw.2 hq
              refine z_iconst 1 rfl rfl ?_
              refine z_goto rfl ?_
              exact z_zret rfl rfl (by decide) rfl rfl (Or.inl ⟨_, _, rfl, rfl, hw⟩)
      · replace hw := hw.2 hq
        refine z_iload_n rfl rfl ?_
        refine z_sipush (-200) rfl rfl ?_
        refine z_sipush 200 rfl rfl ?_
        refine z_csi (M' := M_r_isBetween) [.int l2, .int (-200), .int 200] hx rfl w_731 cs_r_isBetween rfl rfl rfl (zr_isBetween hx hG hw) ?_ (fun _ _ hf => hf.elim)
        clear hw
        intro r3 S3 hw
        refine z_goto rfl ?_
        obtain ⟨hc1, hw⟩ := hw
        exact z_zret rfl rfl (nar_of hc1) rfl rfl (Or.inl ⟨_, _, rfl, rfl, hw⟩)
    · replace hw := hw.2 hq
      refine z_iload_n rfl rfl ?_
      refine z_iconst 0 rfl rfl ?_
      refine z_iconst 2 rfl rfl ?_
      refine z_csi (M' := M_r_isBetween) [.int l2, .int 0, .int 2] hx rfl w_731 cs_r_isBetween rfl rfl rfl (zr_isBetween hx hG hw) ?_ (fun _ _ hf => hf.elim)
      clear hw
      intro r4 S4 hw
      refine z_goto rfl ?_
      obtain ⟨hc2, hw⟩ := hw
      exact z_zret rfl rfl (nar_of hc2) rfl rfl (Or.inl ⟨_, _, rfl, rfl, hw⟩)
def r_note_J52 (post : Mem → Prop)  (S : Mem) (l1 : Int32) (l2 : Int32) (l3 : Int32) (l4 : Int32) (l5 : Int32) : Prop :=
  (vp_in (5 * (S 148 18)) 160) ∧ ∀ S1, S1 = up2 S 157 (5 * (S 148 18)).toNatClampNeg l1 → (vp_in ((5 * (S1 148 18)) + 1) 160) ∧ ∀ S2, S2 = up2 S1 157 ((5 * (S1 148 18)) + 1).toNatClampNeg l2 → (vp_in ((5 * (S2 148 18)) + 2) 160) ∧ ∀ S3, S3 = up2 S2 157 ((5 * (S2 148 18)) + 2).toNatClampNeg l3 → (vp_in ((5 * (S3 148 18)) + 3) 160) ∧ ∀ S4, S4 = up2 S3 157 ((5 * (S3 148 18)) + 3).toNatClampNeg l4 → (vp_in ((5 * (S4 148 18)) + 4) 160) ∧ ∀ S5, S5 = up2 S4 157 ((5 * (S4 148 18)) + 4).toNatClampNeg l5 → ∀ S6, S6 = up2 S5 148 18 ((S5 148 18) + 1) → ∀ S7, S7 = up2 S6 148 17 (S6 148 18) → post S7
set_option maxRecDepth 100000 in
set_option maxHeartbeats 1000000 in
theorem zr_note_J52 {g : Gm} {G : Gp} {post : Mem → Prop} (hx : G.2.2.2 = false) (hG : isR G) {S : Mem} {l1 : Int32} {l2 : Int32} {l3 : Int32} {l4 : Int32} {l5 : Int32}  (hw : r_note_J52 post S l1 l2 l3 l4 l5) : Z g M_r_note 0 0 52 [some (.ref 148), some (.int l1), some (.int l2), some (.int l3), some (.int l4), some (.int l5), none] [] (S, G) (Qv G post noEx) := by
  unfold r_note_J52 at hw
  refine z_aload_n rfl rfl ?_
  refine z_getr (ci := 7) 16 rfl hG.1 rfl w_674 hG.2.2.2.2.2.2.2.2.2.2.2.2.2.2.2.2.2.1 ?_
  refine z_iconst 5 rfl rfl ?_
  refine z_aload_n rfl rfl ?_
  refine z_geti (ci := 7) 18 rfl hG.1 rfl w_676 ?_
  refine z_imul rfl ?_
  refine z_iload_n rfl rfl ?_
  obtain ⟨hc1, hw⟩ := hw
  replace hw := hw _ rfl
  refine z_iast ((5 * (S 148 18)).toNatClampNeg) rfl hG.2.2.2.2.2.2.2.2.2.2.2.2.2.2.2.2.2.2 hc1 rfl ?_
  refine z_aload_n rfl rfl ?_
  refine z_getr (ci := 7) 16 rfl hG.1 rfl w_674 hG.2.2.2.2.2.2.2.2.2.2.2.2.2.2.2.2.2.1 ?_
  refine z_iconst 5 rfl rfl ?_
  refine z_aload_n rfl rfl ?_
  refine z_geti (ci := 7) 18 rfl hG.1 rfl w_676 ?_
  refine z_imul rfl ?_
  refine z_iconst 1 rfl rfl ?_
  refine z_iadd rfl ?_
  refine z_iload_n rfl rfl ?_
  obtain ⟨hc2, hw⟩ := hw
  replace hw := hw _ rfl
  refine z_iast (((5 * ((up2 S 157 (5 * (S 148 18)).toNatClampNeg l1) 148 18)) + 1).toNatClampNeg) rfl hG.2.2.2.2.2.2.2.2.2.2.2.2.2.2.2.2.2.2 hc2 rfl ?_
  refine z_aload_n rfl rfl ?_
  refine z_getr (ci := 7) 16 rfl hG.1 rfl w_674 hG.2.2.2.2.2.2.2.2.2.2.2.2.2.2.2.2.2.1 ?_
  refine z_iconst 5 rfl rfl ?_
  refine z_aload_n rfl rfl ?_
  refine z_geti (ci := 7) 18 rfl hG.1 rfl w_676 ?_
  refine z_imul rfl ?_
  refine z_iconst 2 rfl rfl ?_
  refine z_iadd rfl ?_
  refine z_iload_n rfl rfl ?_
  obtain ⟨hc3, hw⟩ := hw
  replace hw := hw _ rfl
  refine z_iast (((5 * ((up2 (up2 S 157 (5 * (S 148 18)).toNatClampNeg l1) 157 ((5 * ((up2 S 157 (5 * (S 148 18)).toNatClampNeg l1) 148 18)) + 1).toNatClampNeg l2) 148 18)) + 2).toNatClampNeg) rfl hG.2.2.2.2.2.2.2.2.2.2.2.2.2.2.2.2.2.2 hc3 rfl ?_
  refine z_aload_n rfl rfl ?_
  refine z_getr (ci := 7) 16 rfl hG.1 rfl w_674 hG.2.2.2.2.2.2.2.2.2.2.2.2.2.2.2.2.2.1 ?_
  refine z_iconst 5 rfl rfl ?_
  refine z_aload_n rfl rfl ?_
  refine z_geti (ci := 7) 18 rfl hG.1 rfl w_676 ?_
  refine z_imul rfl ?_
  refine z_iconst 3 rfl rfl ?_
  refine z_iadd rfl ?_
  refine z_iload rfl rfl ?_
  obtain ⟨hc4, hw⟩ := hw
  replace hw := hw _ rfl
  refine z_iast (((5 * ((up2 (up2 (up2 S 157 (5 * (S 148 18)).toNatClampNeg l1) 157 ((5 * ((up2 S 157 (5 * (S 148 18)).toNatClampNeg l1) 148 18)) + 1).toNatClampNeg l2) 157 ((5 * ((up2 (up2 S 157 (5 * (S 148 18)).toNatClampNeg l1) 157 ((5 * ((up2 S 157 (5 * (S 148 18)).toNatClampNeg l1) 148 18)) + 1).toNatClampNeg l2) 148 18)) + 2).toNatClampNeg l3) 148 18)) + 3).toNatClampNeg) rfl hG.2.2.2.2.2.2.2.2.2.2.2.2.2.2.2.2.2.2 hc4 rfl ?_
  refine z_aload_n rfl rfl ?_
  refine z_getr (ci := 7) 16 rfl hG.1 rfl w_674 hG.2.2.2.2.2.2.2.2.2.2.2.2.2.2.2.2.2.1 ?_
  refine z_iconst 5 rfl rfl ?_
  refine z_aload_n rfl rfl ?_
  refine z_geti (ci := 7) 18 rfl hG.1 rfl w_676 ?_
  refine z_imul rfl ?_
  refine z_iconst 4 rfl rfl ?_
  refine z_iadd rfl ?_
  refine z_iload rfl rfl ?_
  obtain ⟨hc5, hw⟩ := hw
  replace hw := hw _ rfl
  refine z_iast (((5 * ((up2 (up2 (up2 (up2 S 157 (5 * (S 148 18)).toNatClampNeg l1) 157 ((5 * ((up2 S 157 (5 * (S 148 18)).toNatClampNeg l1) 148 18)) + 1).toNatClampNeg l2) 157 ((5 * ((up2 (up2 S 157 (5 * (S 148 18)).toNatClampNeg l1) 157 ((5 * ((up2 S 157 (5 * (S 148 18)).toNatClampNeg l1) 148 18)) + 1).toNatClampNeg l2) 148 18)) + 2).toNatClampNeg l3) 157 ((5 * ((up2 (up2 (up2 S 157 (5 * (S 148 18)).toNatClampNeg l1) 157 ((5 * ((up2 S 157 (5 * (S 148 18)).toNatClampNeg l1) 148 18)) + 1).toNatClampNeg l2) 157 ((5 * ((up2 (up2 S 157 (5 * (S 148 18)).toNatClampNeg l1) 157 ((5 * ((up2 S 157 (5 * (S 148 18)).toNatClampNeg l1) 148 18)) + 1).toNatClampNeg l2) 148 18)) + 2).toNatClampNeg l3) 148 18)) + 3).toNatClampNeg l4) 148 18)) + 4).toNatClampNeg) rfl hG.2.2.2.2.2.2.2.2.2.2.2.2.2.2.2.2.2.2 hc5 rfl ?_
  refine z_aload_n rfl rfl ?_
  refine z_dup rfl rfl ?_
  refine z_geti (ci := 7) 18 rfl hG.1 rfl w_676 ?_
  refine z_iconst 1 rfl rfl ?_
  refine z_iadd rfl ?_
  replace hw := hw _ rfl
  refine z_puti (ci := 7) 18 rfl hG.1 rfl w_676 rfl rfl rfl ?_
  refine z_aload_n rfl rfl ?_
  refine z_aload_n rfl rfl ?_
  refine z_geti (ci := 7) 18 rfl hG.1 rfl w_676 ?_
  replace hw := hw _ rfl
  refine z_puti (ci := 7) 17 rfl hG.1 rfl w_675 rfl rfl rfl ?_
  exact z_vret rfl rfl rfl rfl (Or.inl ⟨_, rfl, rfl, hw⟩)
def r_note_L12 (post : Mem → Prop)  : Nat → Mem → Int32 → Int32 → Int32 → Int32 → Int32 → Int32 → Prop
  | 0, _, _, _, _, _, _, _ => False
  | n + 1, S, l1, l2, l3, l4, l5, l6 =>
  ((155 ≤ l6) →
   ∀ S1, S1 = up2 S 148 18 ((S 148 18) - 1) → r_note_J52 post S1 l1 l2 l3 l4 l5) ∧
  ((¬ 155 ≤ l6) →
   (vp_in (l6 + 5) 160) ∧ (vp_in l6 160) ∧ ∀ S2, S2 = up2 S 157 l6.toNatClampNeg (S 157 (l6 + 5).toNatClampNeg) → r_note_L12 post n S2 l1 l2 l3 l4 l5 (l6 + 1))
set_option maxRecDepth 100000 in
set_option maxHeartbeats 1000000 in
theorem zr_note_L12 {g : Gm} {G : Gp} {post : Mem → Prop} (hx : G.2.2.2 = false) (hG : isR G) : ∀ (n : Nat) {S : Mem} {l1 : Int32} {l2 : Int32} {l3 : Int32} {l4 : Int32} {l5 : Int32} {l6 : Int32} , r_note_L12 post n S l1 l2 l3 l4 l5 l6 → Z g M_r_note 0 0 12 [some (.ref 148), some (.int l1), some (.int l2), some (.int l3), some (.int l4), some (.int l5), some (.int l6)] [] (S, G) (Qv G post noEx) := by
  intro n
  induction n with
  | zero =>
    intros
    rename_i hw
    exact hw.elim
  | succ n ih =>
    intro S l1 l2 l3 l4 l5 l6 hw
    rw [r_note_L12] at hw
    refine z_iload rfl rfl ?_
    refine z_sipush 155 rfl rfl ?_
    refine z_icmp_ge rfl (fun hq => ?_) (fun hq => ?_)
    · replace hw := hw.1 hq
      refine z_aload_n rfl rfl ?_
      refine z_dup rfl rfl ?_
      refine z_geti (ci := 7) 18 rfl hG.1 rfl w_676 ?_
      refine z_iconst 1 rfl rfl ?_
      refine z_isub rfl ?_
      replace hw := hw _ rfl
      refine z_puti (ci := 7) 18 rfl hG.1 rfl w_676 rfl rfl rfl ?_
      refine Z.forget' [some (.ref 148), some (.int l1), some (.int l2), some (.int l3), some (.int l4), some (.int l5), none] ⟨rfl, ⟨rfl, ⟨rfl, ⟨rfl, ⟨rfl, ⟨rfl, trivial⟩⟩⟩⟩⟩⟩ ?_
      exact zr_note_J52 hx hG hw
    · replace hw := hw.2 hq
      refine z_aload_n rfl rfl ?_
      refine z_getr (ci := 7) 16 rfl hG.1 rfl w_674 hG.2.2.2.2.2.2.2.2.2.2.2.2.2.2.2.2.2.1 ?_
      refine z_iload rfl rfl ?_
      refine z_aload_n rfl rfl ?_
      refine z_getr (ci := 7) 16 rfl hG.1 rfl w_674 hG.2.2.2.2.2.2.2.2.2.2.2.2.2.2.2.2.2.1 ?_
      refine z_iload rfl rfl ?_
      refine z_iconst 5 rfl rfl ?_
      refine z_iadd rfl ?_
      obtain ⟨hc1, hw⟩ := hw
      refine z_iald ((l6 + 5).toNatClampNeg) rfl hG.2.2.2.2.2.2.2.2.2.2.2.2.2.2.2.2.2.2 hc1 rfl ?_
      obtain ⟨hc2, hw⟩ := hw
      replace hw := hw _ rfl
      refine z_iast (l6.toNatClampNeg) rfl hG.2.2.2.2.2.2.2.2.2.2.2.2.2.2.2.2.2.2 hc2 rfl ?_
      refine z_iinc 1 [some (.ref 148), some (.int l1), some (.int l2), some (.int l3), some (.int l4), some (.int l5), some (.int (l6 + 1))] rfl rfl rfl rfl ?_
      refine z_goto rfl ?_
      refine Z.forget' [some (.ref 148), some (.int l1), some (.int l2), some (.int l3), some (.int l4), some (.int l5), some (.int (l6 + 1))] ⟨rfl, ⟨rfl, ⟨rfl, ⟨rfl, ⟨rfl, ⟨rfl, ⟨rfl, trivial⟩⟩⟩⟩⟩⟩⟩ ?_
      exact ih hw
def r_note (post : Mem → Prop) (S : Mem) (l1 : Int32) (l2 : Int32) (l3 : Int32) (l4 : Int32) (l5 : Int32) : Prop :=
  ((¬ (S 148 18) = 32) →
   r_note_J52 post S l1 l2 l3 l4 l5) ∧
  (((S 148 18) = 32) →
   ∃ n, r_note_L12 post n S l1 l2 l3 l4 l5 0)
set_option maxRecDepth 100000 in
set_option maxHeartbeats 1000000 in
theorem zr_note {g : Gm} {G : Gp} {S : Mem} {post : Mem → Prop} {l1 : Int32} {l2 : Int32} {l3 : Int32} {l4 : Int32} {l5 : Int32} (hx : G.2.2.2 = false) (hG : isR G) (hw : r_note post S l1 l2 l3 l4 l5) : Z g M_r_note 0 0 0 (entryL [.ref 148, .int l1, .int l2, .int l3, .int l4, .int l5] (mL M_r_note)) [] (S, G) (Qv G post noEx) := by
  unfold r_note at hw
  show Z g M_r_note 0 0 0 [some (.ref 148), some (.int l1), some (.int l2), some (.int l3), some (.int l4), some (.int l5), none] [] (S, G) (Qv G post noEx)
  refine z_aload_n rfl rfl ?_
  refine z_geti (ci := 7) 18 rfl hG.1 rfl w_676 ?_
  refine z_bipush 32 rfl rfl ?_
  refine z_icmp_ne rfl (fun hq => ?_) (fun hq => ?_)
  · replace hw := hw.1 hq
    refine Z.forget' [some (.ref 148), some (.int l1), some (.int l2), some (.int l3), some (.int l4), some (.int l5), none] ⟨rfl, ⟨rfl, ⟨rfl, ⟨rfl, ⟨rfl, ⟨rfl, trivial⟩⟩⟩⟩⟩⟩ ?_
    exact zr_note_J52 hx hG hw
  · replace hw := hw.2 hq
    refine z_iconst 0 rfl rfl ?_
    refine z_istore [some (.ref 148), some (.int l1), some (.int l2), some (.int l3), some (.int l4), some (.int l5), some (.int 0)] rfl rfl rfl ?_
    refine Z.forget' [some (.ref 148), some (.int l1), some (.int l2), some (.int l3), some (.int l4), some (.int l5), some (.int 0)] ⟨rfl, ⟨rfl, ⟨rfl, ⟨rfl, ⟨rfl, ⟨rfl, ⟨rfl, trivial⟩⟩⟩⟩⟩⟩⟩ ?_
    obtain ⟨n, hw⟩ := hw
    exact zr_note_L12 hx hG n hw
def r_lay4 (post : Mem → Prop) (S : Mem) (l1 : Int32) (l2 : Int32) (l3 : Int32) (l4 : Int32) (l5 : Int32) : Prop :=
  (vp_in (S 148 1) 24) ∧ ∀ S1, S1 = up2 S 149 (S 148 1).toNatClampNeg l1 → (vp_in (4 * (S1 148 1)) 96) ∧ ∀ S2, S2 = up2 S1 150 (4 * (S1 148 1)).toNatClampNeg l2 → (vp_in ((4 * (S2 148 1)) + 1) 96) ∧ ∀ S3, S3 = up2 S2 150 ((4 * (S2 148 1)) + 1).toNatClampNeg l3 → (vp_in ((4 * (S3 148 1)) + 2) 96) ∧ ∀ S4, S4 = up2 S3 150 ((4 * (S3 148 1)) + 2).toNatClampNeg l4 → (vp_in ((4 * (S4 148 1)) + 3) 96) ∧ ∀ S5, S5 = up2 S4 150 ((4 * (S4 148 1)) + 3).toNatClampNeg l5 → (vp_in (S5 148 1) 24) ∧ ∀ S6, S6 = up2 S5 151 (S5 148 1).toNatClampNeg (vp_nar .boolean 0) → post S6
set_option maxRecDepth 100000 in
set_option maxHeartbeats 1000000 in
theorem zr_lay4 {g : Gm} {G : Gp} {S : Mem} {post : Mem → Prop} {l1 : Int32} {l2 : Int32} {l3 : Int32} {l4 : Int32} {l5 : Int32} (hx : G.2.2.2 = false) (hG : isR G) (hw : r_lay4 post S l1 l2 l3 l4 l5) : Z g M_r_lay4 0 0 0 (entryL [.ref 148, .int l1, .int l2, .int l3, .int l4, .int l5] (mL M_r_lay4)) [] (S, G) (Qv G post noEx) := by
  unfold r_lay4 at hw
  show Z g M_r_lay4 0 0 0 [some (.ref 148), some (.int l1), some (.int l2), some (.int l3), some (.int l4), some (.int l5)] [] (S, G) (Qv G post noEx)
  refine z_aload_n rfl rfl ?_
  refine z_getr (ci := 7) 2 rfl hG.1 rfl w_660 hG.2.1 ?_
  refine z_aload_n rfl rfl ?_
  refine z_geti (ci := 7) 1 rfl hG.1 rfl w_659 ?_
  refine z_iload_n rfl rfl ?_
  obtain ⟨hc1, hw⟩ := hw
  replace hw := hw _ rfl
  refine z_iast ((S 148 1).toNatClampNeg) rfl hG.2.2.1 hc1 rfl ?_
  refine z_aload_n rfl rfl ?_
  refine z_getr (ci := 7) 3 rfl hG.1 rfl w_661 hG.2.2.2.1 ?_
  refine z_iconst 4 rfl rfl ?_
  refine z_aload_n rfl rfl ?_
  refine z_geti (ci := 7) 1 rfl hG.1 rfl w_659 ?_
  refine z_imul rfl ?_
  refine z_iload_n rfl rfl ?_
  obtain ⟨hc2, hw⟩ := hw
  replace hw := hw _ rfl
  refine z_iast ((4 * ((up2 S 149 (S 148 1).toNatClampNeg l1) 148 1)).toNatClampNeg) rfl hG.2.2.2.2.1 hc2 rfl ?_
  refine z_aload_n rfl rfl ?_
  refine z_getr (ci := 7) 3 rfl hG.1 rfl w_661 hG.2.2.2.1 ?_
  refine z_iconst 4 rfl rfl ?_
  refine z_aload_n rfl rfl ?_
  refine z_geti (ci := 7) 1 rfl hG.1 rfl w_659 ?_
  refine z_imul rfl ?_
  refine z_iconst 1 rfl rfl ?_
  refine z_iadd rfl ?_
  refine z_iload_n rfl rfl ?_
  obtain ⟨hc3, hw⟩ := hw
  replace hw := hw _ rfl
  refine z_iast (((4 * ((up2 (up2 S 149 (S 148 1).toNatClampNeg l1) 150 (4 * ((up2 S 149 (S 148 1).toNatClampNeg l1) 148 1)).toNatClampNeg l2) 148 1)) + 1).toNatClampNeg) rfl hG.2.2.2.2.1 hc3 rfl ?_
  refine z_aload_n rfl rfl ?_
  refine z_getr (ci := 7) 3 rfl hG.1 rfl w_661 hG.2.2.2.1 ?_
  refine z_iconst 4 rfl rfl ?_
  refine z_aload_n rfl rfl ?_
  refine z_geti (ci := 7) 1 rfl hG.1 rfl w_659 ?_
  refine z_imul rfl ?_
  refine z_iconst 2 rfl rfl ?_
  refine z_iadd rfl ?_
  refine z_iload rfl rfl ?_
  obtain ⟨hc4, hw⟩ := hw
  replace hw := hw _ rfl
  refine z_iast (((4 * ((up2 (up2 (up2 S 149 (S 148 1).toNatClampNeg l1) 150 (4 * ((up2 S 149 (S 148 1).toNatClampNeg l1) 148 1)).toNatClampNeg l2) 150 ((4 * ((up2 (up2 S 149 (S 148 1).toNatClampNeg l1) 150 (4 * ((up2 S 149 (S 148 1).toNatClampNeg l1) 148 1)).toNatClampNeg l2) 148 1)) + 1).toNatClampNeg l3) 148 1)) + 2).toNatClampNeg) rfl hG.2.2.2.2.1 hc4 rfl ?_
  refine z_aload_n rfl rfl ?_
  refine z_getr (ci := 7) 3 rfl hG.1 rfl w_661 hG.2.2.2.1 ?_
  refine z_iconst 4 rfl rfl ?_
  refine z_aload_n rfl rfl ?_
  refine z_geti (ci := 7) 1 rfl hG.1 rfl w_659 ?_
  refine z_imul rfl ?_
  refine z_iconst 3 rfl rfl ?_
  refine z_iadd rfl ?_
  refine z_iload rfl rfl ?_
  obtain ⟨hc5, hw⟩ := hw
  replace hw := hw _ rfl
  refine z_iast (((4 * ((up2 (up2 (up2 (up2 S 149 (S 148 1).toNatClampNeg l1) 150 (4 * ((up2 S 149 (S 148 1).toNatClampNeg l1) 148 1)).toNatClampNeg l2) 150 ((4 * ((up2 (up2 S 149 (S 148 1).toNatClampNeg l1) 150 (4 * ((up2 S 149 (S 148 1).toNatClampNeg l1) 148 1)).toNatClampNeg l2) 148 1)) + 1).toNatClampNeg l3) 150 ((4 * ((up2 (up2 (up2 S 149 (S 148 1).toNatClampNeg l1) 150 (4 * ((up2 S 149 (S 148 1).toNatClampNeg l1) 148 1)).toNatClampNeg l2) 150 ((4 * ((up2 (up2 S 149 (S 148 1).toNatClampNeg l1) 150 (4 * ((up2 S 149 (S 148 1).toNatClampNeg l1) 148 1)).toNatClampNeg l2) 148 1)) + 1).toNatClampNeg l3) 148 1)) + 2).toNatClampNeg l4) 148 1)) + 3).toNatClampNeg) rfl hG.2.2.2.2.1 hc5 rfl ?_
  refine z_aload_n rfl rfl ?_
  refine z_getr (ci := 7) 4 rfl hG.1 rfl w_662 hG.2.2.2.2.2.1 ?_
  refine z_aload_n rfl rfl ?_
  refine z_geti (ci := 7) 1 rfl hG.1 rfl w_659 ?_
  refine z_iconst 0 rfl rfl ?_
  obtain ⟨hc6, hw⟩ := hw
  replace hw := hw _ rfl
  refine z_zast (((up2 (up2 (up2 (up2 (up2 S 149 (S 148 1).toNatClampNeg l1) 150 (4 * ((up2 S 149 (S 148 1).toNatClampNeg l1) 148 1)).toNatClampNeg l2) 150 ((4 * ((up2 (up2 S 149 (S 148 1).toNatClampNeg l1) 150 (4 * ((up2 S 149 (S 148 1).toNatClampNeg l1) 148 1)).toNatClampNeg l2) 148 1)) + 1).toNatClampNeg l3) 150 ((4 * ((up2 (up2 (up2 S 149 (S 148 1).toNatClampNeg l1) 150 (4 * ((up2 S 149 (S 148 1).toNatClampNeg l1) 148 1)).toNatClampNeg l2) 150 ((4 * ((up2 (up2 S 149 (S 148 1).toNatClampNeg l1) 150 (4 * ((up2 S 149 (S 148 1).toNatClampNeg l1) 148 1)).toNatClampNeg l2) 148 1)) + 1).toNatClampNeg l3) 148 1)) + 2).toNatClampNeg l4) 150 ((4 * ((up2 (up2 (up2 (up2 S 149 (S 148 1).toNatClampNeg l1) 150 (4 * ((up2 S 149 (S 148 1).toNatClampNeg l1) 148 1)).toNatClampNeg l2) 150 ((4 * ((up2 (up2 S 149 (S 148 1).toNatClampNeg l1) 150 (4 * ((up2 S 149 (S 148 1).toNatClampNeg l1) 148 1)).toNatClampNeg l2) 148 1)) + 1).toNatClampNeg l3) 150 ((4 * ((up2 (up2 (up2 S 149 (S 148 1).toNatClampNeg l1) 150 (4 * ((up2 S 149 (S 148 1).toNatClampNeg l1) 148 1)).toNatClampNeg l2) 150 ((4 * ((up2 (up2 S 149 (S 148 1).toNatClampNeg l1) 150 (4 * ((up2 S 149 (S 148 1).toNatClampNeg l1) 148 1)).toNatClampNeg l2) 148 1)) + 1).toNatClampNeg l3) 148 1)) + 2).toNatClampNeg l4) 148 1)) + 3).toNatClampNeg l5) 148 1).toNatClampNeg) rfl hG.2.2.2.2.2.2.1 hc6 rfl ?_
  exact z_vret rfl rfl rfl rfl (Or.inl ⟨_, rfl, rfl, hw⟩)
def r_commit_J98 (post : Int32 → Mem → Prop)  (S : Mem) (l1 : Int32) (l2 : Int32) (l3 : Int32) (l4 : Int32) (l5 : Int32) (l6 : Int32) : Prop :=
  ∀ S1, S1 = up2 S 148 0 (if l6 = 0 then 1 else (if (S 148 1) = 24 then 2 else 0 : Int32) : Int32) → (((S1 148 0) ≤ 0) →
   (vp_in (S1 148 1) 24) ∧ (vp_in ((4 * (S1 148 1)) + 0) 96) ∧ 
   (vp_in ((4 * (S1 148 1)) + 1) 96) ∧ 
   (vp_in ((4 * (S1 148 1)) + 2) 96) ∧ 
   (vp_in ((4 * (S1 148 1)) + 3) 96) ∧ 
   r_argumentsOf (fun r1 S2 =>
    r_argumentsOf (fun r2 S3 =>
     r_argumentsOf (fun r3 S4 =>
      r_lay4 (fun S5 =>
       ∀ S6, S6 = up2 S5 148 1 ((S5 148 1) + 1) → r_goThrough (fun S7 =>
        (vp_in ((S7 148 1) - 1) 24) ∧ (((S7 152 ((S7 148 1) - 1).toNatClampNeg) = 1) →
         r_note (fun S8 =>
          post ((S8 148 1) - 1) S8) S7 0 ((S7 148 1) - 1) 0 0 0) ∧
        ((¬ (S7 152 ((S7 148 1) - 1).toNatClampNeg) = 1) →
         ∀ S9, S9 = up2 S7 148 1 ((S7 148 1) - 1) → r_lay4 (fun S10 =>
          r_goThrough (fun S11 =>
           ∀ S12, S12 = up2 S11 148 0 2 → post 0 S12) S10 (-1)) S9 (S1 149 (S1 148 1).toNatClampNeg) (S1 150 ((4 * (S1 148 1)) + 0).toNatClampNeg) (S1 150 ((4 * (S1 148 1)) + 1).toNatClampNeg) (S1 150 ((4 * (S1 148 1)) + 2).toNatClampNeg) (S1 150 ((4 * (S1 148 1)) + 3).toNatClampNeg))) S6 (-1)) S4 l1 l2 (if r1 ≤ 1 then 0 else l3 : Int32) (if r2 ≤ 2 then 0 else l4 : Int32) (if r3 ≤ 3 then 0 else l5 : Int32)) S3 l1) S2 l1) S1 l1) ∧
  ((¬ (S1 148 0) ≤ 0) →
   post 0 S1)
set_option maxRecDepth 100000 in
set_option maxHeartbeats 1000000 in
theorem zr_commit_J98 {g : Gm} {G : Gp} {post : Int32 → Mem → Prop} (hx : G.2.2.2 = false) (hG : isR G) {S : Mem} {l1 : Int32} {l2 : Int32} {l3 : Int32} {l4 : Int32} {l5 : Int32} {l6 : Int32}  (hw : r_commit_J98 post S l1 l2 l3 l4 l5 l6) : Z g M_r_commit 0 0 98 [some (.ref 148), some (.int l1), some (.int l2), some (.int l3), some (.int l4), some (.int l5), some (.int l6), none, none, none, none, none] [] (S, G) (Qi G post noEx) := by
  unfold r_commit_J98 at hw
  refine z_aload_n rfl rfl ?_
  refine z_iload rfl rfl ?_
  have hj101 : ∀ v : Int32, v = (if l6 = 0 then 1 else (if (S 148 1) = 24 then 2 else 0 : Int32) : Int32) → Z g M_r_commit 0 0 122 [some (.ref 148), some (.int l1), some (.int l2), some (.int l3), some (.int l4), some (.int l5), some (.int l6), none, none, none, none, none] [.int v, .ref 148] (S, G) (Qi G post noEx) := by
    intro v hv
    subst hv
    replace hw := hw _ rfl
    refine z_puti (ci := 7) 0 rfl hG.1 rfl w_658 rfl rfl rfl ?_
    refine z_aload_n rfl rfl ?_
    refine z_geti (ci := 7) 0 rfl hG.1 rfl w_658 ?_
    refine z_if_le rfl (fun hq => ?_) (fun hq => ?_)
    · replace hw := hw.1 hq
      refine z_aload_n rfl rfl ?_
      refine z_getr (ci := 7) 2 rfl hG.1 rfl w_660 hG.2.1 ?_
      refine z_aload_n rfl rfl ?_
      refine z_geti (ci := 7) 1 rfl hG.1 rfl w_659 ?_
      obtain ⟨hc1, hw⟩ := hw
      refine z_iald (((up2 S 148 0 (if l6 = 0 then 1 else (if (S 148 1) = 24 then 2 else 0 : Int32) : Int32)) 148 1).toNatClampNeg) rfl hG.2.2.1 hc1 rfl ?_
      refine z_istore [some (.ref 148), some (.int l1), some (.int l2), some (.int l3), some (.int l4), some (.int l5), some (.int l6), some (.int ((up2 S 148 0 (if l6 = 0 then 1 else (if (S 148 1) = 24 then 2 else 0 : Int32) : Int32)) 149 ((up2 S 148 0 (if l6 = 0 then 1 else (if (S 148 1) = 24 then 2 else 0 : Int32) : Int32)) 148 1).toNatClampNeg)), none, none, none, none] rfl rfl rfl ?_
      refine z_aload_n rfl rfl ?_
      refine z_aload_n rfl rfl ?_
      refine z_geti (ci := 7) 1 rfl hG.1 rfl w_659 ?_
      refine z_iconst 0 rfl rfl ?_
      obtain ⟨hc2, hw⟩ := hw
      refine z_cvi (M' := M_r_arg) (post := fun v S' => ((up2 S 148 0 (if l6 = 0 then 1 else (if (S 148 1) = 24 then 2 else 0 : Int32) : Int32)) 150 ((4 * ((up2 S 148 0 (if l6 = 0 then 1 else (if (S 148 1) = 24 then 2 else 0 : Int32) : Int32)) 148 1)) + 0).toNatClampNeg) = v ∧ (up2 S 148 0 (if l6 = 0 then 1 else (if (S 148 1) = 24 then 2 else 0 : Int32) : Int32)) = S') [.int ((up2 S 148 0 (if l6 = 0 then 1 else (if (S 148 1) = 24 then 2 else 0 : Int32) : Int32)) 148 1), .int 0] hx rfl w_734 cv_r_arg hG.1 (by decide) rfl rfl rfl rfl (zr_arg hx hG (⟨hc2, ⟨rfl, rfl⟩⟩)) ?_ (fun _ _ hf => hf.elim)
      rintro v S' ⟨rfl, rfl⟩
      refine z_istore [some (.ref 148), some (.int l1), some (.int l2), some (.int l3), some (.int l4), some (.int l5), some (.int l6), some (.int ((up2 S 148 0 (if l6 = 0 then 1 else (if (S 148 1) = 24 then 2 else 0 : Int32) : Int32)) 149 ((up2 S 148 0 (if l6 = 0 then 1 else (if (S 148 1) = 24 then 2 else 0 : Int32) : Int32)) 148 1).toNatClampNeg)), some (.int ((up2 S 148 0 (if l6 = 0 then 1 else (if (S 148 1) = 24 then 2 else 0 : Int32) : Int32)) 150 ((4 * ((up2 S 148 0 (if l6 = 0 then 1 else (if (S 148 1) = 24 then 2 else 0 : Int32) : Int32)) 148 1)) + 0).toNatClampNeg)), none, none, none] rfl rfl rfl ?_
      refine z_aload_n rfl rfl ?_
      refine z_aload_n rfl rfl ?_
      refine z_geti (ci := 7) 1 rfl hG.1 rfl w_659 ?_
      refine z_iconst 1 rfl rfl ?_
      obtain ⟨hc3, hw⟩ := hw
      refine z_cvi (M' := M_r_arg) (post := fun v S' => ((up2 S 148 0 (if l6 = 0 then 1 else (if (S 148 1) = 24 then 2 else 0 : Int32) : Int32)) 150 ((4 * ((up2 S 148 0 (if l6 = 0 then 1 else (if (S 148 1) = 24 then 2 else 0 : Int32) : Int32)) 148 1)) + 1).toNatClampNeg) = v ∧ (up2 S 148 0 (if l6 = 0 then 1 else (if (S 148 1) = 24 then 2 else 0 : Int32) : Int32)) = S') [.int ((up2 S 148 0 (if l6 = 0 then 1 else (if (S 148 1) = 24 then 2 else 0 : Int32) : Int32)) 148 1), .int 1] hx rfl w_734 cv_r_arg hG.1 (by decide) rfl rfl rfl rfl (zr_arg hx hG (⟨hc3, ⟨rfl, rfl⟩⟩)) ?_ (fun _ _ hf => hf.elim)
      rintro v S' ⟨rfl, rfl⟩
      refine z_istore [some (.ref 148), some (.int l1), some (.int l2), some (.int l3), some (.int l4), some (.int l5), some (.int l6), some (.int ((up2 S 148 0 (if l6 = 0 then 1 else (if (S 148 1) = 24 then 2 else 0 : Int32) : Int32)) 149 ((up2 S 148 0 (if l6 = 0 then 1 else (if (S 148 1) = 24 then 2 else 0 : Int32) : Int32)) 148 1).toNatClampNeg)), some (.int ((up2 S 148 0 (if l6 = 0 then 1 else (if (S 148 1) = 24 then 2 else 0 : Int32) : Int32)) 150 ((4 * ((up2 S 148 0 (if l6 = 0 then 1 else (if (S 148 1) = 24 then 2 else 0 : Int32) : Int32)) 148 1)) + 0).toNatClampNeg)), some (.int ((up2 S 148 0 (if l6 = 0 then 1 else (if (S 148 1) = 24 then 2 else 0 : Int32) : Int32)) 150 ((4 * ((up2 S 148 0 (if l6 = 0 then 1 else (if (S 148 1) = 24 then 2 else 0 : Int32) : Int32)) 148 1)) + 1).toNatClampNeg)), none, none] rfl rfl rfl ?_
      refine z_aload_n rfl rfl ?_
      refine z_aload_n rfl rfl ?_
      refine z_geti (ci := 7) 1 rfl hG.1 rfl w_659 ?_
      refine z_iconst 2 rfl rfl ?_
      obtain ⟨hc4, hw⟩ := hw
      refine z_cvi (M' := M_r_arg) (post := fun v S' => ((up2 S 148 0 (if l6 = 0 then 1 else (if (S 148 1) = 24 then 2 else 0 : Int32) : Int32)) 150 ((4 * ((up2 S 148 0 (if l6 = 0 then 1 else (if (S 148 1) = 24 then 2 else 0 : Int32) : Int32)) 148 1)) + 2).toNatClampNeg) = v ∧ (up2 S 148 0 (if l6 = 0 then 1 else (if (S 148 1) = 24 then 2 else 0 : Int32) : Int32)) = S') [.int ((up2 S 148 0 (if l6 = 0 then 1 else (if (S 148 1) = 24 then 2 else 0 : Int32) : Int32)) 148 1), .int 2] hx rfl w_734 cv_r_arg hG.1 (by decide) rfl rfl rfl rfl (zr_arg hx hG (⟨hc4, ⟨rfl, rfl⟩⟩)) ?_ (fun _ _ hf => hf.elim)
      rintro v S' ⟨rfl, rfl⟩
      refine z_istore [some (.ref 148), some (.int l1), some (.int l2), some (.int l3), some (.int l4), some (.int l5), some (.int l6), some (.int ((up2 S 148 0 (if l6 = 0 then 1 else (if (S 148 1) = 24 then 2 else 0 : Int32) : Int32)) 149 ((up2 S 148 0 (if l6 = 0 then 1 else (if (S 148 1) = 24 then 2 else 0 : Int32) : Int32)) 148 1).toNatClampNeg)), some (.int ((up2 S 148 0 (if l6 = 0 then 1 else (if (S 148 1) = 24 then 2 else 0 : Int32) : Int32)) 150 ((4 * ((up2 S 148 0 (if l6 = 0 then 1 else (if (S 148 1) = 24 then 2 else 0 : Int32) : Int32)) 148 1)) + 0).toNatClampNeg)), some (.int ((up2 S 148 0 (if l6 = 0 then 1 else (if (S 148 1) = 24 then 2 else 0 : Int32) : Int32)) 150 ((4 * ((up2 S 148 0 (if l6 = 0 then 1 else (if (S 148 1) = 24 then 2 else 0 : Int32) : Int32)) 148 1)) + 1).toNatClampNeg)), some (.int ((up2 S 148 0 (if l6 = 0 then 1 else (if (S 148 1) = 24 then 2 else 0 : Int32) : Int32)) 150 ((4 * ((up2 S 148 0 (if l6 = 0 then 1 else (if (S 148 1) = 24 then 2 else 0 : Int32) : Int32)) 148 1)) + 2).toNatClampNeg)), none] rfl rfl rfl ?_
      refine z_aload_n rfl rfl ?_
      refine z_aload_n rfl rfl ?_
      refine z_geti (ci := 7) 1 rfl hG.1 rfl w_659 ?_
      refine z_iconst 3 rfl rfl ?_
      obtain ⟨hc5, hw⟩ := hw
      refine z_cvi (M' := M_r_arg) (post := fun v S' => ((up2 S 148 0 (if l6 = 0 then 1 else (if (S 148 1) = 24 then 2 else 0 : Int32) : Int32)) 150 ((4 * ((up2 S 148 0 (if l6 = 0 then 1 else (if (S 148 1) = 24 then 2 else 0 : Int32) : Int32)) 148 1)) + 3).toNatClampNeg) = v ∧ (up2 S 148 0 (if l6 = 0 then 1 else (if (S 148 1) = 24 then 2 else 0 : Int32) : Int32)) = S') [.int ((up2 S 148 0 (if l6 = 0 then 1 else (if (S 148 1) = 24 then 2 else 0 : Int32) : Int32)) 148 1), .int 3] hx rfl w_734 cv_r_arg hG.1 (by decide) rfl rfl rfl rfl (zr_arg hx hG (⟨hc5, ⟨rfl, rfl⟩⟩)) ?_ (fun _ _ hf => hf.elim)
      rintro v S' ⟨rfl, rfl⟩
      refine z_istore [some (.ref 148), some (.int l1), some (.int l2), some (.int l3), some (.int l4), some (.int l5), some (.int l6), some (.int ((up2 S 148 0 (if l6 = 0 then 1 else (if (S 148 1) = 24 then 2 else 0 : Int32) : Int32)) 149 ((up2 S 148 0 (if l6 = 0 then 1 else (if (S 148 1) = 24 then 2 else 0 : Int32) : Int32)) 148 1).toNatClampNeg)), some (.int ((up2 S 148 0 (if l6 = 0 then 1 else (if (S 148 1) = 24 then 2 else 0 : Int32) : Int32)) 150 ((4 * ((up2 S 148 0 (if l6 = 0 then 1 else (if (S 148 1) = 24 then 2 else 0 : Int32) : Int32)) 148 1)) + 0).toNatClampNeg)), some (.int ((up2 S 148 0 (if l6 = 0 then 1 else (if (S 148 1) = 24 then 2 else 0 : Int32) : Int32)) 150 ((4 * ((up2 S 148 0 (if l6 = 0 then 1 else (if (S 148 1) = 24 then 2 else 0 : Int32) : Int32)) 148 1)) + 1).toNatClampNeg)), some (.int ((up2 S 148 0 (if l6 = 0 then 1 else (if (S 148 1) = 24 then 2 else 0 : Int32) : Int32)) 150 ((4 * ((up2 S 148 0 (if l6 = 0 then 1 else (if (S 148 1) = 24 then 2 else 0 : Int32) : Int32)) 148 1)) + 2).toNatClampNeg)), some (.int ((up2 S 148 0 (if l6 = 0 then 1 else (if (S 148 1) = 24 then 2 else 0 : Int32) : Int32)) 150 ((4 * ((up2 S 148 0 (if l6 = 0 then 1 else (if (S 148 1) = 24 then 2 else 0 : Int32) : Int32)) 148 1)) + 3).toNatClampNeg))] rfl rfl rfl ?_
      refine z_aload_n rfl rfl ?_
      refine z_iload_n rfl rfl ?_
      refine z_iload_n rfl rfl ?_
      refine z_iload_n rfl rfl ?_
      refine z_csi (M' := M_r_argumentsOf) [.int l1] hx rfl w_725 cs_r_argumentsOf rfl rfl rfl (zr_argumentsOf hx hG hw) ?_ (fun _ _ hf => hf.elim)
      clear hw
      intro r1 S2 hw
      refine z_iconst 1 rfl rfl ?_
      have hj197 : ∀ v : Int32, v = (if r1 ≤ 1 then 0 else l3 : Int32) → Z g M_r_commit 0 0 205 [some (.ref 148), some (.int l1), some (.int l2), some (.int l3), some (.int l4), some (.int l5), some (.int l6), some (.int ((up2 S 148 0 (if l6 = 0 then 1 else (if (S 148 1) = 24 then 2 else 0 : Int32) : Int32)) 149 ((up2 S 148 0 (if l6 = 0 then 1 else (if (S 148 1) = 24 then 2 else 0 : Int32) : Int32)) 148 1).toNatClampNeg)), some (.int ((up2 S 148 0 (if l6 = 0 then 1 else (if (S 148 1) = 24 then 2 else 0 : Int32) : Int32)) 150 ((4 * ((up2 S 148 0 (if l6 = 0 then 1 else (if (S 148 1) = 24 then 2 else 0 : Int32) : Int32)) 148 1)) + 0).toNatClampNeg)), some (.int ((up2 S 148 0 (if l6 = 0 then 1 else (if (S 148 1) = 24 then 2 else 0 : Int32) : Int32)) 150 ((4 * ((up2 S 148 0 (if l6 = 0 then 1 else (if (S 148 1) = 24 then 2 else 0 : Int32) : Int32)) 148 1)) + 1).toNatClampNeg)), some (.int ((up2 S 148 0 (if l6 = 0 then 1 else (if (S 148 1) = 24 then 2 else 0 : Int32) : Int32)) 150 ((4 * ((up2 S 148 0 (if l6 = 0 then 1 else (if (S 148 1) = 24 then 2 else 0 : Int32) : Int32)) 148 1)) + 2).toNatClampNeg)), some (.int ((up2 S 148 0 (if l6 = 0 then 1 else (if (S 148 1) = 24 then 2 else 0 : Int32) : Int32)) 150 ((4 * ((up2 S 148 0 (if l6 = 0 then 1 else (if (S 148 1) = 24 then 2 else 0 : Int32) : Int32)) 148 1)) + 3).toNatClampNeg))] [.int v, .int l2, .int l1, .ref 148] (S2, G) (Qi G post noEx) := by
        intro v hv
        subst hv
        refine z_iload_n rfl rfl ?_
        refine z_csi (M' := M_r_argumentsOf) [.int l1] hx rfl w_725 cs_r_argumentsOf rfl rfl rfl (zr_argumentsOf hx hG hw) ?_ (fun _ _ hf => hf.elim)
        clear hw
        intro r2 S3 hw
        refine z_iconst 2 rfl rfl ?_
        have hj210 : ∀ v : Int32, v = (if r2 ≤ 2 then 0 else l4 : Int32) → Z g M_r_commit 0 0 219 [some (.ref 148), some (.int l1), some (.int l2), some (.int l3), some (.int l4), some (.int l5), some (.int l6), some (.int ((up2 S 148 0 (if l6 = 0 then 1 else (if (S 148 1) = 24 then 2 else 0 : Int32) : Int32)) 149 ((up2 S 148 0 (if l6 = 0 then 1 else (if (S 148 1) = 24 then 2 else 0 : Int32) : Int32)) 148 1).toNatClampNeg)), some (.int ((up2 S 148 0 (if l6 = 0 then 1 else (if (S 148 1) = 24 then 2 else 0 : Int32) : Int32)) 150 ((4 * ((up2 S 148 0 (if l6 = 0 then 1 else (if (S 148 1) = 24 then 2 else 0 : Int32) : Int32)) 148 1)) + 0).toNatClampNeg)), some (.int ((up2 S 148 0 (if l6 = 0 then 1 else (if (S 148 1) = 24 then 2 else 0 : Int32) : Int32)) 150 ((4 * ((up2 S 148 0 (if l6 = 0 then 1 else (if (S 148 1) = 24 then 2 else 0 : Int32) : Int32)) 148 1)) + 1).toNatClampNeg)), some (.int ((up2 S 148 0 (if l6 = 0 then 1 else (if (S 148 1) = 24 then 2 else 0 : Int32) : Int32)) 150 ((4 * ((up2 S 148 0 (if l6 = 0 then 1 else (if (S 148 1) = 24 then 2 else 0 : Int32) : Int32)) 148 1)) + 2).toNatClampNeg)), some (.int ((up2 S 148 0 (if l6 = 0 then 1 else (if (S 148 1) = 24 then 2 else 0 : Int32) : Int32)) 150 ((4 * ((up2 S 148 0 (if l6 = 0 then 1 else (if (S 148 1) = 24 then 2 else 0 : Int32) : Int32)) 148 1)) + 3).toNatClampNeg))] [.int v, .int (if r1 ≤ 1 then 0 else l3 : Int32), .int l2, .int l1, .ref 148] (S3, G) (Qi G post noEx) := by
          intro v hv
          subst hv
          refine z_iload_n rfl rfl ?_
          refine z_csi (M' := M_r_argumentsOf) [.int l1] hx rfl w_725 cs_r_argumentsOf rfl rfl rfl (zr_argumentsOf hx hG hw) ?_ (fun _ _ hf => hf.elim)
          clear hw
          intro r3 S4 hw
          refine z_iconst 3 rfl rfl ?_
          have hj224 : ∀ v : Int32, v = (if r3 ≤ 3 then 0 else l5 : Int32) → Z g M_r_commit 0 0 233 [some (.ref 148), some (.int l1), some (.int l2), some (.int l3), some (.int l4), some (.int l5), some (.int l6), some (.int ((up2 S 148 0 (if l6 = 0 then 1 else (if (S 148 1) = 24 then 2 else 0 : Int32) : Int32)) 149 ((up2 S 148 0 (if l6 = 0 then 1 else (if (S 148 1) = 24 then 2 else 0 : Int32) : Int32)) 148 1).toNatClampNeg)), some (.int ((up2 S 148 0 (if l6 = 0 then 1 else (if (S 148 1) = 24 then 2 else 0 : Int32) : Int32)) 150 ((4 * ((up2 S 148 0 (if l6 = 0 then 1 else (if (S 148 1) = 24 then 2 else 0 : Int32) : Int32)) 148 1)) + 0).toNatClampNeg)), some (.int ((up2 S 148 0 (if l6 = 0 then 1 else (if (S 148 1) = 24 then 2 else 0 : Int32) : Int32)) 150 ((4 * ((up2 S 148 0 (if l6 = 0 then 1 else (if (S 148 1) = 24 then 2 else 0 : Int32) : Int32)) 148 1)) + 1).toNatClampNeg)), some (.int ((up2 S 148 0 (if l6 = 0 then 1 else (if (S 148 1) = 24 then 2 else 0 : Int32) : Int32)) 150 ((4 * ((up2 S 148 0 (if l6 = 0 then 1 else (if (S 148 1) = 24 then 2 else 0 : Int32) : Int32)) 148 1)) + 2).toNatClampNeg)), some (.int ((up2 S 148 0 (if l6 = 0 then 1 else (if (S 148 1) = 24 then 2 else 0 : Int32) : Int32)) 150 ((4 * ((up2 S 148 0 (if l6 = 0 then 1 else (if (S 148 1) = 24 then 2 else 0 : Int32) : Int32)) 148 1)) + 3).toNatClampNeg))] [.int v, .int (if r2 ≤ 2 then 0 else l4 : Int32), .int (if r1 ≤ 1 then 0 else l3 : Int32), .int l2, .int l1, .ref 148] (S4, G) (Qi G post noEx) := by
            intro v hv
            subst hv
            refine z_cvv (M' := M_r_lay4) [.int l1, .int l2, .int (if r1 ≤ 1 then 0 else l3 : Int32), .int (if r2 ≤ 2 then 0 else l4 : Int32), .int (if r3 ≤ 3 then 0 else l5 : Int32)] hx rfl w_738 cv_r_lay4 hG.1 (by decide) rfl rfl rfl rfl (zr_lay4 hx hG hw) ?_ (fun _ _ hf => hf.elim)
            clear hw
            intro S5 hw
            refine z_aload_n rfl rfl ?_
            refine z_dup rfl rfl ?_
            refine z_geti (ci := 7) 1 rfl hG.1 rfl w_659 ?_
            refine z_iconst 1 rfl rfl ?_
            refine z_iadd rfl ?_
            replace hw := hw _ rfl
            refine z_puti (ci := 7) 1 rfl hG.1 rfl w_659 rfl rfl rfl ?_
            refine z_aload_n rfl rfl ?_
            refine z_iconst (-1) rfl rfl ?_
            refine z_cvv (M' := M_r_goThrough) [.int (-1)] hx rfl w_742 cv_r_goThrough hG.1 (by decide) rfl rfl rfl rfl (zr_goThrough hx hG hw) ?_ (fun _ _ hf => hf.elim)
            clear hw
            intro S7 hw
            refine z_aload_n rfl rfl ?_
            refine z_getr (ci := 7) 5 rfl hG.1 rfl w_663 hG.2.2.2.2.2.2.2.1 ?_
            refine z_aload_n rfl rfl ?_
            refine z_geti (ci := 7) 1 rfl hG.1 rfl w_659 ?_
            refine z_iconst 1 rfl rfl ?_
            refine z_isub rfl ?_
            obtain ⟨hc6, hw⟩ := hw
            refine z_iald (((S7 148 1) - 1).toNatClampNeg) rfl hG.2.2.2.2.2.2.2.2.1 hc6 rfl ?_
            refine z_iconst 1 rfl rfl ?_
            refine z_icmp_eq rfl (fun hq => ?_) (fun hq => ?_)
            · replace hw := hw.1 hq
              refine z_aload_n rfl rfl ?_
              refine z_iconst 0 rfl rfl ?_
              refine z_aload_n rfl rfl ?_
              refine z_geti (ci := 7) 1 rfl hG.1 rfl w_659 ?_
              refine z_iconst 1 rfl rfl ?_
              refine z_isub rfl ?_
              refine z_iconst 0 rfl rfl ?_
              refine z_iconst 0 rfl rfl ?_
              refine z_iconst 0 rfl rfl ?_
              refine z_cvv (M' := M_r_note) [.int 0, .int ((S7 148 1) - 1), .int 0, .int 0, .int 0] hx rfl w_847 cv_r_note hG.1 (by decide) rfl rfl rfl rfl (zr_note hx hG hw) ?_ (fun _ _ hf => hf.elim)
              clear hw
              intro S8 hw
              refine z_aload_n rfl rfl ?_
              refine z_geti (ci := 7) 1 rfl hG.1 rfl w_659 ?_
              refine z_iconst 1 rfl rfl ?_
              refine z_isub rfl ?_
              exact z_iret rfl rfl rfl rfl (Or.inl ⟨_, _, rfl, rfl, hw⟩)
            · replace hw := hw.2 hq
              refine z_aload_n rfl rfl ?_
              refine z_dup rfl rfl ?_
              refine z_geti (ci := 7) 1 rfl hG.1 rfl w_659 ?_
              refine z_iconst 1 rfl rfl ?_
              refine z_isub rfl ?_
              replace hw := hw _ rfl
              refine z_puti (ci := 7) 1 rfl hG.1 rfl w_659 rfl rfl rfl ?_
              refine z_aload_n rfl rfl ?_
              refine z_iload rfl rfl ?_
              refine z_iload rfl rfl ?_
              refine z_iload rfl rfl ?_
              refine z_iload rfl rfl ?_
              refine z_iload rfl rfl ?_
              refine z_cvv (M' := M_r_lay4) [.int ((up2 S 148 0 (if l6 = 0 then 1 else (if (S 148 1) = 24 then 2 else 0 : Int32) : Int32)) 149 ((up2 S 148 0 (if l6 = 0 then 1 else (if (S 148 1) = 24 then 2 else 0 : Int32) : Int32)) 148 1).toNatClampNeg), .int ((up2 S 148 0 (if l6 = 0 then 1 else (if (S 148 1) = 24 then 2 else 0 : Int32) : Int32)) 150 ((4 * ((up2 S 148 0 (if l6 = 0 then 1 else (if (S 148 1) = 24 then 2 else 0 : Int32) : Int32)) 148 1)) + 0).toNatClampNeg), .int ((up2 S 148 0 (if l6 = 0 then 1 else (if (S 148 1) = 24 then 2 else 0 : Int32) : Int32)) 150 ((4 * ((up2 S 148 0 (if l6 = 0 then 1 else (if (S 148 1) = 24 then 2 else 0 : Int32) : Int32)) 148 1)) + 1).toNatClampNeg), .int ((up2 S 148 0 (if l6 = 0 then 1 else (if (S 148 1) = 24 then 2 else 0 : Int32) : Int32)) 150 ((4 * ((up2 S 148 0 (if l6 = 0 then 1 else (if (S 148 1) = 24 then 2 else 0 : Int32) : Int32)) 148 1)) + 2).toNatClampNeg), .int ((up2 S 148 0 (if l6 = 0 then 1 else (if (S 148 1) = 24 then 2 else 0 : Int32) : Int32)) 150 ((4 * ((up2 S 148 0 (if l6 = 0 then 1 else (if (S 148 1) = 24 then 2 else 0 : Int32) : Int32)) 148 1)) + 3).toNatClampNeg)] hx rfl w_738 cv_r_lay4 hG.1 (by decide) rfl rfl rfl rfl (zr_lay4 hx hG hw) ?_ (fun _ _ hf => hf.elim)
              clear hw
              intro S10 hw
              refine z_aload_n rfl rfl ?_
              refine z_iconst (-1) rfl rfl ?_
              refine z_cvv (M' := M_r_goThrough) [.int (-1)] hx rfl w_742 cv_r_goThrough hG.1 (by decide) rfl rfl rfl rfl (zr_goThrough hx hG hw) ?_ (fun _ _ hf => hf.elim)
              clear hw
              intro S11 hw
              refine z_aload_n rfl rfl ?_
              refine z_iconst 2 rfl rfl ?_
              replace hw := hw _ rfl
              refine z_puti (ci := 7) 0 rfl hG.1 rfl w_658 rfl rfl rfl ?_
              refine z_iconst 0 rfl rfl ?_
              exact z_iret rfl rfl rfl rfl (Or.inl ⟨_, _, rfl, rfl, hw⟩)
          refine z_icmp_le rfl (fun hp224 => ?_) (fun hp224 => ?_)
          · refine z_iconst 0 rfl rfl ?_
            exact hj224 _ (by rw [if_pos hp224])
          · refine z_iload rfl rfl ?_
            refine z_goto rfl ?_
            exact hj224 _ (by rw [if_neg hp224])
        refine z_icmp_le rfl (fun hp210 => ?_) (fun hp210 => ?_)
        · refine z_iconst 0 rfl rfl ?_
          exact hj210 _ (by rw [if_pos hp210])
        · refine z_iload rfl rfl ?_
          refine z_goto rfl ?_
          exact hj210 _ (by rw [if_neg hp210])
      refine z_icmp_le rfl (fun hp197 => ?_) (fun hp197 => ?_)
      · refine z_iconst 0 rfl rfl ?_
        exact hj197 _ (by rw [if_pos hp197])
      · refine z_iload_n rfl rfl ?_
        refine z_goto rfl ?_
        exact hj197 _ (by rw [if_neg hp197])
    · replace hw := hw.2 hq
      refine z_iconst 0 rfl rfl ?_
      exact z_iret rfl rfl rfl rfl (Or.inl ⟨_, _, rfl, rfl, hw⟩)
  refine z_if_ne rfl (fun hp101 => ?_) (fun hp101 => ?_)
  · refine z_aload_n rfl rfl ?_
    refine z_geti (ci := 7) 1 rfl hG.1 rfl w_659 ?_
    refine z_bipush 24 rfl rfl ?_
    refine z_icmp_ne rfl (fun hp114 => ?_) (fun hp114 => ?_)
    · refine z_iconst 0 rfl rfl ?_
      exact hj101 _ (by rw [if_neg hp101, if_neg hp114])
    · refine z_iconst 2 rfl rfl ?_
      refine z_goto rfl ?_
      exact hj101 _ (by rw [if_neg hp101, if_pos hp114])
  · refine z_iconst 1 rfl rfl ?_
    refine z_goto rfl ?_
    exact hj101 _ (by rw [if_pos hp101])
def r_commit_L20 (post : Int32 → Mem → Prop)  : Nat → Mem → Int32 → Int32 → Int32 → Int32 → Int32 → Int32 → Int32 → Prop
  | 0, _, _, _, _, _, _, _, _ => False
  | n + 1, S, l1, l2, l3, l4, l5, l6, l7 =>
  ((4 ≤ l7) →
   r_commit_J98 post S l1 l2 l3 l4 l5 l6) ∧
  ((¬ 4 ≤ l7) →
   ((l6 = 0) →
    r_commit_J98 post S l1 l2 l3 l4 l5 l6) ∧
   ((¬ l6 = 0) →
    r_argumentsOf (fun r1 S1 =>
     ((r1 ≤ l7) →
      r_commit_L20 post n S1 l1 l2 l3 l4 l5 1 (l7 + 1)) ∧
     ((¬ r1 ≤ l7) →
      r_isArgument (fun r2 S2 =>
       ((r2 = 0) →
        r_commit_L20 post n S2 l1 l2 l3 l4 l5 0 (l7 + 1)) ∧
       ((¬ r2 = 0) →
        r_commit_L20 post n S2 l1 l2 l3 l4 l5 1 (l7 + 1))) S1 l1 l7 (if l7 = 0 then l2 else (if l7 = 1 then l3 else (if l7 = 2 then l4 else l5 : Int32) : Int32) : Int32))) S l1))
set_option maxRecDepth 100000 in
set_option maxHeartbeats 1000000 in
theorem zr_commit_L20 {g : Gm} {G : Gp} {post : Int32 → Mem → Prop} (hx : G.2.2.2 = false) (hG : isR G) : ∀ (n : Nat) {S : Mem} {l1 : Int32} {l2 : Int32} {l3 : Int32} {l4 : Int32} {l5 : Int32} {l6 : Int32} {l7 : Int32} , r_commit_L20 post n S l1 l2 l3 l4 l5 l6 l7 → Z g M_r_commit 0 0 20 [some (.ref 148), some (.int l1), some (.int l2), some (.int l3), some (.int l4), some (.int l5), some (.int l6), some (.int l7), none, none, none, none] [] (S, G) (Qi G post noEx) := by
  intro n
  induction n with
  | zero =>
    intros
    rename_i hw
    exact hw.elim
  | succ n ih =>
    intro S l1 l2 l3 l4 l5 l6 l7 hw
    rw [r_commit_L20] at hw
    refine z_iload rfl rfl ?_
    refine z_iconst 4 rfl rfl ?_
    refine z_icmp_ge rfl (fun hq => ?_) (fun hq => ?_)
    · replace hw := hw.1 hq
      refine Z.forget' [some (.ref 148), some (.int l1), some (.int l2), some (.int l3), some (.int l4), some (.int l5), some (.int l6), none, none, none, none, none] ⟨rfl, ⟨rfl, ⟨rfl, ⟨rfl, ⟨rfl, ⟨rfl, ⟨rfl, trivial⟩⟩⟩⟩⟩⟩⟩ ?_
      exact zr_commit_J98 hx hG hw
    · replace hw := hw.2 hq
      refine z_iload rfl rfl ?_
      refine z_if_eq rfl (fun hq => ?_) (fun hq => ?_)
      · replace hw := hw.1 hq
        refine Z.forget' [some (.ref 148), some (.int l1), some (.int l2), some (.int l3), some (.int l4), some (.int l5), some (.int l6), none, none, none, none, none] ⟨rfl, ⟨rfl, ⟨rfl, ⟨rfl, ⟨rfl, ⟨rfl, ⟨rfl, trivial⟩⟩⟩⟩⟩⟩⟩ ?_
        exact zr_commit_J98 hx hG hw
      · replace hw := hw.2 hq
        refine z_iload rfl rfl ?_
        have hj33 : ∀ v : Int32, v = (if l7 = 0 then l2 else (if l7 = 1 then l3 else (if l7 = 2 then l4 else l5 : Int32) : Int32) : Int32) → Z g M_r_commit 0 0 63 [some (.ref 148), some (.int l1), some (.int l2), some (.int l3), some (.int l4), some (.int l5), some (.int l6), some (.int l7), none, none, none, none] [.int v] (S, G) (Qi G post noEx) := by
          intro v hv
          subst hv
          refine z_istore [some (.ref 148), some (.int l1), some (.int l2), some (.int l3), some (.int l4), some (.int l5), some (.int l6), some (.int l7), some (.int (if l7 = 0 then l2 else (if l7 = 1 then l3 else (if l7 = 2 then l4 else l5 : Int32) : Int32) : Int32)), none, none, none] rfl rfl rfl ?_
          refine z_iload rfl rfl ?_
          refine z_iload_n rfl rfl ?_
          refine z_csi (M' := M_r_argumentsOf) [.int l1] hx rfl w_725 cs_r_argumentsOf rfl rfl rfl (zr_argumentsOf hx hG hw) ?_ (fun _ _ hf => hf.elim)
          clear hw
          intro r1 S1 hw
          refine z_icmp_ge rfl (fun hq => ?_) (fun hq => ?_)
          · replace hw := hw.1 hq
            refine z_iconst 1 rfl rfl ?_
            refine z_goto rfl ?_
            refine z_istore [some (.ref 148), some (.int l1), some (.int l2), some (.int l3), some (.int l4), some (.int l5), some (.int 1), some (.int l7), some (.int (if l7 = 0 then l2 else (if l7 = 1 then l3 else (if l7 = 2 then l4 else l5 : Int32) : Int32) : Int32)), none, none, none] rfl rfl rfl ?_
            refine z_iinc 1 [some (.ref 148), some (.int l1), some (.int l2), some (.int l3), some (.int l4), some (.int l5), some (.int 1), some (.int (l7 + 1)), some (.int (if l7 = 0 then l2 else (if l7 = 1 then l3 else (if l7 = 2 then l4 else l5 : Int32) : Int32) : Int32)), none, none, none] rfl rfl rfl rfl ?_
            refine z_goto rfl ?_
            refine Z.forget' [some (.ref 148), some (.int l1), some (.int l2), some (.int l3), some (.int l4), some (.int l5), some (.int 1), some (.int (l7 + 1)), none, none, none, none] ⟨rfl, ⟨rfl, ⟨rfl, ⟨rfl, ⟨rfl, ⟨rfl, ⟨rfl, ⟨rfl, trivial⟩⟩⟩⟩⟩⟩⟩⟩ ?_
            exact ih hw
          · replace hw := hw.2 hq
            refine z_iload_n rfl rfl ?_
            refine z_iload rfl rfl ?_
            refine z_iload rfl rfl ?_
            refine z_csi (M' := M_r_isArgument) [.int l1, .int l7, .int (if l7 = 0 then l2 else (if l7 = 1 then l3 else (if l7 = 2 then l4 else l5 : Int32) : Int32) : Int32)] hx rfl w_728 cs_r_isArgument rfl rfl rfl (zr_isArgument hx hG hw) ?_ (fun _ _ hf => hf.elim)
            clear hw
            intro r2 S2 hw
            refine z_if_eq rfl (fun hq => ?_) (fun hq => ?_)
            · replace hw := hw.1 hq
              refine z_iconst 0 rfl rfl ?_
              refine z_istore [some (.ref 148), some (.int l1), some (.int l2), some (.int l3), some (.int l4), some (.int l5), some (.int 0), some (.int l7), some (.int (if l7 = 0 then l2 else (if l7 = 1 then l3 else (if l7 = 2 then l4 else l5 : Int32) : Int32) : Int32)), none, none, none] rfl rfl rfl ?_
              refine z_iinc 1 [some (.ref 148), some (.int l1), some (.int l2), some (.int l3), some (.int l4), some (.int l5), some (.int 0), some (.int (l7 + 1)), some (.int (if l7 = 0 then l2 else (if l7 = 1 then l3 else (if l7 = 2 then l4 else l5 : Int32) : Int32) : Int32)), none, none, none] rfl rfl rfl rfl ?_
              refine z_goto rfl ?_
              refine Z.forget' [some (.ref 148), some (.int l1), some (.int l2), some (.int l3), some (.int l4), some (.int l5), some (.int 0), some (.int (l7 + 1)), none, none, none, none] ⟨rfl, ⟨rfl, ⟨rfl, ⟨rfl, ⟨rfl, ⟨rfl, ⟨rfl, ⟨rfl, trivial⟩⟩⟩⟩⟩⟩⟩⟩ ?_
              exact ih hw
            · replace hw := hw.2 hq
              refine z_iconst 1 rfl rfl ?_
              refine z_goto rfl ?_
              refine z_istore [some (.ref 148), some (.int l1), some (.int l2), some (.int l3), some (.int l4), some (.int l5), some (.int 1), some (.int l7), some (.int (if l7 = 0 then l2 else (if l7 = 1 then l3 else (if l7 = 2 then l4 else l5 : Int32) : Int32) : Int32)), none, none, none] rfl rfl rfl ?_
              refine z_iinc 1 [some (.ref 148), some (.int l1), some (.int l2), some (.int l3), some (.int l4), some (.int l5), some (.int 1), some (.int (l7 + 1)), some (.int (if l7 = 0 then l2 else (if l7 = 1 then l3 else (if l7 = 2 then l4 else l5 : Int32) : Int32) : Int32)), none, none, none] rfl rfl rfl rfl ?_
              refine z_goto rfl ?_
              refine Z.forget' [some (.ref 148), some (.int l1), some (.int l2), some (.int l3), some (.int l4), some (.int l5), some (.int 1), some (.int (l7 + 1)), none, none, none, none] ⟨rfl, ⟨rfl, ⟨rfl, ⟨rfl, ⟨rfl, ⟨rfl, ⟨rfl, ⟨rfl, trivial⟩⟩⟩⟩⟩⟩⟩⟩ ?_
              exact ih hw
        refine z_if_ne rfl (fun hp33 => ?_) (fun hp33 => ?_)
        · refine z_iload rfl rfl ?_
          refine z_iconst 1 rfl rfl ?_
          refine z_icmp_ne rfl (fun hp43 => ?_) (fun hp43 => ?_)
          · refine z_iload rfl rfl ?_
            refine z_iconst 2 rfl rfl ?_
            refine z_icmp_ne rfl (fun hp53 => ?_) (fun hp53 => ?_)
            · refine z_iload rfl rfl ?_
              exact hj33 _ (by rw [if_neg hp33, if_neg hp43, if_neg hp53])
            · refine z_iload rfl rfl ?_
              refine z_goto rfl ?_
              exact hj33 _ (by rw [if_neg hp33, if_neg hp43, if_pos hp53])
          · refine z_iload_n rfl rfl ?_
            refine z_goto rfl ?_
            exact hj33 _ (by rw [if_neg hp33, if_pos hp43])
        · refine z_iload_n rfl rfl ?_
          refine z_goto rfl ?_
          exact hj33 _ (by rw [if_pos hp33])
def r_commit (post : Int32 → Mem → Prop) (S : Mem) (l1 : Int32) (l2 : Int32) (l3 : Int32) (l4 : Int32) (l5 : Int32) : Prop :=
  ∃ n, r_commit_L20 post n S l1 l2 l3 l4 l5 (if l1 < 0 then 0 else (if 9 < l1 then 0 else 1 : Int32) : Int32) 0
set_option maxRecDepth 100000 in
set_option maxHeartbeats 1000000 in
theorem zr_commit {g : Gm} {G : Gp} {S : Mem} {post : Int32 → Mem → Prop} {l1 : Int32} {l2 : Int32} {l3 : Int32} {l4 : Int32} {l5 : Int32} (hx : G.2.2.2 = false) (hG : isR G) (hw : r_commit post S l1 l2 l3 l4 l5) : Z g M_r_commit 0 0 0 (entryL [.ref 148, .int l1, .int l2, .int l3, .int l4, .int l5] (mL M_r_commit)) [] (S, G) (Qi G post noEx) := by
  unfold r_commit at hw
  show Z g M_r_commit 0 0 0 [some (.ref 148), some (.int l1), some (.int l2), some (.int l3), some (.int l4), some (.int l5), none, none, none, none, none, none] [] (S, G) (Qi G post noEx)
  refine z_iload_n rfl rfl ?_
  have hj1 : ∀ v : Int32, v = (if l1 < 0 then 0 else (if 9 < l1 then 0 else 1 : Int32) : Int32) → Z g M_r_commit 0 0 15 [some (.ref 148), some (.int l1), some (.int l2), some (.int l3), some (.int l4), some (.int l5), none, none, none, none, none, none] [.int v] (S, G) (Qi G post noEx) := by
    intro v hv
    subst hv
    refine z_istore [some (.ref 148), some (.int l1), some (.int l2), some (.int l3), some (.int l4), some (.int l5), some (.int (if l1 < 0 then 0 else (if 9 < l1 then 0 else 1 : Int32) : Int32)), none, none, none, none, none] rfl rfl rfl ?_
    refine z_iconst 0 rfl rfl ?_
    refine z_istore [some (.ref 148), some (.int l1), some (.int l2), some (.int l3), some (.int l4), some (.int l5), some (.int (if l1 < 0 then 0 else (if 9 < l1 then 0 else 1 : Int32) : Int32)), some (.int 0), none, none, none, none] rfl rfl rfl ?_
    refine Z.forget' [some (.ref 148), some (.int l1), some (.int l2), some (.int l3), some (.int l4), some (.int l5), some (.int (if l1 < 0 then 0 else (if 9 < l1 then 0 else 1 : Int32) : Int32)), some (.int 0), none, none, none, none] ⟨rfl, ⟨rfl, ⟨rfl, ⟨rfl, ⟨rfl, ⟨rfl, ⟨rfl, ⟨rfl, trivial⟩⟩⟩⟩⟩⟩⟩⟩ ?_
    obtain ⟨n, hw⟩ := hw
    exact zr_commit_L20 hx hG n hw
  refine z_if_lt rfl (fun hp1 => ?_) (fun hp1 => ?_)
  · refine z_iconst 0 rfl rfl ?_
    exact hj1 _ (by rw [if_pos hp1])
  · refine z_iload_n rfl rfl ?_
    refine z_bipush 9 rfl rfl ?_
    refine z_icmp_gt rfl (fun hp7 => ?_) (fun hp7 => ?_)
    · refine z_iconst 0 rfl rfl ?_
      exact hj1 _ (by rw [if_neg hp1, if_pos hp7])
    · refine z_iconst 1 rfl rfl ?_
      refine z_goto rfl ?_
      exact hj1 _ (by rw [if_neg hp1, if_neg hp7])
def r_isAction (post : Int32 → Mem → Prop) (S : Mem) (l1 : Int32) : Prop :=
  vp_nar .boolean (if l1 < 0 then 0 else (if (S 148 1) ≤ l1 then 0 else 1 : Int32) : Int32) = (if l1 < 0 then 0 else (if (S 148 1) ≤ l1 then 0 else 1 : Int32) : Int32) ∧ post (if l1 < 0 then 0 else (if (S 148 1) ≤ l1 then 0 else 1 : Int32) : Int32) S
set_option maxRecDepth 100000 in
set_option maxHeartbeats 1000000 in
theorem zr_isAction {g : Gm} {G : Gp} {S : Mem} {post : Int32 → Mem → Prop} {l1 : Int32} (hx : G.2.2.2 = false) (hG : isR G) (hw : r_isAction post S l1) : Z g M_r_isAction 0 0 0 (entryL [.ref 148, .int l1] (mL M_r_isAction)) [] (S, G) (Qi G post noEx) := by
  unfold r_isAction at hw
  show Z g M_r_isAction 0 0 0 [some (.ref 148), some (.int l1)] [] (S, G) (Qi G post noEx)
  refine z_iload_n rfl rfl ?_
  have hj1 : ∀ v : Int32, v = (if l1 < 0 then 0 else (if (S 148 1) ≤ l1 then 0 else 1 : Int32) : Int32) → Z g M_r_isAction 0 0 17 [some (.ref 148), some (.int l1)] [.int v] (S, G) (Qi G post noEx) := by
    intro v hv
    subst hv
    obtain ⟨hc1, hw⟩ := hw
    exact z_zret rfl rfl (nar_of hc1) rfl rfl (Or.inl ⟨_, _, rfl, rfl, hw⟩)
  refine z_if_lt rfl (fun hp1 => ?_) (fun hp1 => ?_)
  · refine z_iconst 0 rfl rfl ?_
    exact hj1 _ (by rw [if_pos hp1])
  · refine z_iload_n rfl rfl ?_
    refine z_aload_n rfl rfl ?_
    refine z_geti (ci := 7) 1 rfl hG.1 rfl w_659 ?_
    refine z_icmp_ge rfl (fun hp9 => ?_) (fun hp9 => ?_)
    · refine z_iconst 0 rfl rfl ?_
      exact hj1 _ (by rw [if_neg hp1, if_pos hp9])
    · refine z_iconst 1 rfl rfl ?_
      refine z_goto rfl ?_
      exact hj1 _ (by rw [if_neg hp1, if_neg hp9])
end
section
def r_turn (post : Int32 → Mem → Prop) (S : Mem) (l1 : Int32) (l2 : Int32) : Prop :=
  r_isAction (fun r1 S1 =>
   ((¬ r1 = 0 → (vp_in l1 24))) ∧ 
   ∀ S2, S2 = up2 S1 148 0 (if r1 = 0 then 1 else (if (S1 151 l1.toNatClampNeg) = l2 then 2 else 0 : Int32) : Int32) → (((S2 148 0) ≤ 0) →
    r_remember (fun S3 =>
     (vp_in l1 24) ∧ ∀ S4, S4 = up2 S3 151 l1.toNatClampNeg (vp_nar .boolean l2) → r_goThrough (fun S5 =>
      r_note (fun S6 =>
       r_others (fun r5 S7 =>
        post r5 S7) S6 l1) S5 (if l2 = 0 then 2 else 1 : Int32) l1 0 0 0) S4 (-1)) S2 ) ∧
   ((¬ (S2 148 0) ≤ 0) →
    post 0 S2)) S l1
set_option maxRecDepth 100000 in
set_option maxHeartbeats 1000000 in
theorem zr_turn {g : Gm} {G : Gp} {S : Mem} {post : Int32 → Mem → Prop} {l1 : Int32} {l2 : Int32} (hx : G.2.2.2 = false) (hG : isR G) (hw : r_turn post S l1 l2) : Z g M_r_turn 0 0 0 (entryL [.ref 148, .int l1, .int l2] (mL M_r_turn)) [] (S, G) (Qi G post noEx) := by
  unfold r_turn at hw
  show Z g M_r_turn 0 0 0 [some (.ref 148), some (.int l1), some (.int l2)] [] (S, G) (Qi G post noEx)
  refine z_aload_n rfl rfl ?_
  refine z_aload_n rfl rfl ?_
  refine z_iload_n rfl rfl ?_
  refine z_cvi (M' := M_r_isAction) [.int l1] hx rfl w_859 cv_r_isAction hG.1 (by decide) rfl rfl rfl rfl (zr_isAction hx hG hw) ?_ (fun _ _ hf => hf.elim)
  clear hw
  intro r1 S1 hw
  obtain ⟨hc3, hw⟩ := hw
  have hj6 : ∀ v : Int32, v = (if r1 = 0 then 1 else (if (S1 151 l1.toNatClampNeg) = l2 then 2 else 0 : Int32) : Int32) → Z g M_r_turn 0 0 28 [some (.ref 148), some (.int l1), some (.int l2)] [.int v, .ref 148] (S1, G) (Qi G post noEx) := by
    intro v hv
    subst hv
    replace hw := hw _ rfl
    refine z_puti (ci := 7) 0 rfl hG.1 rfl w_658 rfl rfl rfl ?_
    refine z_aload_n rfl rfl ?_
    refine z_geti (ci := 7) 0 rfl hG.1 rfl w_658 ?_
    refine z_if_le rfl (fun hq => ?_) (fun hq => ?_)
    · replace hw := hw.1 hq
      refine z_aload_n rfl rfl ?_
      refine z_cvv (M' := M_r_remember) [] hx rfl w_863 cv_r_remember hG.1 (by decide) rfl rfl rfl rfl (zr_remember hx hG hw) ?_ (fun _ _ hf => hf.elim)
      clear hw
      intro S3 hw
      refine z_aload_n rfl rfl ?_
      refine z_getr (ci := 7) 4 rfl hG.1 rfl w_662 hG.2.2.2.2.2.1 ?_
      refine z_iload_n rfl rfl ?_
      refine z_iload_n rfl rfl ?_
      obtain ⟨hc1, hw⟩ := hw
      replace hw := hw _ rfl
      refine z_zast (l1.toNatClampNeg) rfl hG.2.2.2.2.2.2.1 hc1 rfl ?_
      refine z_aload_n rfl rfl ?_
      refine z_iconst (-1) rfl rfl ?_
      refine z_cvv (M' := M_r_goThrough) [.int (-1)] hx rfl w_742 cv_r_goThrough hG.1 (by decide) rfl rfl rfl rfl (zr_goThrough hx hG hw) ?_ (fun _ _ hf => hf.elim)
      clear hw
      intro S5 hw
      refine z_aload_n rfl rfl ?_
      refine z_iload_n rfl rfl ?_
      have hj58 : ∀ v : Int32, v = (if l2 = 0 then 2 else 1 : Int32) → Z g M_r_turn 0 0 66 [some (.ref 148), some (.int l1), some (.int l2)] [.int v, .ref 148] (S5, G) (Qi G post noEx) := by
        intro v hv
        subst hv
        refine z_iload_n rfl rfl ?_
        refine z_iconst 0 rfl rfl ?_
        refine z_iconst 0 rfl rfl ?_
        refine z_iconst 0 rfl rfl ?_
        refine z_cvv (M' := M_r_note) [.int (if l2 = 0 then 2 else 1 : Int32), .int l1, .int 0, .int 0, .int 0] hx rfl w_847 cv_r_note hG.1 (by decide) rfl rfl rfl rfl (zr_note hx hG hw) ?_ (fun _ _ hf => hf.elim)
        clear hw
        intro S6 hw
        refine z_aload_n rfl rfl ?_
        refine z_iload_n rfl rfl ?_
        refine z_cvi (M' := M_r_others) [.int l1] hx rfl w_867 cv_r_others hG.1 (by decide) rfl rfl rfl rfl (zr_others hx hG hw) ?_ (fun _ _ hf => hf.elim)
        clear hw
        intro r5 S7 hw
        exact z_iret rfl rfl rfl rfl (Or.inl ⟨_, _, rfl, rfl, hw⟩)
      refine z_if_eq rfl (fun hp58 => ?_) (fun hp58 => ?_)
      · refine z_iconst 2 rfl rfl ?_
        exact hj58 _ (by rw [if_pos hp58])
      · refine z_iconst 1 rfl rfl ?_
        refine z_goto rfl ?_
        exact hj58 _ (by rw [if_neg hp58])
    · replace hw := hw.2 hq
      refine z_iconst 0 rfl rfl ?_
      exact z_iret rfl rfl rfl rfl (Or.inl ⟨_, _, rfl, rfl, hw⟩)
  refine z_if_ne rfl (fun hp6 => ?_) (fun hp6 => ?_)
  · refine z_aload_n rfl rfl ?_
    refine z_getr (ci := 7) 4 rfl hG.1 rfl w_662 hG.2.2.2.2.2.1 ?_
    refine z_iload_n rfl rfl ?_
    refine z_zald (l1.toNatClampNeg) rfl hG.2.2.2.2.2.2.1 (hc3 hp6) rfl ?_
    refine z_iload_n rfl rfl ?_
    refine z_icmp_ne rfl (fun hp20 => ?_) (fun hp20 => ?_)
    · refine z_iconst 0 rfl rfl ?_
      exact hj6 _ (by rw [if_neg hp6, if_neg hp20])
    · refine z_iconst 2 rfl rfl ?_
      refine z_goto rfl ?_
      exact hj6 _ (by rw [if_neg hp6, if_pos hp20])
  · refine z_iconst 1 rfl rfl ?_
    refine z_goto rfl ?_
    exact hj6 _ (by rw [if_pos hp6])
def r_withdraw (post : Int32 → Mem → Prop) (S : Mem) (l1 : Int32) : Prop :=
  r_turn (fun r1 S1 =>
   post r1 S1) S l1 1
set_option maxRecDepth 100000 in
set_option maxHeartbeats 1000000 in
theorem zr_withdraw {g : Gm} {G : Gp} {S : Mem} {post : Int32 → Mem → Prop} {l1 : Int32} (hx : G.2.2.2 = false) (hG : isR G) (hw : r_withdraw post S l1) : Z g M_r_withdraw 0 0 0 (entryL [.ref 148, .int l1] (mL M_r_withdraw)) [] (S, G) (Qi G post noEx) := by
  unfold r_withdraw at hw
  show Z g M_r_withdraw 0 0 0 [some (.ref 148), some (.int l1)] [] (S, G) (Qi G post noEx)
  refine z_aload_n rfl rfl ?_
  refine z_iload_n rfl rfl ?_
  refine z_iconst 1 rfl rfl ?_
  refine z_cvi (M' := M_r_turn) [.int l1, .int 1] hx rfl w_855 cv_r_turn hG.1 (by decide) rfl rfl rfl rfl (zr_turn hx hG hw) ?_ (fun _ _ hf => hf.elim)
  clear hw
  intro r1 S1 hw
  exact z_iret rfl rfl rfl rfl (Or.inl ⟨_, _, rfl, rfl, hw⟩)
def r_reinstate (post : Int32 → Mem → Prop) (S : Mem) (l1 : Int32) : Prop :=
  r_turn (fun r1 S1 =>
   post r1 S1) S l1 0
set_option maxRecDepth 100000 in
set_option maxHeartbeats 1000000 in
theorem zr_reinstate {g : Gm} {G : Gp} {S : Mem} {post : Int32 → Mem → Prop} {l1 : Int32} (hx : G.2.2.2 = false) (hG : isR G) (hw : r_reinstate post S l1) : Z g M_r_reinstate 0 0 0 (entryL [.ref 148, .int l1] (mL M_r_reinstate)) [] (S, G) (Qi G post noEx) := by
  unfold r_reinstate at hw
  show Z g M_r_reinstate 0 0 0 [some (.ref 148), some (.int l1)] [] (S, G) (Qi G post noEx)
  refine z_aload_n rfl rfl ?_
  refine z_iload_n rfl rfl ?_
  refine z_iconst 0 rfl rfl ?_
  refine z_cvi (M' := M_r_turn) [.int l1, .int 0] hx rfl w_855 cv_r_turn hG.1 (by decide) rfl rfl rfl rfl (zr_turn hx hG hw) ?_ (fun _ _ hf => hf.elim)
  clear hw
  intro r1 S1 hw
  exact z_iret rfl rfl rfl rfl (Or.inl ⟨_, _, rfl, rfl, hw⟩)
def r_amend_J53 (post : Int32 → Mem → Prop)  (S : Mem) (l1 : Int32) (l2 : Int32) (l3 : Int32) (k1 : Int32) : Prop :=
  ∀ S1, S1 = up2 S 148 0 k1 → (((S1 148 0) ≤ 0) →
   (vp_in ((4 * l1) + l2) 96) ∧ 
   (vp_in ((4 * l1) + l2) 96) ∧ ∀ S2, S2 = up2 S1 150 ((4 * l1) + l2).toNatClampNeg l3 → r_goThrough (fun S3 =>
    r_note (fun S4 =>
     post (S1 150 ((4 * l1) + l2).toNatClampNeg) S4) S3 3 l1 l2 (S1 150 ((4 * l1) + l2).toNatClampNeg) l3) S2 (-1)) ∧
  ((¬ (S1 148 0) ≤ 0) →
   post 0 S1)
set_option maxRecDepth 100000 in
set_option maxHeartbeats 1000000 in
theorem zr_amend_J53 {g : Gm} {G : Gp} {post : Int32 → Mem → Prop} (hx : G.2.2.2 = false) (hG : isR G) {S : Mem} {l1 : Int32} {l2 : Int32} {l3 : Int32} {k1 : Int32}  (hw : r_amend_J53 post S l1 l2 l3 k1) : Z g M_r_amend 0 0 53 [some (.ref 148), some (.int l1), some (.int l2), some (.int l3), none, none] [.int k1, .ref 148] (S, G) (Qi G post noEx) := by
  unfold r_amend_J53 at hw
  replace hw := hw _ rfl
  refine z_puti (ci := 7) 0 rfl hG.1 rfl w_658 rfl rfl rfl ?_
  refine z_aload_n rfl rfl ?_
  refine z_geti (ci := 7) 0 rfl hG.1 rfl w_658 ?_
  refine z_if_le rfl (fun hq => ?_) (fun hq => ?_)
  · replace hw := hw.1 hq
    refine z_aload_n rfl rfl ?_
    refine z_iload_n rfl rfl ?_
    refine z_iload_n rfl rfl ?_
    obtain ⟨hc1, hw⟩ := hw
    refine z_cvi (M' := M_r_arg) (post := fun v S' => ((up2 S 148 0 k1) 150 ((4 * l1) + l2).toNatClampNeg) = v ∧ (up2 S 148 0 k1) = S') [.int l1, .int l2] hx rfl w_734 cv_r_arg hG.1 (by decide) rfl rfl rfl rfl (zr_arg hx hG (⟨hc1, ⟨rfl, rfl⟩⟩)) ?_ (fun _ _ hf => hf.elim)
    rintro v S' ⟨rfl, rfl⟩
    refine z_istore [some (.ref 148), some (.int l1), some (.int l2), some (.int l3), none, some (.int ((up2 S 148 0 k1) 150 ((4 * l1) + l2).toNatClampNeg))] rfl rfl rfl ?_
    refine z_aload_n rfl rfl ?_
    refine z_getr (ci := 7) 3 rfl hG.1 rfl w_661 hG.2.2.2.1 ?_
    refine z_iconst 4 rfl rfl ?_
    refine z_iload_n rfl rfl ?_
    refine z_imul rfl ?_
    refine z_iload_n rfl rfl ?_
    refine z_iadd rfl ?_
    refine z_iload_n rfl rfl ?_
    obtain ⟨hc2, hw⟩ := hw
    replace hw := hw _ rfl
    refine z_iast (((4 * l1) + l2).toNatClampNeg) rfl hG.2.2.2.2.1 hc2 rfl ?_
    refine z_aload_n rfl rfl ?_
    refine z_iconst (-1) rfl rfl ?_
    refine z_cvv (M' := M_r_goThrough) [.int (-1)] hx rfl w_742 cv_r_goThrough hG.1 (by decide) rfl rfl rfl rfl (zr_goThrough hx hG hw) ?_ (fun _ _ hf => hf.elim)
    clear hw
    intro S3 hw
    refine z_aload_n rfl rfl ?_
    refine z_iconst 3 rfl rfl ?_
    refine z_iload_n rfl rfl ?_
    refine z_iload_n rfl rfl ?_
    refine z_iload rfl rfl ?_
    refine z_iload_n rfl rfl ?_
    refine z_cvv (M' := M_r_note) [.int 3, .int l1, .int l2, .int ((up2 S 148 0 k1) 150 ((4 * l1) + l2).toNatClampNeg), .int l3] hx rfl w_847 cv_r_note hG.1 (by decide) rfl rfl rfl rfl (zr_note hx hG hw) ?_ (fun _ _ hf => hf.elim)
    clear hw
    intro S4 hw
    refine z_iload rfl rfl ?_
    exact z_iret rfl rfl rfl rfl (Or.inl ⟨_, _, rfl, rfl, hw⟩)
  · replace hw := hw.2 hq
    refine z_iconst 0 rfl rfl ?_
    exact z_iret rfl rfl rfl rfl (Or.inl ⟨_, _, rfl, rfl, hw⟩)
def r_amend (post : Int32 → Mem → Prop) (S : Mem) (l1 : Int32) (l2 : Int32) (l3 : Int32) : Prop :=
  r_isAction (fun r1 S1 =>
   ((¬ r1 = 0) →
    ((l2 < 0) →
     r_amend_J53 post S1 l1 l2 l3 2) ∧
    ((¬ l2 < 0) →
     (vp_in l1 24) ∧ r_argumentsOf (fun r2 S2 =>
      ((r2 ≤ l2) →
       r_amend_J53 post S2 l1 l2 l3 2) ∧
      ((¬ r2 ≤ l2) →
       (vp_in l1 24) ∧ r_isArgument (fun r3 S3 =>
        ((¬ r3 = 0) →
         r_amend_J53 post S3 l1 l2 l3 0) ∧
        ((r3 = 0) →
         r_amend_J53 post S3 l1 l2 l3 2)) S2 (S2 149 l1.toNatClampNeg) l2 l3)) S1 (S1 149 l1.toNatClampNeg))) ∧
   ((r1 = 0) →
    r_amend_J53 post S1 l1 l2 l3 1)) S l1
set_option maxRecDepth 100000 in
set_option maxHeartbeats 1000000 in
theorem zr_amend {g : Gm} {G : Gp} {S : Mem} {post : Int32 → Mem → Prop} {l1 : Int32} {l2 : Int32} {l3 : Int32} (hx : G.2.2.2 = false) (hG : isR G) (hw : r_amend post S l1 l2 l3) : Z g M_r_amend 0 0 0 (entryL [.ref 148, .int l1, .int l2, .int l3] (mL M_r_amend)) [] (S, G) (Qi G post noEx) := by
  unfold r_amend at hw
  show Z g M_r_amend 0 0 0 [some (.ref 148), some (.int l1), some (.int l2), some (.int l3), none, none] [] (S, G) (Qi G post noEx)
  refine z_aload_n rfl rfl ?_
  refine z_iload_n rfl rfl ?_
  refine z_cvi (M' := M_r_isAction) [.int l1] hx rfl w_859 cv_r_isAction hG.1 (by decide) rfl rfl rfl rfl (zr_isAction hx hG hw) ?_ (fun _ _ hf => hf.elim)
  clear hw
  intro r1 S1 hw
  refine z_istore [some (.ref 148), some (.int l1), some (.int l2), some (.int l3), some (.int r1), none] rfl rfl rfl ?_
  refine z_aload_n rfl rfl ?_
  refine z_iload rfl rfl ?_
  refine z_if_ne rfl (fun hq => ?_) (fun hq => ?_)
  · replace hw := hw.1 hq
    refine z_iload_n rfl rfl ?_
    refine z_if_lt rfl (fun hq => ?_) (fun hq => ?_)
    · replace hw := hw.1 hq
      refine z_iconst 2 rfl rfl ?_
      refine z_goto rfl ?_
      refine Z.forget' [some (.ref 148), some (.int l1), some (.int l2), some (.int l3), none, none] ⟨rfl, ⟨rfl, ⟨rfl, ⟨rfl, trivial⟩⟩⟩⟩ ?_
      exact zr_amend_J53 hx hG hw
    · replace hw := hw.2 hq
      refine z_iload_n rfl rfl ?_
      refine z_aload_n rfl rfl ?_
      refine z_getr (ci := 7) 2 rfl hG.1 rfl w_660 hG.2.1 ?_
      refine z_iload_n rfl rfl ?_
      obtain ⟨hc1, hw⟩ := hw
      refine z_iald (l1.toNatClampNeg) rfl hG.2.2.1 hc1 rfl ?_
      refine z_csi (M' := M_r_argumentsOf) [.int (S1 149 l1.toNatClampNeg)] hx rfl w_725 cs_r_argumentsOf rfl rfl rfl (zr_argumentsOf hx hG hw) ?_ (fun _ _ hf => hf.elim)
      clear hw
      intro r2 S2 hw
      refine z_icmp_ge rfl (fun hq => ?_) (fun hq => ?_)
      · replace hw := hw.1 hq
        refine z_iconst 2 rfl rfl ?_
        refine z_goto rfl ?_
        refine Z.forget' [some (.ref 148), some (.int l1), some (.int l2), some (.int l3), none, none] ⟨rfl, ⟨rfl, ⟨rfl, ⟨rfl, trivial⟩⟩⟩⟩ ?_
        exact zr_amend_J53 hx hG hw
      · replace hw := hw.2 hq
        refine z_aload_n rfl rfl ?_
        refine z_getr (ci := 7) 2 rfl hG.1 rfl w_660 hG.2.1 ?_
        refine z_iload_n rfl rfl ?_
        obtain ⟨hc2, hw⟩ := hw
        refine z_iald (l1.toNatClampNeg) rfl hG.2.2.1 hc2 rfl ?_
        refine z_iload_n rfl rfl ?_
        refine z_iload_n rfl rfl ?_
        refine z_csi (M' := M_r_isArgument) [.int (S2 149 l1.toNatClampNeg), .int l2, .int l3] hx rfl w_728 cs_r_isArgument rfl rfl rfl (zr_isArgument hx hG hw) ?_ (fun _ _ hf => hf.elim)
        clear hw
        intro r3 S3 hw
        refine z_if_ne rfl (fun hq => ?_) (fun hq => ?_)
        · replace hw := hw.1 hq
          refine z_iconst 0 rfl rfl ?_
          refine Z.forget' [some (.ref 148), some (.int l1), some (.int l2), some (.int l3), none, none] ⟨rfl, ⟨rfl, ⟨rfl, ⟨rfl, trivial⟩⟩⟩⟩ ?_
          exact zr_amend_J53 hx hG hw
        · replace hw := hw.2 hq
          refine z_iconst 2 rfl rfl ?_
          refine z_goto rfl ?_
          refine Z.forget' [some (.ref 148), some (.int l1), some (.int l2), some (.int l3), none, none] ⟨rfl, ⟨rfl, ⟨rfl, ⟨rfl, trivial⟩⟩⟩⟩ ?_
          exact zr_amend_J53 hx hG hw
  · replace hw := hw.2 hq
    refine z_iconst 1 rfl rfl ?_
    refine z_goto rfl ?_
    refine Z.forget' [some (.ref 148), some (.int l1), some (.int l2), some (.int l3), none, none] ⟨rfl, ⟨rfl, ⟨rfl, ⟨rfl, trivial⟩⟩⟩⟩ ?_
    exact zr_amend_J53 hx hG hw
def r_carry_J123 (post : Int32 → Mem → Prop)  (S : Mem) (l3 : Int32) : Prop :=
  r_goThrough (fun S1 =>
   post l3 S1) S (-1)
set_option maxRecDepth 100000 in
set_option maxHeartbeats 1000000 in
theorem zr_carry_J123 {g : Gm} {G : Gp} {post : Int32 → Mem → Prop} (hx : G.2.2.2 = false) (hG : isR G) {S : Mem} {l3 : Int32}  (hw : r_carry_J123 post S l3) : Z g M_r_carry 0 0 123 [some (.ref 148), none, none, some (.int l3), none] [] (S, G) (Qi G post noEx) := by
  unfold r_carry_J123 at hw
  refine z_aload_n rfl rfl ?_
  refine z_iconst (-1) rfl rfl ?_
  refine z_cvv (M' := M_r_goThrough) [.int (-1)] hx rfl w_742 cv_r_goThrough hG.1 (by decide) rfl rfl rfl rfl (zr_goThrough hx hG hw) ?_ (fun _ _ hf => hf.elim)
  clear hw
  intro S1 hw
  refine z_iload_n rfl rfl ?_
  exact z_iret rfl rfl rfl rfl (Or.inl ⟨_, _, rfl, rfl, hw⟩)
def r_carry (post : Int32 → Mem → Prop) (S : Mem) (l1 : Int32) (l2 : Int32) : Prop :=
  (vp_in (5 * l1) 160) ∧ (vp_in ((5 * l1) + 1) 160) ∧ ((¬ (S 157 (5 * l1).toNatClampNeg) = 0) →
   ((3 ≤ (S 157 (5 * l1).toNatClampNeg)) →
    (vp_in ((5 * l1) + 2) 160) ∧ (vp_in ((5 * l1) + (if l2 = 0 then 4 else 3 : Int32)) 160) ∧ (vp_in ((4 * (S 157 ((5 * l1) + 1).toNatClampNeg)) + (S 157 ((5 * l1) + 2).toNatClampNeg)) 96) ∧ ∀ S1, S1 = up2 S 150 ((4 * (S 157 ((5 * l1) + 1).toNatClampNeg)) + (S 157 ((5 * l1) + 2).toNatClampNeg)).toNatClampNeg (S 157 ((5 * l1) + (if l2 = 0 then 4 else 3 : Int32)).toNatClampNeg) → r_carry_J123 post S1 (S 157 (5 * l1).toNatClampNeg)) ∧
   ((¬ 3 ≤ (S 157 (5 * l1).toNatClampNeg)) →
    (vp_in (S 157 ((5 * l1) + 1).toNatClampNeg) 24) ∧ ∀ S2, S2 = up2 S 151 (S 157 ((5 * l1) + 1).toNatClampNeg).toNatClampNeg (vp_nar .boolean (if (if (S 157 (5 * l1).toNatClampNeg) = 1 then 1 else 0 : Int32) = l2 then 0 else 1 : Int32)) → r_carry_J123 post S2 (S 157 (5 * l1).toNatClampNeg))) ∧
  (((S 157 (5 * l1).toNatClampNeg) = 0) →
   ∀ S3, S3 = up2 S 148 1 (if l2 = 0 then ((S 148 1) + 1) else ((S 148 1) - 1) : Int32) → r_carry_J123 post S3 (S 157 (5 * l1).toNatClampNeg))
set_option maxRecDepth 100000 in
set_option maxHeartbeats 1000000 in
theorem zr_carry {g : Gm} {G : Gp} {S : Mem} {post : Int32 → Mem → Prop} {l1 : Int32} {l2 : Int32} (hx : G.2.2.2 = false) (hG : isR G) (hw : r_carry post S l1 l2) : Z g M_r_carry 0 0 0 (entryL [.ref 148, .int l1, .int l2] (mL M_r_carry)) [] (S, G) (Qi G post noEx) := by
  unfold r_carry at hw
  show Z g M_r_carry 0 0 0 [some (.ref 148), some (.int l1), some (.int l2), none, none] [] (S, G) (Qi G post noEx)
  refine z_aload_n rfl rfl ?_
  refine z_getr (ci := 7) 16 rfl hG.1 rfl w_674 hG.2.2.2.2.2.2.2.2.2.2.2.2.2.2.2.2.2.1 ?_
  refine z_iconst 5 rfl rfl ?_
  refine z_iload_n rfl rfl ?_
  refine z_imul rfl ?_
  obtain ⟨hc1, hw⟩ := hw
  refine z_iald ((5 * l1).toNatClampNeg) rfl hG.2.2.2.2.2.2.2.2.2.2.2.2.2.2.2.2.2.2 hc1 rfl ?_
  refine z_istore_n [some (.ref 148), some (.int l1), some (.int l2), some (.int (S 157 (5 * l1).toNatClampNeg)), none] rfl rfl rfl ?_
  refine z_aload_n rfl rfl ?_
  refine z_getr (ci := 7) 16 rfl hG.1 rfl w_674 hG.2.2.2.2.2.2.2.2.2.2.2.2.2.2.2.2.2.1 ?_
  refine z_iconst 5 rfl rfl ?_
  refine z_iload_n rfl rfl ?_
  refine z_imul rfl ?_
  refine z_iconst 1 rfl rfl ?_
  refine z_iadd rfl ?_
  obtain ⟨hc2, hw⟩ := hw
  refine z_iald (((5 * l1) + 1).toNatClampNeg) rfl hG.2.2.2.2.2.2.2.2.2.2.2.2.2.2.2.2.2.2 hc2 rfl ?_
  refine z_istore [some (.ref 148), some (.int l1), some (.int l2), some (.int (S 157 (5 * l1).toNatClampNeg)), some (.int (S 157 ((5 * l1) + 1).toNatClampNeg))] rfl rfl rfl ?_
  refine z_iload_n rfl rfl ?_
  refine z_if_ne rfl (fun hq => ?_) (fun hq => ?_)
  · replace hw := hw.1 hq
    refine z_iload_n rfl rfl ?_
    refine z_iconst 3 rfl rfl ?_
    refine z_icmp_ge rfl (fun hq => ?_) (fun hq => ?_)
    · replace hw := hw.1 hq
      refine z_aload_n rfl rfl ?_
      refine z_getr (ci := 7) 3 rfl hG.1 rfl w_661 hG.2.2.2.1 ?_
      refine z_iconst 4 rfl rfl ?_
      refine z_iload rfl rfl ?_
      refine z_imul rfl ?_
      refine z_aload_n rfl rfl ?_
      refine z_getr (ci := 7) 16 rfl hG.1 rfl w_674 hG.2.2.2.2.2.2.2.2.2.2.2.2.2.2.2.2.2.1 ?_
      refine z_iconst 5 rfl rfl ?_
      refine z_iload_n rfl rfl ?_
      refine z_imul rfl ?_
      refine z_iconst 2 rfl rfl ?_
      refine z_iadd rfl ?_
      obtain ⟨hc3, hw⟩ := hw
      refine z_iald (((5 * l1) + 2).toNatClampNeg) rfl hG.2.2.2.2.2.2.2.2.2.2.2.2.2.2.2.2.2.2 hc3 rfl ?_
      refine z_iadd rfl ?_
      refine z_aload_n rfl rfl ?_
      refine z_getr (ci := 7) 16 rfl hG.1 rfl w_674 hG.2.2.2.2.2.2.2.2.2.2.2.2.2.2.2.2.2.1 ?_
      refine z_iconst 5 rfl rfl ?_
      refine z_iload_n rfl rfl ?_
      refine z_imul rfl ?_
      refine z_iload_n rfl rfl ?_
      have hj112 : ∀ v : Int32, v = (if l2 = 0 then 4 else 3 : Int32) → Z g M_r_carry 0 0 120 [some (.ref 148), some (.int l1), some (.int l2), some (.int (S 157 (5 * l1).toNatClampNeg)), some (.int (S 157 ((5 * l1) + 1).toNatClampNeg))] [.int v, .int (5 * l1), .ref 157, .int ((4 * (S 157 ((5 * l1) + 1).toNatClampNeg)) + (S 157 ((5 * l1) + 2).toNatClampNeg)), .ref 150] (S, G) (Qi G post noEx) := by
        intro v hv
        subst hv
        refine z_iadd rfl ?_
        obtain ⟨hc4, hw⟩ := hw
        refine z_iald (((5 * l1) + (if l2 = 0 then 4 else 3 : Int32)).toNatClampNeg) rfl hG.2.2.2.2.2.2.2.2.2.2.2.2.2.2.2.2.2.2 hc4 rfl ?_
        obtain ⟨hc5, hw⟩ := hw
        replace hw := hw _ rfl
        refine z_iast (((4 * (S 157 ((5 * l1) + 1).toNatClampNeg)) + (S 157 ((5 * l1) + 2).toNatClampNeg)).toNatClampNeg) rfl hG.2.2.2.2.1 hc5 rfl ?_
        refine Z.forget' [some (.ref 148), none, none, some (.int (S 157 (5 * l1).toNatClampNeg)), none] ⟨rfl, ⟨rfl, trivial⟩⟩ ?_
        exact zr_carry_J123 hx hG hw
      refine z_if_eq rfl (fun hp112 => ?_) (fun hp112 => ?_)
      · refine z_iconst 4 rfl rfl ?_
        exact hj112 _ (by rw [if_pos hp112])
      · refine z_iconst 3 rfl rfl ?_
        refine z_goto rfl ?_
        exact hj112 _ (by rw [if_neg hp112])
    · replace hw := hw.2 hq
      refine z_aload_n rfl rfl ?_
      refine z_getr (ci := 7) 4 rfl hG.1 rfl w_662 hG.2.2.2.2.2.1 ?_
      refine z_iload rfl rfl ?_
      refine z_iload_n rfl rfl ?_
      refine z_iconst 1 rfl rfl ?_
      have hj64 : ∀ v : Int32, v = (if (S 157 (5 * l1).toNatClampNeg) = 1 then 1 else 0 : Int32) → Z g M_r_carry 0 0 72 [some (.ref 148), some (.int l1), some (.int l2), some (.int (S 157 (5 * l1).toNatClampNeg)), some (.int (S 157 ((5 * l1) + 1).toNatClampNeg))] [.int v, .int (S 157 ((5 * l1) + 1).toNatClampNeg), .ref 151] (S, G) (Qi G post noEx) := by
        intro v hv
        subst hv
        refine z_iload_n rfl rfl ?_
        have hj73 : ∀ v : Int32, v = (if (if (S 157 (5 * l1).toNatClampNeg) = 1 then 1 else 0 : Int32) = l2 then 0 else 1 : Int32) → Z g M_r_carry 0 0 81 [some (.ref 148), some (.int l1), some (.int l2), some (.int (S 157 (5 * l1).toNatClampNeg)), some (.int (S 157 ((5 * l1) + 1).toNatClampNeg))] [.int v, .int (S 157 ((5 * l1) + 1).toNatClampNeg), .ref 151] (S, G) (Qi G post noEx) := by
          intro v hv
          subst hv
          obtain ⟨hc7, hw⟩ := hw
          replace hw := hw _ rfl
          refine z_zast ((S 157 ((5 * l1) + 1).toNatClampNeg).toNatClampNeg) rfl hG.2.2.2.2.2.2.1 hc7 rfl ?_
          refine z_goto rfl ?_
          refine Z.forget' [some (.ref 148), none, none, some (.int (S 157 (5 * l1).toNatClampNeg)), none] ⟨rfl, ⟨rfl, trivial⟩⟩ ?_
          exact zr_carry_J123 hx hG hw
        refine z_icmp_eq rfl (fun hp73 => ?_) (fun hp73 => ?_)
        · refine z_iconst 0 rfl rfl ?_
          exact hj73 _ (by rw [if_pos hp73])
        · refine z_iconst 1 rfl rfl ?_
          refine z_goto rfl ?_
          exact hj73 _ (by rw [if_neg hp73])
      refine z_icmp_ne rfl (fun hp64 => ?_) (fun hp64 => ?_)
      · refine z_iconst 0 rfl rfl ?_
        exact hj64 _ (by rw [if_neg hp64])
      · refine z_iconst 1 rfl rfl ?_
        refine z_goto rfl ?_
        exact hj64 _ (by rw [if_pos hp64])
  · replace hw := hw.2 hq
    refine z_aload_n rfl rfl ?_
    refine z_iload_n rfl rfl ?_
    have hj27 : ∀ v : Int32, v = (if l2 = 0 then ((S 148 1) + 1) else ((S 148 1) - 1) : Int32) → Z g M_r_carry 0 0 45 [some (.ref 148), some (.int l1), some (.int l2), some (.int (S 157 (5 * l1).toNatClampNeg)), some (.int (S 157 ((5 * l1) + 1).toNatClampNeg))] [.int v, .ref 148] (S, G) (Qi G post noEx) := by
      intro v hv
      subst hv
      replace hw := hw _ rfl
      refine z_puti (ci := 7) 1 rfl hG.1 rfl w_659 rfl rfl rfl ?_
      refine z_goto rfl ?_
      refine Z.forget' [some (.ref 148), none, none, some (.int (S 157 (5 * l1).toNatClampNeg)), none] ⟨rfl, ⟨rfl, trivial⟩⟩ ?_
      exact zr_carry_J123 hx hG hw
    refine z_if_eq rfl (fun hp27 => ?_) (fun hp27 => ?_)
    · refine z_aload_n rfl rfl ?_
      refine z_geti (ci := 7) 1 rfl hG.1 rfl w_659 ?_
      refine z_iconst 1 rfl rfl ?_
      refine z_iadd rfl ?_
      exact hj27 _ (by rw [if_pos hp27])
    · refine z_aload_n rfl rfl ?_
      refine z_geti (ci := 7) 1 rfl hG.1 rfl w_659 ?_
      refine z_iconst 1 rfl rfl ?_
      refine z_isub rfl ?_
      refine z_goto rfl ?_
      exact hj27 _ (by rw [if_neg hp27])
def r_undo (post : Int32 → Mem → Prop) (S : Mem)  : Prop :=
  ∀ S1, S1 = up2 S 148 0 (if (S 148 18) = 0 then 1 else 0 : Int32) → (((S1 148 0) ≤ 0) →
   ∀ S2, S2 = up2 S1 148 18 ((S1 148 18) - 1) → r_carry (fun r1 S3 =>
    post r1 S3) S2 (S2 148 18) 1) ∧
  ((¬ (S1 148 0) ≤ 0) →
   post 0 S1)
set_option maxRecDepth 100000 in
set_option maxHeartbeats 1000000 in
theorem zr_undo {g : Gm} {G : Gp} {S : Mem} {post : Int32 → Mem → Prop}  (hx : G.2.2.2 = false) (hG : isR G) (hw : r_undo post S ) : Z g M_r_undo 0 0 0 (entryL [.ref 148] (mL M_r_undo)) [] (S, G) (Qi G post noEx) := by
  unfold r_undo at hw
  show Z g M_r_undo 0 0 0 [some (.ref 148)] [] (S, G) (Qi G post noEx)
  refine z_aload_n rfl rfl ?_
  refine z_aload_n rfl rfl ?_
  refine z_geti (ci := 7) 18 rfl hG.1 rfl w_676 ?_
  have hj5 : ∀ v : Int32, v = (if (S 148 18) = 0 then 1 else 0 : Int32) → Z g M_r_undo 0 0 13 [some (.ref 148)] [.int v, .ref 148] (S, G) (Qi G post noEx) := by
    intro v hv
    subst hv
    replace hw := hw _ rfl
    refine z_puti (ci := 7) 0 rfl hG.1 rfl w_658 rfl rfl rfl ?_
    refine z_aload_n rfl rfl ?_
    refine z_geti (ci := 7) 0 rfl hG.1 rfl w_658 ?_
    refine z_if_le rfl (fun hq => ?_) (fun hq => ?_)
    · replace hw := hw.1 hq
      refine z_aload_n rfl rfl ?_
      refine z_dup rfl rfl ?_
      refine z_geti (ci := 7) 18 rfl hG.1 rfl w_676 ?_
      refine z_iconst 1 rfl rfl ?_
      refine z_isub rfl ?_
      replace hw := hw _ rfl
      refine z_puti (ci := 7) 18 rfl hG.1 rfl w_676 rfl rfl rfl ?_
      refine z_aload_n rfl rfl ?_
      refine z_aload_n rfl rfl ?_
      refine z_geti (ci := 7) 18 rfl hG.1 rfl w_676 ?_
      refine z_iconst 1 rfl rfl ?_
      refine z_cvi (M' := M_r_carry) [.int ((up2 (up2 S 148 0 (if (S 148 18) = 0 then 1 else 0 : Int32)) 148 18 (((up2 S 148 0 (if (S 148 18) = 0 then 1 else 0 : Int32)) 148 18) - 1)) 148 18), .int 1] hx rfl w_883 cv_r_carry hG.1 (by decide) rfl rfl rfl rfl (zr_carry hx hG hw) ?_ (fun _ _ hf => hf.elim)
      clear hw
      intro r1 S3 hw
      exact z_iret rfl rfl rfl rfl (Or.inl ⟨_, _, rfl, rfl, hw⟩)
    · replace hw := hw.2 hq
      refine z_iconst 0 rfl rfl ?_
      exact z_iret rfl rfl rfl rfl (Or.inl ⟨_, _, rfl, rfl, hw⟩)
  refine z_if_ne rfl (fun hp5 => ?_) (fun hp5 => ?_)
  · refine z_iconst 0 rfl rfl ?_
    exact hj5 _ (by rw [if_neg hp5])
  · refine z_iconst 1 rfl rfl ?_
    refine z_goto rfl ?_
    exact hj5 _ (by rw [if_pos hp5])
def r_redo (post : Int32 → Mem → Prop) (S : Mem)  : Prop :=
  ∀ S1, S1 = up2 S 148 0 (if (S 148 18) = (S 148 17) then 1 else 0 : Int32) → (((S1 148 0) ≤ 0) →
   ∀ S2, S2 = up2 S1 148 18 ((S1 148 18) + 1) → r_carry (fun r1 S3 =>
    post r1 S3) S2 ((S2 148 18) - 1) 0) ∧
  ((¬ (S1 148 0) ≤ 0) →
   post 0 S1)
set_option maxRecDepth 100000 in
set_option maxHeartbeats 1000000 in
theorem zr_redo {g : Gm} {G : Gp} {S : Mem} {post : Int32 → Mem → Prop}  (hx : G.2.2.2 = false) (hG : isR G) (hw : r_redo post S ) : Z g M_r_redo 0 0 0 (entryL [.ref 148] (mL M_r_redo)) [] (S, G) (Qi G post noEx) := by
  unfold r_redo at hw
  show Z g M_r_redo 0 0 0 [some (.ref 148)] [] (S, G) (Qi G post noEx)
  refine z_aload_n rfl rfl ?_
  refine z_aload_n rfl rfl ?_
  refine z_geti (ci := 7) 18 rfl hG.1 rfl w_676 ?_
  refine z_aload_n rfl rfl ?_
  refine z_geti (ci := 7) 17 rfl hG.1 rfl w_675 ?_
  have hj9 : ∀ v : Int32, v = (if (S 148 18) = (S 148 17) then 1 else 0 : Int32) → Z g M_r_redo 0 0 17 [some (.ref 148)] [.int v, .ref 148] (S, G) (Qi G post noEx) := by
    intro v hv
    subst hv
    replace hw := hw _ rfl
    refine z_puti (ci := 7) 0 rfl hG.1 rfl w_658 rfl rfl rfl ?_
    refine z_aload_n rfl rfl ?_
    refine z_geti (ci := 7) 0 rfl hG.1 rfl w_658 ?_
    refine z_if_le rfl (fun hq => ?_) (fun hq => ?_)
    · replace hw := hw.1 hq
      refine z_aload_n rfl rfl ?_
      refine z_dup rfl rfl ?_
      refine z_geti (ci := 7) 18 rfl hG.1 rfl w_676 ?_
      refine z_iconst 1 rfl rfl ?_
      refine z_iadd rfl ?_
      replace hw := hw _ rfl
      refine z_puti (ci := 7) 18 rfl hG.1 rfl w_676 rfl rfl rfl ?_
      refine z_aload_n rfl rfl ?_
      refine z_aload_n rfl rfl ?_
      refine z_geti (ci := 7) 18 rfl hG.1 rfl w_676 ?_
      refine z_iconst 1 rfl rfl ?_
      refine z_isub rfl ?_
      refine z_iconst 0 rfl rfl ?_
      refine z_cvi (M' := M_r_carry) [.int (((up2 (up2 S 148 0 (if (S 148 18) = (S 148 17) then 1 else 0 : Int32)) 148 18 (((up2 S 148 0 (if (S 148 18) = (S 148 17) then 1 else 0 : Int32)) 148 18) + 1)) 148 18) - 1), .int 0] hx rfl w_883 cv_r_carry hG.1 (by decide) rfl rfl rfl rfl (zr_carry hx hG hw) ?_ (fun _ _ hf => hf.elim)
      clear hw
      intro r1 S3 hw
      exact z_iret rfl rfl rfl rfl (Or.inl ⟨_, _, rfl, rfl, hw⟩)
    · replace hw := hw.2 hq
      refine z_iconst 0 rfl rfl ?_
      exact z_iret rfl rfl rfl rfl (Or.inl ⟨_, _, rfl, rfl, hw⟩)
  refine z_icmp_ne rfl (fun hp9 => ?_) (fun hp9 => ?_)
  · refine z_iconst 0 rfl rfl ?_
    exact hj9 _ (by rw [if_neg hp9])
  · refine z_iconst 1 rfl rfl ?_
    refine z_goto rfl ?_
    exact hj9 _ (by rw [if_pos hp9])
def r_actions (post : Int32 → Mem → Prop) (S : Mem)  : Prop :=
  ∀ S1, S1 = up2 S 148 0 0 → post (S1 148 1) S1
set_option maxRecDepth 100000 in
set_option maxHeartbeats 1000000 in
theorem zr_actions {g : Gm} {G : Gp} {S : Mem} {post : Int32 → Mem → Prop}  (hx : G.2.2.2 = false) (hG : isR G) (hw : r_actions post S ) : Z g M_r_actions 0 0 0 (entryL [.ref 148] (mL M_r_actions)) [] (S, G) (Qi G post noEx) := by
  unfold r_actions at hw
  show Z g M_r_actions 0 0 0 [some (.ref 148)] [] (S, G) (Qi G post noEx)
  refine z_aload_n rfl rfl ?_
  refine z_iconst 0 rfl rfl ?_
  replace hw := hw _ rfl
  refine z_puti (ci := 7) 0 rfl hG.1 rfl w_658 rfl rfl rfl ?_
  refine z_aload_n rfl rfl ?_
  refine z_geti (ci := 7) 1 rfl hG.1 rfl w_659 ?_
  exact z_iret rfl rfl rfl rfl (Or.inl ⟨_, _, rfl, rfl, hw⟩)
def r_argument (post : Int32 → Mem → Prop) (S : Mem) (l1 : Int32) (l2 : Int32) : Prop :=
  r_isAction (fun r1 S1 =>
   ∀ S2, S2 = up2 S1 148 0 (if r1 = 0 then 1 else (if l2 < 0 then 1 else (if 5 ≤ l2 then 1 else 0 : Int32) : Int32) : Int32) → (((S2 148 0) ≤ 0 → (l2 = 4 → (vp_in l1 24)) ∧ (¬ l2 = 4 → (vp_in ((4 * l1) + l2) 96)))) ∧ 
   post (if (S2 148 0) ≤ 0 then (if l2 = 4 then (S2 149 l1.toNatClampNeg) else (S2 150 ((4 * l1) + l2).toNatClampNeg) : Int32) else 0 : Int32) S2) S l1
set_option maxRecDepth 100000 in
set_option maxHeartbeats 1000000 in
theorem zr_argument {g : Gm} {G : Gp} {S : Mem} {post : Int32 → Mem → Prop} {l1 : Int32} {l2 : Int32} (hx : G.2.2.2 = false) (hG : isR G) (hw : r_argument post S l1 l2) : Z g M_r_argument 0 0 0 (entryL [.ref 148, .int l1, .int l2] (mL M_r_argument)) [] (S, G) (Qi G post noEx) := by
  unfold r_argument at hw
  show Z g M_r_argument 0 0 0 [some (.ref 148), some (.int l1), some (.int l2)] [] (S, G) (Qi G post noEx)
  refine z_aload_n rfl rfl ?_
  refine z_aload_n rfl rfl ?_
  refine z_iload_n rfl rfl ?_
  refine z_cvi (M' := M_r_isAction) [.int l1] hx rfl w_859 cv_r_isAction hG.1 (by decide) rfl rfl rfl rfl (zr_isAction hx hG hw) ?_ (fun _ _ hf => hf.elim)
  clear hw
  intro r1 S1 hw
  have hj6 : ∀ v : Int32, v = (if r1 = 0 then 1 else (if l2 < 0 then 1 else (if 5 ≤ l2 then 1 else 0 : Int32) : Int32) : Int32) → Z g M_r_argument 0 0 23 [some (.ref 148), some (.int l1), some (.int l2)] [.int v, .ref 148] (S1, G) (Qi G post noEx) := by
    intro v hv
    subst hv
    replace hw := hw _ rfl
    refine z_puti (ci := 7) 0 rfl hG.1 rfl w_658 rfl rfl rfl ?_
    refine z_aload_n rfl rfl ?_
    refine z_geti (ci := 7) 0 rfl hG.1 rfl w_658 ?_
    obtain ⟨hc1, hw⟩ := hw
    have hj30 : ∀ v : Int32, v = (if ((up2 S1 148 0 (if r1 = 0 then 1 else (if l2 < 0 then 1 else (if 5 ≤ l2 then 1 else 0 : Int32) : Int32) : Int32)) 148 0) ≤ 0 then (if l2 = 4 then ((up2 S1 148 0 (if r1 = 0 then 1 else (if l2 < 0 then 1 else (if 5 ≤ l2 then 1 else 0 : Int32) : Int32) : Int32)) 149 l1.toNatClampNeg) else ((up2 S1 148 0 (if r1 = 0 then 1 else (if l2 < 0 then 1 else (if 5 ≤ l2 then 1 else 0 : Int32) : Int32) : Int32)) 150 ((4 * l1) + l2).toNatClampNeg) : Int32) else 0 : Int32) → Z g M_r_argument 0 0 57 [some (.ref 148), some (.int l1), some (.int l2)] [.int v] ((up2 S1 148 0 (if r1 = 0 then 1 else (if l2 < 0 then 1 else (if 5 ≤ l2 then 1 else 0 : Int32) : Int32) : Int32)), G) (Qi G post noEx) := by
      intro v hv
      subst hv
      exact z_iret rfl rfl rfl rfl (Or.inl ⟨_, _, rfl, rfl, hw⟩)
    refine z_if_le rfl (fun hp30 => ?_) (fun hp30 => ?_)
    · refine z_iload_n rfl rfl ?_
      refine z_iconst 4 rfl rfl ?_
      refine z_icmp_ne rfl (fun hp39 => ?_) (fun hp39 => ?_)
      · refine z_aload_n rfl rfl ?_
        refine z_iload_n rfl rfl ?_
        refine z_iload_n rfl rfl ?_
        refine z_cvi (M' := M_r_arg) (post := fun v S' => ((up2 S1 148 0 (if r1 = 0 then 1 else (if l2 < 0 then 1 else (if 5 ≤ l2 then 1 else 0 : Int32) : Int32) : Int32)) 150 ((4 * l1) + l2).toNatClampNeg) = v ∧ (up2 S1 148 0 (if r1 = 0 then 1 else (if l2 < 0 then 1 else (if 5 ≤ l2 then 1 else 0 : Int32) : Int32) : Int32)) = S') [.int l1, .int l2] hx rfl w_734 cv_r_arg hG.1 (by decide) rfl rfl rfl rfl (zr_arg hx hG  (⟨((hc1 hp30).2 hp39), ⟨rfl, rfl⟩⟩)) ?_ (fun _ _ hf => hf.elim)
        rintro v S' ⟨rfl, rfl⟩
        exact hj30 _ (by rw [if_pos hp30, if_neg hp39])
      · refine z_aload_n rfl rfl ?_
        refine z_getr (ci := 7) 2 rfl hG.1 rfl w_660 hG.2.1 ?_
        refine z_iload_n rfl rfl ?_
        refine z_iald (l1.toNatClampNeg) rfl hG.2.2.1 ((hc1 hp30).1 hp39) rfl ?_
        refine z_goto rfl ?_
        exact hj30 _ (by rw [if_pos hp30, if_pos hp39])
    · refine z_iconst 0 rfl rfl ?_
      refine z_goto rfl ?_
      exact hj30 _ (by rw [if_neg hp30])
  refine z_if_eq rfl (fun hp6 => ?_) (fun hp6 => ?_)
  · refine z_iconst 1 rfl rfl ?_
    exact hj6 _ (by rw [if_pos hp6])
  · refine z_iload_n rfl rfl ?_
    refine z_if_lt rfl (fun hp10 => ?_) (fun hp10 => ?_)
    · refine z_iconst 1 rfl rfl ?_
      exact hj6 _ (by rw [if_neg hp6, if_pos hp10])
    · refine z_iload_n rfl rfl ?_
      refine z_iconst 5 rfl rfl ?_
      refine z_icmp_ge rfl (fun hp15 => ?_) (fun hp15 => ?_)
      · refine z_iconst 1 rfl rfl ?_
        exact hj6 _ (by rw [if_neg hp6, if_neg hp10, if_pos hp15])
      · refine z_iconst 0 rfl rfl ?_
        refine z_goto rfl ?_
        exact hj6 _ (by rw [if_neg hp6, if_neg hp10, if_neg hp15])
def r_effect (post : Int32 → Mem → Prop) (S : Mem) (l1 : Int32) : Prop :=
  r_isAction (fun r1 S1 =>
   ∀ S2, S2 = up2 S1 148 0 (if r1 = 0 then 1 else 0 : Int32) → (((S2 148 0) ≤ 0 → (vp_in l1 24))) ∧ 
   post (if (S2 148 0) ≤ 0 then (S2 152 l1.toNatClampNeg) else 0 : Int32) S2) S l1
set_option maxRecDepth 100000 in
set_option maxHeartbeats 1000000 in
theorem zr_effect {g : Gm} {G : Gp} {S : Mem} {post : Int32 → Mem → Prop} {l1 : Int32} (hx : G.2.2.2 = false) (hG : isR G) (hw : r_effect post S l1) : Z g M_r_effect 0 0 0 (entryL [.ref 148, .int l1] (mL M_r_effect)) [] (S, G) (Qi G post noEx) := by
  unfold r_effect at hw
  show Z g M_r_effect 0 0 0 [some (.ref 148), some (.int l1)] [] (S, G) (Qi G post noEx)
  refine z_aload_n rfl rfl ?_
  refine z_aload_n rfl rfl ?_
  refine z_iload_n rfl rfl ?_
  refine z_cvi (M' := M_r_isAction) [.int l1] hx rfl w_859 cv_r_isAction hG.1 (by decide) rfl rfl rfl rfl (zr_isAction hx hG hw) ?_ (fun _ _ hf => hf.elim)
  clear hw
  intro r1 S1 hw
  have hj6 : ∀ v : Int32, v = (if r1 = 0 then 1 else 0 : Int32) → Z g M_r_effect 0 0 14 [some (.ref 148), some (.int l1)] [.int v, .ref 148] (S1, G) (Qi G post noEx) := by
    intro v hv
    subst hv
    replace hw := hw _ rfl
    refine z_puti (ci := 7) 0 rfl hG.1 rfl w_658 rfl rfl rfl ?_
    refine z_aload_n rfl rfl ?_
    refine z_geti (ci := 7) 0 rfl hG.1 rfl w_658 ?_
    obtain ⟨hc1, hw⟩ := hw
    have hj21 : ∀ v : Int32, v = (if ((up2 S1 148 0 (if r1 = 0 then 1 else 0 : Int32)) 148 0) ≤ 0 then ((up2 S1 148 0 (if r1 = 0 then 1 else 0 : Int32)) 152 l1.toNatClampNeg) else 0 : Int32) → Z g M_r_effect 0 0 34 [some (.ref 148), some (.int l1)] [.int v] ((up2 S1 148 0 (if r1 = 0 then 1 else 0 : Int32)), G) (Qi G post noEx) := by
      intro v hv
      subst hv
      exact z_iret rfl rfl rfl rfl (Or.inl ⟨_, _, rfl, rfl, hw⟩)
    refine z_if_le rfl (fun hp21 => ?_) (fun hp21 => ?_)
    · refine z_aload_n rfl rfl ?_
      refine z_getr (ci := 7) 5 rfl hG.1 rfl w_663 hG.2.2.2.2.2.2.2.1 ?_
      refine z_iload_n rfl rfl ?_
      refine z_iald (l1.toNatClampNeg) rfl hG.2.2.2.2.2.2.2.2.1 (hc1 hp21) rfl ?_
      exact hj21 _ (by rw [if_pos hp21])
    · refine z_iconst 0 rfl rfl ?_
      refine z_goto rfl ?_
      exact hj21 _ (by rw [if_neg hp21])
  refine z_if_eq rfl (fun hp6 => ?_) (fun hp6 => ?_)
  · refine z_iconst 1 rfl rfl ?_
    exact hj6 _ (by rw [if_pos hp6])
  · refine z_iconst 0 rfl rfl ?_
    refine z_goto rfl ?_
    exact hj6 _ (by rw [if_neg hp6])
def r_needed_J97 (post : Int32 → Mem → Prop)  (S : Mem) (l4 : Int32) : Prop :=
  r_goThrough (fun S1 =>
   post l4 S1) S (-1)
set_option maxRecDepth 100000 in
set_option maxHeartbeats 1000000 in
theorem zr_needed_J97 {g : Gm} {G : Gp} {post : Int32 → Mem → Prop} (hx : G.2.2.2 = false) (hG : isR G) {S : Mem} {l4 : Int32}  (hw : r_needed_J97 post S l4) : Z g M_r_needed 0 0 97 [some (.ref 148), none, none, none, some (.int l4), none] [] (S, G) (Qi G post noEx) := by
  unfold r_needed_J97 at hw
  refine z_aload_n rfl rfl ?_
  refine z_iconst (-1) rfl rfl ?_
  refine z_cvv (M' := M_r_goThrough) [.int (-1)] hx rfl w_742 cv_r_goThrough hG.1 (by decide) rfl rfl rfl rfl (zr_goThrough hx hG hw) ?_ (fun _ _ hf => hf.elim)
  clear hw
  intro S1 hw
  refine z_iload rfl rfl ?_
  exact z_iret rfl rfl rfl rfl (Or.inl ⟨_, _, rfl, rfl, hw⟩)
def r_needed_L45 (post : Int32 → Mem → Prop)  : Nat → Mem → Int32 → Int32 → Int32 → Prop
  | 0, _, _, _, _ => False
  | n + 1, S, l3, l4, l5 =>
  (((S 148 1) ≤ l5) →
   r_needed_J97 post S l4) ∧
  ((¬ (S 148 1) ≤ l5) →
   ((0 ≤ l4) →
    r_needed_J97 post S l4) ∧
   ((¬ 0 ≤ l4) →
    (vp_in l5 24) ∧ (vp_in l5 24) ∧ (((S 152 l5.toNatClampNeg) = (S 153 l5.toNatClampNeg)) →
     r_needed_L45 post n S l3 l4 (l5 + 1)) ∧
    ((¬ (S 152 l5.toNatClampNeg) = (S 153 l5.toNatClampNeg)) →
     r_needed_L45 post n S (l3 + (-1)) (if l3 = 0 then l5 else (-1) : Int32) (l5 + 1))))
set_option maxRecDepth 100000 in
set_option maxHeartbeats 1000000 in
theorem zr_needed_L45 {g : Gm} {G : Gp} {post : Int32 → Mem → Prop} (hx : G.2.2.2 = false) (hG : isR G) : ∀ (n : Nat) {S : Mem} {l3 : Int32} {l4 : Int32} {l5 : Int32} , r_needed_L45 post n S l3 l4 l5 → Z g M_r_needed 0 0 45 [some (.ref 148), none, none, some (.int l3), some (.int l4), some (.int l5)] [] (S, G) (Qi G post noEx) := by
  intro n
  induction n with
  | zero =>
    intros
    rename_i hw
    exact hw.elim
  | succ n ih =>
    intro S l3 l4 l5 hw
    rw [r_needed_L45] at hw
    refine z_iload rfl rfl ?_
    refine z_aload_n rfl rfl ?_
    refine z_geti (ci := 7) 1 rfl hG.1 rfl w_659 ?_
    refine z_icmp_ge rfl (fun hq => ?_) (fun hq => ?_)
    · replace hw := hw.1 hq
      refine Z.forget' [some (.ref 148), none, none, none, some (.int l4), none] ⟨rfl, ⟨rfl, trivial⟩⟩ ?_
      exact zr_needed_J97 hx hG hw
    · replace hw := hw.2 hq
      refine z_iload rfl rfl ?_
      refine z_if_ge rfl (fun hq => ?_) (fun hq => ?_)
      · replace hw := hw.1 hq
        refine Z.forget' [some (.ref 148), none, none, none, some (.int l4), none] ⟨rfl, ⟨rfl, trivial⟩⟩ ?_
        exact zr_needed_J97 hx hG hw
      · replace hw := hw.2 hq
        refine z_aload_n rfl rfl ?_
        refine z_getr (ci := 7) 5 rfl hG.1 rfl w_663 hG.2.2.2.2.2.2.2.1 ?_
        refine z_iload rfl rfl ?_
        obtain ⟨hc1, hw⟩ := hw
        refine z_iald (l5.toNatClampNeg) rfl hG.2.2.2.2.2.2.2.2.1 hc1 rfl ?_
        refine z_aload_n rfl rfl ?_
        refine z_getr (ci := 7) 6 rfl hG.1 rfl w_664 hG.2.2.2.2.2.2.2.2.2.1 ?_
        refine z_iload rfl rfl ?_
        obtain ⟨hc2, hw⟩ := hw
        refine z_iald (l5.toNatClampNeg) rfl hG.2.2.2.2.2.2.2.2.2.2.1 hc2 rfl ?_
        refine z_icmp_eq rfl (fun hq => ?_) (fun hq => ?_)
        · replace hw := hw.1 hq
          refine z_iinc 1 [some (.ref 148), none, none, some (.int l3), some (.int l4), some (.int (l5 + 1))] rfl rfl rfl rfl ?_
          refine z_goto rfl ?_
          refine Z.forget' [some (.ref 148), none, none, some (.int l3), some (.int l4), some (.int (l5 + 1))] ⟨rfl, ⟨rfl, ⟨rfl, ⟨rfl, trivial⟩⟩⟩⟩ ?_
          exact ih hw
        · replace hw := hw.2 hq
          refine z_iload_n rfl rfl ?_
          have hj77 : ∀ v : Int32, v = (if l3 = 0 then l5 else (-1) : Int32) → Z g M_r_needed 0 0 86 [some (.ref 148), none, none, some (.int l3), some (.int l4), some (.int l5)] [.int v] (S, G) (Qi G post noEx) := by
            intro v hv
            subst hv
            refine z_istore [some (.ref 148), none, none, some (.int l3), some (.int (if l3 = 0 then l5 else (-1) : Int32)), some (.int l5)] rfl rfl rfl ?_
            refine z_iinc (-1) [some (.ref 148), none, none, some (.int (l3 + (-1))), some (.int (if l3 = 0 then l5 else (-1) : Int32)), some (.int l5)] rfl rfl rfl rfl ?_
            refine z_iinc 1 [some (.ref 148), none, none, some (.int (l3 + (-1))), some (.int (if l3 = 0 then l5 else (-1) : Int32)), some (.int (l5 + 1))] rfl rfl rfl rfl ?_
            refine z_goto rfl ?_
            refine Z.forget' [some (.ref 148), none, none, some (.int (l3 + (-1))), some (.int (if l3 = 0 then l5 else (-1) : Int32)), some (.int (l5 + 1))] ⟨rfl, ⟨rfl, ⟨rfl, ⟨rfl, trivial⟩⟩⟩⟩ ?_
            exact ih hw
          refine z_if_ne rfl (fun hp77 => ?_) (fun hp77 => ?_)
          · refine z_iconst (-1) rfl rfl ?_
            exact hj77 _ (by rw [if_neg hp77])
          · refine z_iload rfl rfl ?_
            refine z_goto rfl ?_
            exact hj77 _ (by rw [if_pos hp77])
def r_needed (post : Int32 → Mem → Prop) (S : Mem) (l1 : Int32) (l2 : Int32) : Prop :=
  r_isAction (fun r1 S1 =>
   ∀ S2, S2 = up2 S1 148 0 (if r1 = 0 then 1 else 0 : Int32) → (((S2 148 0) ≤ 0) →
    r_remember (fun S3 =>
     r_goThrough (fun S4 =>
      ∃ n, r_needed_L45 post n S4 l2 (-1) (l1 + 1)) S3 l1) S2 ) ∧
   ((¬ (S2 148 0) ≤ 0) →
    post 0 S2)) S l1
set_option maxRecDepth 100000 in
set_option maxHeartbeats 1000000 in
theorem zr_needed {g : Gm} {G : Gp} {S : Mem} {post : Int32 → Mem → Prop} {l1 : Int32} {l2 : Int32} (hx : G.2.2.2 = false) (hG : isR G) (hw : r_needed post S l1 l2) : Z g M_r_needed 0 0 0 (entryL [.ref 148, .int l1, .int l2] (mL M_r_needed)) [] (S, G) (Qi G post noEx) := by
  unfold r_needed at hw
  show Z g M_r_needed 0 0 0 [some (.ref 148), some (.int l1), some (.int l2), none, none, none] [] (S, G) (Qi G post noEx)
  refine z_aload_n rfl rfl ?_
  refine z_aload_n rfl rfl ?_
  refine z_iload_n rfl rfl ?_
  refine z_cvi (M' := M_r_isAction) [.int l1] hx rfl w_859 cv_r_isAction hG.1 (by decide) rfl rfl rfl rfl (zr_isAction hx hG hw) ?_ (fun _ _ hf => hf.elim)
  clear hw
  intro r1 S1 hw
  have hj6 : ∀ v : Int32, v = (if r1 = 0 then 1 else 0 : Int32) → Z g M_r_needed 0 0 14 [some (.ref 148), some (.int l1), some (.int l2), none, none, none] [.int v, .ref 148] (S1, G) (Qi G post noEx) := by
    intro v hv
    subst hv
    replace hw := hw _ rfl
    refine z_puti (ci := 7) 0 rfl hG.1 rfl w_658 rfl rfl rfl ?_
    refine z_aload_n rfl rfl ?_
    refine z_geti (ci := 7) 0 rfl hG.1 rfl w_658 ?_
    refine z_if_le rfl (fun hq => ?_) (fun hq => ?_)
    · replace hw := hw.1 hq
      refine z_aload_n rfl rfl ?_
      refine z_cvv (M' := M_r_remember) [] hx rfl w_863 cv_r_remember hG.1 (by decide) rfl rfl rfl rfl (zr_remember hx hG hw) ?_ (fun _ _ hf => hf.elim)
      clear hw
      intro S3 hw
      refine z_aload_n rfl rfl ?_
      refine z_iload_n rfl rfl ?_
      refine z_cvv (M' := M_r_goThrough) [.int l1] hx rfl w_742 cv_r_goThrough hG.1 (by decide) rfl rfl rfl rfl (zr_goThrough hx hG hw) ?_ (fun _ _ hf => hf.elim)
      clear hw
      intro S4 hw
      refine z_iload_n rfl rfl ?_
      refine z_istore_n [some (.ref 148), some (.int l1), some (.int l2), some (.int l2), none, none] rfl rfl rfl ?_
      refine z_iconst (-1) rfl rfl ?_
      refine z_istore [some (.ref 148), some (.int l1), some (.int l2), some (.int l2), some (.int (-1)), none] rfl rfl rfl ?_
      refine z_iload_n rfl rfl ?_
      refine z_iconst 1 rfl rfl ?_
      refine z_iadd rfl ?_
      refine z_istore [some (.ref 148), some (.int l1), some (.int l2), some (.int l2), some (.int (-1)), some (.int (l1 + 1))] rfl rfl rfl ?_
      refine Z.forget' [some (.ref 148), none, none, some (.int l2), some (.int (-1)), some (.int (l1 + 1))] ⟨rfl, ⟨rfl, ⟨rfl, ⟨rfl, trivial⟩⟩⟩⟩ ?_
      obtain ⟨n, hw⟩ := hw
      exact zr_needed_L45 hx hG n hw
    · replace hw := hw.2 hq
      refine z_iconst 0 rfl rfl ?_
      exact z_iret rfl rfl rfl rfl (Or.inl ⟨_, _, rfl, rfl, hw⟩)
  refine z_if_eq rfl (fun hp6 => ?_) (fun hp6 => ?_)
  · refine z_iconst 1 rfl rfl ?_
    exact hj6 _ (by rw [if_pos hp6])
  · refine z_iconst 0 rfl rfl ?_
    refine z_goto rfl ?_
    exact hj6 _ (by rw [if_neg hp6])
def r_needs_J91 (post : Int32 → Mem → Prop)  (S : Mem) (l5 : Int32) : Prop :=
  r_goThrough (fun S1 =>
   post l5 S1) S (-1)
set_option maxRecDepth 100000 in
set_option maxHeartbeats 1000000 in
theorem zr_needs_J91 {g : Gm} {G : Gp} {post : Int32 → Mem → Prop} (hx : G.2.2.2 = false) (hG : isR G) {S : Mem} {l5 : Int32}  (hw : r_needs_J91 post S l5) : Z g M_r_needs 0 0 91 [some (.ref 148), none, none, none, none, some (.int l5), none] [] (S, G) (Qi G post noEx) := by
  unfold r_needs_J91 at hw
  refine z_aload_n rfl rfl ?_
  refine z_iconst (-1) rfl rfl ?_
  refine z_cvv (M' := M_r_goThrough) [.int (-1)] hx rfl w_742 cv_r_goThrough hG.1 (by decide) rfl rfl rfl rfl (zr_goThrough hx hG hw) ?_ (fun _ _ hf => hf.elim)
  clear hw
  intro S1 hw
  refine z_iload rfl rfl ?_
  exact z_iret rfl rfl rfl rfl (Or.inl ⟨_, _, rfl, rfl, hw⟩)
def r_needs_L42 (post : Int32 → Mem → Prop)  : Nat → Mem → Int32 → Int32 → Int32 → Int32 → Int32 → Prop
  | 0, _, _, _, _, _, _ => False
  | n + 1, S, l1, l3, l4, l5, l6 =>
  ((l1 ≤ l6) →
   r_needs_J91 post S l5) ∧
  ((¬ l1 ≤ l6) →
   ((0 ≤ l5) →
    r_needs_J91 post S l5) ∧
   ((¬ 0 ≤ l5) →
    r_goThrough (fun S1 =>
     (vp_in l1 24) ∧ (((S1 152 l1.toNatClampNeg) = l3) →
      r_needs_L42 post n S1 l1 l3 l4 l5 (l6 + 1)) ∧
     ((¬ (S1 152 l1.toNatClampNeg) = l3) →
      r_needs_L42 post n S1 l1 l3 (l4 + (-1)) (if l4 = 0 then l6 else (-1) : Int32) (l6 + 1))) S l6))
set_option maxRecDepth 100000 in
set_option maxHeartbeats 1000000 in
theorem zr_needs_L42 {g : Gm} {G : Gp} {post : Int32 → Mem → Prop} (hx : G.2.2.2 = false) (hG : isR G) : ∀ (n : Nat) {S : Mem} {l1 : Int32} {l3 : Int32} {l4 : Int32} {l5 : Int32} {l6 : Int32} , r_needs_L42 post n S l1 l3 l4 l5 l6 → Z g M_r_needs 0 0 42 [some (.ref 148), some (.int l1), none, some (.int l3), some (.int l4), some (.int l5), some (.int l6)] [] (S, G) (Qi G post noEx) := by
  intro n
  induction n with
  | zero =>
    intros
    rename_i hw
    exact hw.elim
  | succ n ih =>
    intro S l1 l3 l4 l5 l6 hw
    rw [r_needs_L42] at hw
    refine z_iload rfl rfl ?_
    refine z_iload_n rfl rfl ?_
    refine z_icmp_ge rfl (fun hq => ?_) (fun hq => ?_)
    · replace hw := hw.1 hq
      refine Z.forget' [some (.ref 148), none, none, none, none, some (.int l5), none] ⟨rfl, ⟨rfl, trivial⟩⟩ ?_
      exact zr_needs_J91 hx hG hw
    · replace hw := hw.2 hq
      refine z_iload rfl rfl ?_
      refine z_if_ge rfl (fun hq => ?_) (fun hq => ?_)
      · replace hw := hw.1 hq
        refine Z.forget' [some (.ref 148), none, none, none, none, some (.int l5), none] ⟨rfl, ⟨rfl, trivial⟩⟩ ?_
        exact zr_needs_J91 hx hG hw
      · replace hw := hw.2 hq
        refine z_aload_n rfl rfl ?_
        refine z_iload rfl rfl ?_
        refine z_cvv (M' := M_r_goThrough) [.int l6] hx rfl w_742 cv_r_goThrough hG.1 (by decide) rfl rfl rfl rfl (zr_goThrough hx hG hw) ?_ (fun _ _ hf => hf.elim)
        clear hw
        intro S1 hw
        refine z_aload_n rfl rfl ?_
        refine z_getr (ci := 7) 5 rfl hG.1 rfl w_663 hG.2.2.2.2.2.2.2.1 ?_
        refine z_iload_n rfl rfl ?_
        obtain ⟨hc1, hw⟩ := hw
        refine z_iald (l1.toNatClampNeg) rfl hG.2.2.2.2.2.2.2.2.1 hc1 rfl ?_
        refine z_iload_n rfl rfl ?_
        refine z_icmp_eq rfl (fun hq => ?_) (fun hq => ?_)
        · replace hw := hw.1 hq
          refine z_iinc 1 [some (.ref 148), some (.int l1), none, some (.int l3), some (.int l4), some (.int l5), some (.int (l6 + 1))] rfl rfl rfl rfl ?_
          refine z_goto rfl ?_
          refine Z.forget' [some (.ref 148), some (.int l1), none, some (.int l3), some (.int l4), some (.int l5), some (.int (l6 + 1))] ⟨rfl, ⟨rfl, ⟨rfl, ⟨rfl, ⟨rfl, ⟨rfl, trivial⟩⟩⟩⟩⟩⟩ ?_
          exact ih hw
        · replace hw := hw.2 hq
          refine z_iload rfl rfl ?_
          have hj71 : ∀ v : Int32, v = (if l4 = 0 then l6 else (-1) : Int32) → Z g M_r_needs 0 0 80 [some (.ref 148), some (.int l1), none, some (.int l3), some (.int l4), some (.int l5), some (.int l6)] [.int v] (S1, G) (Qi G post noEx) := by
            intro v hv
            subst hv
            refine z_istore [some (.ref 148), some (.int l1), none, some (.int l3), some (.int l4), some (.int (if l4 = 0 then l6 else (-1) : Int32)), some (.int l6)] rfl rfl rfl ?_
            refine z_iinc (-1) [some (.ref 148), some (.int l1), none, some (.int l3), some (.int (l4 + (-1))), some (.int (if l4 = 0 then l6 else (-1) : Int32)), some (.int l6)] rfl rfl rfl rfl ?_
            refine z_iinc 1 [some (.ref 148), some (.int l1), none, some (.int l3), some (.int (l4 + (-1))), some (.int (if l4 = 0 then l6 else (-1) : Int32)), some (.int (l6 + 1))] rfl rfl rfl rfl ?_
            refine z_goto rfl ?_
            refine Z.forget' [some (.ref 148), some (.int l1), none, some (.int l3), some (.int (l4 + (-1))), some (.int (if l4 = 0 then l6 else (-1) : Int32)), some (.int (l6 + 1))] ⟨rfl, ⟨rfl, ⟨rfl, ⟨rfl, ⟨rfl, ⟨rfl, trivial⟩⟩⟩⟩⟩⟩ ?_
            exact ih hw
          refine z_if_ne rfl (fun hp71 => ?_) (fun hp71 => ?_)
          · refine z_iconst (-1) rfl rfl ?_
            exact hj71 _ (by rw [if_neg hp71])
          · refine z_iload rfl rfl ?_
            refine z_goto rfl ?_
            exact hj71 _ (by rw [if_pos hp71])
def r_needs (post : Int32 → Mem → Prop) (S : Mem) (l1 : Int32) (l2 : Int32) : Prop :=
  r_isAction (fun r1 S1 =>
   ∀ S2, S2 = up2 S1 148 0 (if r1 = 0 then 1 else 0 : Int32) → (((S2 148 0) ≤ 0) →
    (vp_in l1 24) ∧ ∃ n, r_needs_L42 post n S2 l1 (S2 152 l1.toNatClampNeg) l2 (-1) 0) ∧
   ((¬ (S2 148 0) ≤ 0) →
    post 0 S2)) S l1
set_option maxRecDepth 100000 in
set_option maxHeartbeats 1000000 in
theorem zr_needs {g : Gm} {G : Gp} {S : Mem} {post : Int32 → Mem → Prop} {l1 : Int32} {l2 : Int32} (hx : G.2.2.2 = false) (hG : isR G) (hw : r_needs post S l1 l2) : Z g M_r_needs 0 0 0 (entryL [.ref 148, .int l1, .int l2] (mL M_r_needs)) [] (S, G) (Qi G post noEx) := by
  unfold r_needs at hw
  show Z g M_r_needs 0 0 0 [some (.ref 148), some (.int l1), some (.int l2), none, none, none, none] [] (S, G) (Qi G post noEx)
  refine z_aload_n rfl rfl ?_
  refine z_aload_n rfl rfl ?_
  refine z_iload_n rfl rfl ?_
  refine z_cvi (M' := M_r_isAction) [.int l1] hx rfl w_859 cv_r_isAction hG.1 (by decide) rfl rfl rfl rfl (zr_isAction hx hG hw) ?_ (fun _ _ hf => hf.elim)
  clear hw
  intro r1 S1 hw
  have hj6 : ∀ v : Int32, v = (if r1 = 0 then 1 else 0 : Int32) → Z g M_r_needs 0 0 14 [some (.ref 148), some (.int l1), some (.int l2), none, none, none, none] [.int v, .ref 148] (S1, G) (Qi G post noEx) := by
    intro v hv
    subst hv
    replace hw := hw _ rfl
    refine z_puti (ci := 7) 0 rfl hG.1 rfl w_658 rfl rfl rfl ?_
    refine z_aload_n rfl rfl ?_
    refine z_geti (ci := 7) 0 rfl hG.1 rfl w_658 ?_
    refine z_if_le rfl (fun hq => ?_) (fun hq => ?_)
    · replace hw := hw.1 hq
      refine z_aload_n rfl rfl ?_
      refine z_getr (ci := 7) 5 rfl hG.1 rfl w_663 hG.2.2.2.2.2.2.2.1 ?_
      refine z_iload_n rfl rfl ?_
      obtain ⟨hc1, hw⟩ := hw
      refine z_iald (l1.toNatClampNeg) rfl hG.2.2.2.2.2.2.2.2.1 hc1 rfl ?_
      refine z_istore_n [some (.ref 148), some (.int l1), some (.int l2), some (.int ((up2 S1 148 0 (if r1 = 0 then 1 else 0 : Int32)) 152 l1.toNatClampNeg)), none, none, none] rfl rfl rfl ?_
      refine z_iload_n rfl rfl ?_
      refine z_istore [some (.ref 148), some (.int l1), some (.int l2), some (.int ((up2 S1 148 0 (if r1 = 0 then 1 else 0 : Int32)) 152 l1.toNatClampNeg)), some (.int l2), none, none] rfl rfl rfl ?_
      refine z_iconst (-1) rfl rfl ?_
      refine z_istore [some (.ref 148), some (.int l1), some (.int l2), some (.int ((up2 S1 148 0 (if r1 = 0 then 1 else 0 : Int32)) 152 l1.toNatClampNeg)), some (.int l2), some (.int (-1)), none] rfl rfl rfl ?_
      refine z_iconst 0 rfl rfl ?_
      refine z_istore [some (.ref 148), some (.int l1), some (.int l2), some (.int ((up2 S1 148 0 (if r1 = 0 then 1 else 0 : Int32)) 152 l1.toNatClampNeg)), some (.int l2), some (.int (-1)), some (.int 0)] rfl rfl rfl ?_
      refine Z.forget' [some (.ref 148), some (.int l1), none, some (.int ((up2 S1 148 0 (if r1 = 0 then 1 else 0 : Int32)) 152 l1.toNatClampNeg)), some (.int l2), some (.int (-1)), some (.int 0)] ⟨rfl, ⟨rfl, ⟨rfl, ⟨rfl, ⟨rfl, ⟨rfl, trivial⟩⟩⟩⟩⟩⟩ ?_
      obtain ⟨n, hw⟩ := hw
      exact zr_needs_L42 hx hG n hw
    · replace hw := hw.2 hq
      refine z_iconst 0 rfl rfl ?_
      exact z_iret rfl rfl rfl rfl (Or.inl ⟨_, _, rfl, rfl, hw⟩)
  refine z_if_eq rfl (fun hp6 => ?_) (fun hp6 => ?_)
  · refine z_iconst 1 rfl rfl ?_
    exact hj6 _ (by rw [if_pos hp6])
  · refine z_iconst 0 rfl rfl ?_
    refine z_goto rfl ?_
    exact hj6 _ (by rw [if_neg hp6])
def r_objects (post : Int32 → Mem → Prop) (S : Mem)  : Prop :=
  ∀ S1, S1 = up2 S 148 0 0 → post (S1 148 7) S1
set_option maxRecDepth 100000 in
set_option maxHeartbeats 1000000 in
theorem zr_objects {g : Gm} {G : Gp} {S : Mem} {post : Int32 → Mem → Prop}  (hx : G.2.2.2 = false) (hG : isR G) (hw : r_objects post S ) : Z g M_r_objects 0 0 0 (entryL [.ref 148] (mL M_r_objects)) [] (S, G) (Qi G post noEx) := by
  unfold r_objects at hw
  show Z g M_r_objects 0 0 0 [some (.ref 148)] [] (S, G) (Qi G post noEx)
  refine z_aload_n rfl rfl ?_
  refine z_iconst 0 rfl rfl ?_
  replace hw := hw _ rfl
  refine z_puti (ci := 7) 0 rfl hG.1 rfl w_658 rfl rfl rfl ?_
  refine z_aload_n rfl rfl ?_
  refine z_geti (ci := 7) 7 rfl hG.1 rfl w_665 ?_
  exact z_iret rfl rfl rfl rfl (Or.inl ⟨_, _, rfl, rfl, hw⟩)
def r_object (post : Int32 → Mem → Prop) (S : Mem) (l1 : Int32) (l2 : Int32) : Prop :=
  ∀ S1, S1 = up2 S 148 0 (if l1 < 0 then 1 else (if (S 148 7) ≤ l1 then 1 else (if l2 < 0 then 1 else (if 8 ≤ l2 then 1 else 0 : Int32) : Int32) : Int32) : Int32) → (((S1 148 0) ≤ 0) →
   (vp_in ((8 * l1) + 1) 112) ∧ 
   (((S1 154 ((8 * l1) + 1).toNatClampNeg) = 3) →
    r_behind (fun r1 S2 =>
     r_findBox (fun S3 =>
      (l2 = 2 → post (S3 148 12) S3) ∧
      (l2 = 3 → post (S3 148 13) S3) ∧
      (l2 = 4 → post ((S3 148 14) - (S3 148 12)) S3) ∧
      (l2 = 5 → post ((S3 148 15) - (S3 148 13)) S3) ∧
      (l2 = 6 → post (-1) S3) ∧
      ((l2.toInt < 2 ∨ 6 < l2.toInt) → (vp_in ((8 * l1) + l2) 112) ∧ 
       post (S3 154 ((8 * l1) + l2).toNatClampNeg) S3)) S2 l1 r1) S1 l1) ∧
   ((¬ (S1 154 ((8 * l1) + 1).toNatClampNeg) = 3) →
    (vp_in ((8 * l1) + l2) 112) ∧ 
    post (S1 154 ((8 * l1) + l2).toNatClampNeg) S1)) ∧
  ((¬ (S1 148 0) ≤ 0) →
   post 0 S1)
set_option maxRecDepth 100000 in
set_option maxHeartbeats 1000000 in
theorem zr_object {g : Gm} {G : Gp} {S : Mem} {post : Int32 → Mem → Prop} {l1 : Int32} {l2 : Int32} (hx : G.2.2.2 = false) (hG : isR G) (hw : r_object post S l1 l2) : Z g M_r_object 0 0 0 (entryL [.ref 148, .int l1, .int l2] (mL M_r_object)) [] (S, G) (Qi G post noEx) := by
  unfold r_object at hw
  show Z g M_r_object 0 0 0 [some (.ref 148), some (.int l1), some (.int l2)] [] (S, G) (Qi G post noEx)
  refine z_aload_n rfl rfl ?_
  refine z_iload_n rfl rfl ?_
  have hj2 : ∀ v : Int32, v = (if l1 < 0 then 1 else (if (S 148 7) ≤ l1 then 1 else (if l2 < 0 then 1 else (if 8 ≤ l2 then 1 else 0 : Int32) : Int32) : Int32) : Int32) → Z g M_r_object 0 0 28 [some (.ref 148), some (.int l1), some (.int l2)] [.int v, .ref 148] (S, G) (Qi G post noEx) := by
    intro v hv
    subst hv
    replace hw := hw _ rfl
    refine z_puti (ci := 7) 0 rfl hG.1 rfl w_658 rfl rfl rfl ?_
    refine z_aload_n rfl rfl ?_
    refine z_geti (ci := 7) 0 rfl hG.1 rfl w_658 ?_
    refine z_if_le rfl (fun hq => ?_) (fun hq => ?_)
    · replace hw := hw.1 hq
      refine z_aload_n rfl rfl ?_
      refine z_iload_n rfl rfl ?_
      refine z_iconst 1 rfl rfl ?_
      obtain ⟨hc1, hw⟩ := hw
      refine z_cvi (M' := M_r_of) (post := fun v S' => ((up2 S 148 0 (if l1 < 0 then 1 else (if (S 148 7) ≤ l1 then 1 else (if l2 < 0 then 1 else (if 8 ≤ l2 then 1 else 0 : Int32) : Int32) : Int32) : Int32)) 154 ((8 * l1) + 1).toNatClampNeg) = v ∧ (up2 S 148 0 (if l1 < 0 then 1 else (if (S 148 7) ≤ l1 then 1 else (if l2 < 0 then 1 else (if 8 ≤ l2 then 1 else 0 : Int32) : Int32) : Int32) : Int32)) = S') [.int l1, .int 1] hx rfl w_754 cv_r_of hG.1 (by decide) rfl rfl rfl rfl (zr_of hx hG (⟨hc1, ⟨rfl, rfl⟩⟩)) ?_ (fun _ _ hf => hf.elim)
      rintro v S' ⟨rfl, rfl⟩
      refine z_iconst 3 rfl rfl ?_
      refine z_icmp_eq rfl (fun hq => ?_) (fun hq => ?_)
      · replace hw := hw.1 hq
        refine z_aload_n rfl rfl ?_
        refine z_iload_n rfl rfl ?_
        refine z_aload_n rfl rfl ?_
        refine z_iload_n rfl rfl ?_
        refine z_cvi (M' := M_r_behind) [.int l1] hx rfl w_782 cv_r_behind hG.1 (by decide) rfl rfl rfl rfl (zr_behind hx hG hw) ?_ (fun _ _ hf => hf.elim)
        clear hw
        intro r1 S2 hw
        refine z_cvv (M' := M_r_findBox) [.int l1, .int r1] hx rfl w_802 cv_r_findBox hG.1 (by decide) rfl rfl rfl rfl (zr_findBox hx hG hw) ?_ (fun _ _ hf => hf.elim)
        clear hw
        intro S3 hw
        refine z_iload_n rfl rfl ?_
        by_cases hr : l2.toInt < 2 ∨ 6 < l2.toInt
        · refine z_switch 136 rfl (sw_out hr rfl) ?_
          replace hw := hw.2.2.2.2.2 hr
          refine z_aload_n rfl rfl ?_
          refine z_iload_n rfl rfl ?_
          refine z_iload_n rfl rfl ?_
          obtain ⟨hc2, hw⟩ := hw
          refine z_cvi (M' := M_r_of) (post := fun v S' => (S3 154 ((8 * l1) + l2).toNatClampNeg) = v ∧ S3 = S') [.int l1, .int l2] hx rfl w_754 cv_r_of hG.1 (by decide) rfl rfl rfl rfl (zr_of hx hG (⟨hc2, ⟨rfl, rfl⟩⟩)) ?_ (fun _ _ hf => hf.elim)
          rintro v S' ⟨rfl, rfl⟩
          exact z_iret rfl rfl rfl rfl (Or.inl ⟨_, _, rfl, rfl, hw⟩)
        · rcases sw_2_6 hr with hq | hq | hq | hq | hq
          · replace hw := hw.1 hq
            refine z_switch 104 rfl (sw_eq hq rfl) ?_
            refine z_aload_n rfl rfl ?_
            refine z_geti (ci := 7) 12 rfl hG.1 rfl w_670 ?_
            exact z_iret rfl rfl rfl rfl (Or.inl ⟨_, _, rfl, rfl, hw⟩)
          · replace hw := hw.2.1 hq
            refine z_switch 109 rfl (sw_eq hq rfl) ?_
            refine z_aload_n rfl rfl ?_
            refine z_geti (ci := 7) 13 rfl hG.1 rfl w_671 ?_
            exact z_iret rfl rfl rfl rfl (Or.inl ⟨_, _, rfl, rfl, hw⟩)
          · replace hw := hw.2.2.1 hq
            refine z_switch 114 rfl (sw_eq hq rfl) ?_
            refine z_aload_n rfl rfl ?_
            refine z_geti (ci := 7) 14 rfl hG.1 rfl w_672 ?_
            refine z_aload_n rfl rfl ?_
            refine z_geti (ci := 7) 12 rfl hG.1 rfl w_670 ?_
            refine z_isub rfl ?_
            exact z_iret rfl rfl rfl rfl (Or.inl ⟨_, _, rfl, rfl, hw⟩)
          · replace hw := hw.2.2.2.1 hq
            refine z_switch 124 rfl (sw_eq hq rfl) ?_
            refine z_aload_n rfl rfl ?_
            refine z_geti (ci := 7) 15 rfl hG.1 rfl w_673 ?_
            refine z_aload_n rfl rfl ?_
            refine z_geti (ci := 7) 13 rfl hG.1 rfl w_671 ?_
            refine z_isub rfl ?_
            exact z_iret rfl rfl rfl rfl (Or.inl ⟨_, _, rfl, rfl, hw⟩)
          · replace hw := hw.2.2.2.2.1 hq
            refine z_switch 134 rfl (sw_eq hq rfl) ?_
            refine z_iconst (-1) rfl rfl ?_
            exact z_iret rfl rfl rfl rfl (Or.inl ⟨_, _, rfl, rfl, hw⟩)
      · replace hw := hw.2 hq
        refine z_aload_n rfl rfl ?_
        refine z_iload_n rfl rfl ?_
        refine z_iload_n rfl rfl ?_
        obtain ⟨hc3, hw⟩ := hw
        refine z_cvi (M' := M_r_of) (post := fun v S' => ((up2 S 148 0 (if l1 < 0 then 1 else (if (S 148 7) ≤ l1 then 1 else (if l2 < 0 then 1 else (if 8 ≤ l2 then 1 else 0 : Int32) : Int32) : Int32) : Int32)) 154 ((8 * l1) + l2).toNatClampNeg) = v ∧ (up2 S 148 0 (if l1 < 0 then 1 else (if (S 148 7) ≤ l1 then 1 else (if l2 < 0 then 1 else (if 8 ≤ l2 then 1 else 0 : Int32) : Int32) : Int32) : Int32)) = S') [.int l1, .int l2] hx rfl w_754 cv_r_of hG.1 (by decide) rfl rfl rfl rfl (zr_of hx hG (⟨hc3, ⟨rfl, rfl⟩⟩)) ?_ (fun _ _ hf => hf.elim)
        rintro v S' ⟨rfl, rfl⟩
        exact z_iret rfl rfl rfl rfl (Or.inl ⟨_, _, rfl, rfl, hw⟩)
    · replace hw := hw.2 hq
      refine z_iconst 0 rfl rfl ?_
      exact z_iret rfl rfl rfl rfl (Or.inl ⟨_, _, rfl, rfl, hw⟩)
  refine z_if_lt rfl (fun hp2 => ?_) (fun hp2 => ?_)
  · refine z_iconst 1 rfl rfl ?_
    exact hj2 _ (by rw [if_pos hp2])
  · refine z_iload_n rfl rfl ?_
    refine z_aload_n rfl rfl ?_
    refine z_geti (ci := 7) 7 rfl hG.1 rfl w_665 ?_
    refine z_icmp_ge rfl (fun hp10 => ?_) (fun hp10 => ?_)
    · refine z_iconst 1 rfl rfl ?_
      exact hj2 _ (by rw [if_neg hp2, if_pos hp10])
    · refine z_iload_n rfl rfl ?_
      refine z_if_lt rfl (fun hp14 => ?_) (fun hp14 => ?_)
      · refine z_iconst 1 rfl rfl ?_
        exact hj2 _ (by rw [if_neg hp2, if_neg hp10, if_pos hp14])
      · refine z_iload_n rfl rfl ?_
        refine z_bipush 8 rfl rfl ?_
        refine z_icmp_ge rfl (fun hp20 => ?_) (fun hp20 => ?_)
        · refine z_iconst 1 rfl rfl ?_
          exact hj2 _ (by rw [if_neg hp2, if_neg hp10, if_neg hp14, if_pos hp20])
        · refine z_iconst 0 rfl rfl ?_
          refine z_goto rfl ?_
          exact hj2 _ (by rw [if_neg hp2, if_neg hp10, if_neg hp14, if_neg hp20])
def r_size (post : Int64 → Mem → Prop) (S : Mem) (l0 : Int64) : Prop :=
  post (if 0 ≤ (lg_cmp l0 0) then l0 else (-l0) : Int64) S
set_option maxRecDepth 100000 in
set_option maxHeartbeats 1000000 in
theorem zr_size {g : Gm} {G : Gp} {S : Mem} {post : Int64 → Mem → Prop} {l0 : Int64} (hx : G.2.2.2 = false) (hG : isR G) (hw : r_size post S l0) : Z g M_r_size 0 0 0 (entryL [.long l0] (mL M_r_size)) [] (S, G) (Ql G post noEx) := by
  unfold r_size at hw
  show Z g M_r_size 0 0 0 [some (.long l0), none] [] (S, G) (Ql G post noEx)
  refine z_lload_n rfl rfl ?_
  refine z_lconst 0 rfl rfl ?_
  refine z_lcmp rfl ?_
  have hj3 : ∀ v : Int64, v = (if 0 ≤ (lg_cmp l0 0) then l0 else (-l0) : Int64) → Z g M_r_size 0 0 12 [some (.long l0), none] [.long v] (S, G) (Ql G post noEx) := by
    intro v hv
    subst hv
    exact z_lret rfl rfl rfl rfl (Or.inl ⟨_, _, rfl, rfl, hw⟩)
  refine z_if_ge rfl (fun hp3 => ?_) (fun hp3 => ?_)
  · refine z_lload_n rfl rfl ?_
    exact hj3 _ (by rw [if_pos hp3])
  · refine z_lload_n rfl rfl ?_
    refine z_lneg rfl ?_
    refine z_goto rfl ?_
    exact hj3 _ (by rw [if_neg hp3])
end
section
def r_covers (post : Int32 → Mem → Prop) (S : Mem) (l1 : Int32) (l2 : Int32) (l3 : Int32) : Prop :=
  (vp_in ((8 * l1) + 4) 112) ∧ 
  (vp_in ((8 * l1) + 5) 112) ∧ 
  (vp_in ((8 * l1) + 1) 112) ∧ 
  (((S 154 ((8 * l1) + 1).toNatClampNeg) = 3) →
   post 0 S) ∧
  ((¬ (S 154 ((8 * l1) + 1).toNatClampNeg) = 3) →
   (vp_in ((8 * l1) + 2) 112) ∧ 
   ((l2 < (S 154 ((8 * l1) + 2).toNatClampNeg)) →
    post 0 S) ∧
   ((¬ l2 < (S 154 ((8 * l1) + 2).toNatClampNeg)) →
    (vp_in ((8 * l1) + 2) 112) ∧ 
    ((0 ≤ (lg_cmp (l2).toInt64 (((S 154 ((8 * l1) + 2).toNatClampNeg)).toInt64 + ((S 154 ((8 * l1) + 4).toNatClampNeg)).toInt64))) →
     post 0 S) ∧
    ((¬ 0 ≤ (lg_cmp (l2).toInt64 (((S 154 ((8 * l1) + 2).toNatClampNeg)).toInt64 + ((S 154 ((8 * l1) + 4).toNatClampNeg)).toInt64))) →
     (vp_in ((8 * l1) + 3) 112) ∧ 
     ((l3 < (S 154 ((8 * l1) + 3).toNatClampNeg)) →
      post 0 S) ∧
     ((¬ l3 < (S 154 ((8 * l1) + 3).toNatClampNeg)) →
      (vp_in ((8 * l1) + 3) 112) ∧ 
      (((lg_cmp (l3).toInt64 (((S 154 ((8 * l1) + 3).toNatClampNeg)).toInt64 + ((S 154 ((8 * l1) + 5).toNatClampNeg)).toInt64)) < 0) →
       (vp_in ((8 * l1) + 2) 112) ∧ 
       (vp_in ((8 * l1) + 3) 112) ∧ 
       (vp_in ((8 * l1) + 1) 112) ∧ 
       (((S 154 ((8 * l1) + 1).toNatClampNeg) = 0) →
        post 1 S) ∧
       ((¬ (S 154 ((8 * l1) + 1).toNatClampNeg) = 0) →
        (vp_in ((8 * l1) + 1) 112) ∧ 
        ((¬ (S 154 ((8 * l1) + 1).toNatClampNeg) = 1) →
         r_size (fun r1 S1 =>
          r_size (fun r2 S2 =>
           ((0 < (lg_cmp ((r1 * ((S 154 ((8 * l1) + 5).toNatClampNeg)).toInt64) + (r2 * ((S 154 ((8 * l1) + 4).toNatClampNeg)).toInt64)) (((S 154 ((8 * l1) + 4).toNatClampNeg)).toInt64 * ((S 154 ((8 * l1) + 5).toNatClampNeg)).toInt64))) →
            post 0 S2) ∧
           ((¬ 0 < (lg_cmp ((r1 * ((S 154 ((8 * l1) + 5).toNatClampNeg)).toInt64) + (r2 * ((S 154 ((8 * l1) + 4).toNatClampNeg)).toInt64)) (((S 154 ((8 * l1) + 4).toNatClampNeg)).toInt64 * ((S 154 ((8 * l1) + 5).toNatClampNeg)).toInt64))) →
            post 1 S2)) S1 (((2 * ((l3 - (S 154 ((8 * l1) + 3).toNatClampNeg))).toInt64) + 1) - ((S 154 ((8 * l1) + 5).toNatClampNeg)).toInt64)) S (((2 * ((l2 - (S 154 ((8 * l1) + 2).toNatClampNeg))).toInt64) + 1) - ((S 154 ((8 * l1) + 4).toNatClampNeg)).toInt64)) ∧
        (((S 154 ((8 * l1) + 1).toNatClampNeg) = 1) →
         ((0 < (lg_cmp (((((((2 * ((l2 - (S 154 ((8 * l1) + 2).toNatClampNeg))).toInt64) + 1) - ((S 154 ((8 * l1) + 4).toNatClampNeg)).toInt64) * (((2 * ((l2 - (S 154 ((8 * l1) + 2).toNatClampNeg))).toInt64) + 1) - ((S 154 ((8 * l1) + 4).toNatClampNeg)).toInt64)) * ((S 154 ((8 * l1) + 5).toNatClampNeg)).toInt64) * ((S 154 ((8 * l1) + 5).toNatClampNeg)).toInt64) + ((((((2 * ((l3 - (S 154 ((8 * l1) + 3).toNatClampNeg))).toInt64) + 1) - ((S 154 ((8 * l1) + 5).toNatClampNeg)).toInt64) * (((2 * ((l3 - (S 154 ((8 * l1) + 3).toNatClampNeg))).toInt64) + 1) - ((S 154 ((8 * l1) + 5).toNatClampNeg)).toInt64)) * ((S 154 ((8 * l1) + 4).toNatClampNeg)).toInt64) * ((S 154 ((8 * l1) + 4).toNatClampNeg)).toInt64)) (((((S 154 ((8 * l1) + 4).toNatClampNeg)).toInt64 * ((S 154 ((8 * l1) + 4).toNatClampNeg)).toInt64) * ((S 154 ((8 * l1) + 5).toNatClampNeg)).toInt64) * ((S 154 ((8 * l1) + 5).toNatClampNeg)).toInt64))) →
          post 0 S) ∧
         ((¬ 0 < (lg_cmp (((((((2 * ((l2 - (S 154 ((8 * l1) + 2).toNatClampNeg))).toInt64) + 1) - ((S 154 ((8 * l1) + 4).toNatClampNeg)).toInt64) * (((2 * ((l2 - (S 154 ((8 * l1) + 2).toNatClampNeg))).toInt64) + 1) - ((S 154 ((8 * l1) + 4).toNatClampNeg)).toInt64)) * ((S 154 ((8 * l1) + 5).toNatClampNeg)).toInt64) * ((S 154 ((8 * l1) + 5).toNatClampNeg)).toInt64) + ((((((2 * ((l3 - (S 154 ((8 * l1) + 3).toNatClampNeg))).toInt64) + 1) - ((S 154 ((8 * l1) + 5).toNatClampNeg)).toInt64) * (((2 * ((l3 - (S 154 ((8 * l1) + 3).toNatClampNeg))).toInt64) + 1) - ((S 154 ((8 * l1) + 5).toNatClampNeg)).toInt64)) * ((S 154 ((8 * l1) + 4).toNatClampNeg)).toInt64) * ((S 154 ((8 * l1) + 4).toNatClampNeg)).toInt64)) (((((S 154 ((8 * l1) + 4).toNatClampNeg)).toInt64 * ((S 154 ((8 * l1) + 4).toNatClampNeg)).toInt64) * ((S 154 ((8 * l1) + 5).toNatClampNeg)).toInt64) * ((S 154 ((8 * l1) + 5).toNatClampNeg)).toInt64))) →
          post 1 S)))) ∧
      ((¬ (lg_cmp (l3).toInt64 (((S 154 ((8 * l1) + 3).toNatClampNeg)).toInt64 + ((S 154 ((8 * l1) + 5).toNatClampNeg)).toInt64)) < 0) →
       post 0 S)))))
set_option maxRecDepth 100000 in
set_option maxHeartbeats 1000000 in
theorem zr_covers {g : Gm} {G : Gp} {S : Mem} {post : Int32 → Mem → Prop} {l1 : Int32} {l2 : Int32} {l3 : Int32} (hx : G.2.2.2 = false) (hG : isR G) (hw : r_covers post S l1 l2 l3) : Z g M_r_covers 0 0 0 (entryL [.ref 148, .int l1, .int l2, .int l3] (mL M_r_covers)) [] (S, G) (Qi G post noEx) := by
  unfold r_covers at hw
  show Z g M_r_covers 0 0 0 [some (.ref 148), some (.int l1), some (.int l2), some (.int l3), none, none, none, none, none, none, none, none] [] (S, G) (Qi G post noEx)
  refine z_aload_n rfl rfl ?_
  refine z_iload_n rfl rfl ?_
  refine z_iconst 4 rfl rfl ?_
  obtain ⟨hc1, hw⟩ := hw
  refine z_cvi (M' := M_r_of) (post := fun v S' => (S 154 ((8 * l1) + 4).toNatClampNeg) = v ∧ S = S') [.int l1, .int 4] hx rfl w_754 cv_r_of hG.1 (by decide) rfl rfl rfl rfl (zr_of hx hG (⟨hc1, ⟨rfl, rfl⟩⟩)) ?_ (fun _ _ hf => hf.elim)
  rintro v S' ⟨rfl, rfl⟩
  refine z_i2l rfl ?_
  refine z_lstore [some (.ref 148), some (.int l1), some (.int l2), some (.int l3), some (.long ((S 154 ((8 * l1) + 4).toNatClampNeg)).toInt64), none, none, none, none, none, none, none] rfl rfl rfl ?_
  refine z_aload_n rfl rfl ?_
  refine z_iload_n rfl rfl ?_
  refine z_iconst 5 rfl rfl ?_
  obtain ⟨hc2, hw⟩ := hw
  refine z_cvi (M' := M_r_of) (post := fun v S' => (S 154 ((8 * l1) + 5).toNatClampNeg) = v ∧ S = S') [.int l1, .int 5] hx rfl w_754 cv_r_of hG.1 (by decide) rfl rfl rfl rfl (zr_of hx hG (⟨hc2, ⟨rfl, rfl⟩⟩)) ?_ (fun _ _ hf => hf.elim)
  rintro v S' ⟨rfl, rfl⟩
  refine z_i2l rfl ?_
  refine z_lstore [some (.ref 148), some (.int l1), some (.int l2), some (.int l3), some (.long ((S 154 ((8 * l1) + 4).toNatClampNeg)).toInt64), none, some (.long ((S 154 ((8 * l1) + 5).toNatClampNeg)).toInt64), none, none, none, none, none] rfl rfl rfl ?_
  refine z_aload_n rfl rfl ?_
  refine z_iload_n rfl rfl ?_
  refine z_iconst 1 rfl rfl ?_
  obtain ⟨hc3, hw⟩ := hw
  refine z_cvi (M' := M_r_of) (post := fun v S' => (S 154 ((8 * l1) + 1).toNatClampNeg) = v ∧ S = S') [.int l1, .int 1] hx rfl w_754 cv_r_of hG.1 (by decide) rfl rfl rfl rfl (zr_of hx hG (⟨hc3, ⟨rfl, rfl⟩⟩)) ?_ (fun _ _ hf => hf.elim)
  rintro v S' ⟨rfl, rfl⟩
  refine z_iconst 3 rfl rfl ?_
  refine z_icmp_eq rfl (fun hq => ?_) (fun hq => ?_)
  · replace hw := hw.1 hq
    refine z_iconst 0 rfl rfl ?_
    exact z_zret rfl rfl (by decide) rfl rfl (Or.inl ⟨_, _, rfl, rfl, hw⟩)
  · replace hw := hw.2 hq
    refine z_iload_n rfl rfl ?_
    refine z_aload_n rfl rfl ?_
    refine z_iload_n rfl rfl ?_
    refine z_iconst 2 rfl rfl ?_
    obtain ⟨hc4, hw⟩ := hw
    refine z_cvi (M' := M_r_of) (post := fun v S' => (S 154 ((8 * l1) + 2).toNatClampNeg) = v ∧ S = S') [.int l1, .int 2] hx rfl w_754 cv_r_of hG.1 (by decide) rfl rfl rfl rfl (zr_of hx hG (⟨hc4, ⟨rfl, rfl⟩⟩)) ?_ (fun _ _ hf => hf.elim)
    rintro v S' ⟨rfl, rfl⟩
    refine z_icmp_lt rfl (fun hq => ?_) (fun hq => ?_)
    · replace hw := hw.1 hq
      refine z_iconst 0 rfl rfl ?_
      exact z_zret rfl rfl (by decide) rfl rfl (Or.inl ⟨_, _, rfl, rfl, hw⟩)
    · replace hw := hw.2 hq
      refine z_iload_n rfl rfl ?_
      refine z_i2l rfl ?_
      refine z_aload_n rfl rfl ?_
      refine z_iload_n rfl rfl ?_
      refine z_iconst 2 rfl rfl ?_
      obtain ⟨hc5, hw⟩ := hw
      refine z_cvi (M' := M_r_of) (post := fun v S' => (S 154 ((8 * l1) + 2).toNatClampNeg) = v ∧ S = S') [.int l1, .int 2] hx rfl w_754 cv_r_of hG.1 (by decide) rfl rfl rfl rfl (zr_of hx hG (⟨hc5, ⟨rfl, rfl⟩⟩)) ?_ (fun _ _ hf => hf.elim)
      rintro v S' ⟨rfl, rfl⟩
      refine z_i2l rfl ?_
      refine z_lload rfl rfl ?_
      refine z_ladd rfl ?_
      refine z_lcmp rfl ?_
      refine z_if_ge rfl (fun hq => ?_) (fun hq => ?_)
      · replace hw := hw.1 hq
        refine z_iconst 0 rfl rfl ?_
        exact z_zret rfl rfl (by decide) rfl rfl (Or.inl ⟨_, _, rfl, rfl, hw⟩)
      · replace hw := hw.2 hq
        refine z_iload_n rfl rfl ?_
        refine z_aload_n rfl rfl ?_
        refine z_iload_n rfl rfl ?_
        refine z_iconst 3 rfl rfl ?_
        obtain ⟨hc6, hw⟩ := hw
        refine z_cvi (M' := M_r_of) (post := fun v S' => (S 154 ((8 * l1) + 3).toNatClampNeg) = v ∧ S = S') [.int l1, .int 3] hx rfl w_754 cv_r_of hG.1 (by decide) rfl rfl rfl rfl (zr_of hx hG (⟨hc6, ⟨rfl, rfl⟩⟩)) ?_ (fun _ _ hf => hf.elim)
        rintro v S' ⟨rfl, rfl⟩
        refine z_icmp_lt rfl (fun hq => ?_) (fun hq => ?_)
        · replace hw := hw.1 hq
          refine z_iconst 0 rfl rfl ?_
          exact z_zret rfl rfl (by decide) rfl rfl (Or.inl ⟨_, _, rfl, rfl, hw⟩)
        · replace hw := hw.2 hq
          refine z_iload_n rfl rfl ?_
          refine z_i2l rfl ?_
          refine z_aload_n rfl rfl ?_
          refine z_iload_n rfl rfl ?_
          refine z_iconst 3 rfl rfl ?_
          obtain ⟨hc7, hw⟩ := hw
          refine z_cvi (M' := M_r_of) (post := fun v S' => (S 154 ((8 * l1) + 3).toNatClampNeg) = v ∧ S = S') [.int l1, .int 3] hx rfl w_754 cv_r_of hG.1 (by decide) rfl rfl rfl rfl (zr_of hx hG (⟨hc7, ⟨rfl, rfl⟩⟩)) ?_ (fun _ _ hf => hf.elim)
          rintro v S' ⟨rfl, rfl⟩
          refine z_i2l rfl ?_
          refine z_lload rfl rfl ?_
          refine z_ladd rfl ?_
          refine z_lcmp rfl ?_
          refine z_if_lt rfl (fun hq => ?_) (fun hq => ?_)
          · replace hw := hw.1 hq
            refine z_ldc2 rfl w_931 ?_
            refine z_iload_n rfl rfl ?_
            refine z_aload_n rfl rfl ?_
            refine z_iload_n rfl rfl ?_
            refine z_iconst 2 rfl rfl ?_
            obtain ⟨hc8, hw⟩ := hw
            refine z_cvi (M' := M_r_of) (post := fun v S' => (S 154 ((8 * l1) + 2).toNatClampNeg) = v ∧ S = S') [.int l1, .int 2] hx rfl w_754 cv_r_of hG.1 (by decide) rfl rfl rfl rfl (zr_of hx hG (⟨hc8, ⟨rfl, rfl⟩⟩)) ?_ (fun _ _ hf => hf.elim)
            rintro v S' ⟨rfl, rfl⟩
            refine z_isub rfl ?_
            refine z_i2l rfl ?_
            refine z_lmul rfl ?_
            refine z_lconst 1 rfl rfl ?_
            refine z_ladd rfl ?_
            refine z_lload rfl rfl ?_
            refine z_lsub rfl ?_
            refine z_lstore [some (.ref 148), some (.int l1), some (.int l2), some (.int l3), some (.long ((S 154 ((8 * l1) + 4).toNatClampNeg)).toInt64), none, some (.long ((S 154 ((8 * l1) + 5).toNatClampNeg)).toInt64), none, some (.long (((2 * ((l2 - (S 154 ((8 * l1) + 2).toNatClampNeg))).toInt64) + 1) - ((S 154 ((8 * l1) + 4).toNatClampNeg)).toInt64)), none, none, none] rfl rfl rfl ?_
            refine z_ldc2 rfl w_931 ?_
            refine z_iload_n rfl rfl ?_
            refine z_aload_n rfl rfl ?_
            refine z_iload_n rfl rfl ?_
            refine z_iconst 3 rfl rfl ?_
            obtain ⟨hc9, hw⟩ := hw
            refine z_cvi (M' := M_r_of) (post := fun v S' => (S 154 ((8 * l1) + 3).toNatClampNeg) = v ∧ S = S') [.int l1, .int 3] hx rfl w_754 cv_r_of hG.1 (by decide) rfl rfl rfl rfl (zr_of hx hG (⟨hc9, ⟨rfl, rfl⟩⟩)) ?_ (fun _ _ hf => hf.elim)
            rintro v S' ⟨rfl, rfl⟩
            refine z_isub rfl ?_
            refine z_i2l rfl ?_
            refine z_lmul rfl ?_
            refine z_lconst 1 rfl rfl ?_
            refine z_ladd rfl ?_
            refine z_lload rfl rfl ?_
            refine z_lsub rfl ?_
            refine z_lstore [some (.ref 148), some (.int l1), some (.int l2), some (.int l3), some (.long ((S 154 ((8 * l1) + 4).toNatClampNeg)).toInt64), none, some (.long ((S 154 ((8 * l1) + 5).toNatClampNeg)).toInt64), none, some (.long (((2 * ((l2 - (S 154 ((8 * l1) + 2).toNatClampNeg))).toInt64) + 1) - ((S 154 ((8 * l1) + 4).toNatClampNeg)).toInt64)), none, some (.long (((2 * ((l3 - (S 154 ((8 * l1) + 3).toNatClampNeg))).toInt64) + 1) - ((S 154 ((8 * l1) + 5).toNatClampNeg)).toInt64)), none] rfl rfl rfl ?_
            refine z_aload_n rfl rfl ?_
            refine z_iload_n rfl rfl ?_
            refine z_iconst 1 rfl rfl ?_
            obtain ⟨hc10, hw⟩ := hw
            refine z_cvi (M' := M_r_of) (post := fun v S' => (S 154 ((8 * l1) + 1).toNatClampNeg) = v ∧ S = S') [.int l1, .int 1] hx rfl w_754 cv_r_of hG.1 (by decide) rfl rfl rfl rfl (zr_of hx hG (⟨hc10, ⟨rfl, rfl⟩⟩)) ?_ (fun _ _ hf => hf.elim)
            rintro v S' ⟨rfl, rfl⟩
            refine z_if_eq rfl (fun hq => ?_) (fun hq => ?_)
            · replace hw := hw.1 hq
              refine z_iconst 1 rfl rfl ?_
              refine z_goto rfl ?_
              exact z_zret rfl rfl (by decide) rfl rfl (Or.inl ⟨_, _, rfl, rfl, hw⟩)
            · replace hw := hw.2 hq
              refine z_aload_n rfl rfl ?_
              refine z_iload_n rfl rfl ?_
              refine z_iconst 1 rfl rfl ?_
              obtain ⟨hc11, hw⟩ := hw
              refine z_cvi (M' := M_r_of) (post := fun v S' => (S 154 ((8 * l1) + 1).toNatClampNeg) = v ∧ S = S') [.int l1, .int 1] hx rfl w_754 cv_r_of hG.1 (by decide) rfl rfl rfl rfl (zr_of hx hG (⟨hc11, ⟨rfl, rfl⟩⟩)) ?_ (fun _ _ hf => hf.elim)
              rintro v S' ⟨rfl, rfl⟩
              refine z_iconst 1 rfl rfl ?_
              refine z_icmp_ne rfl (fun hq => ?_) (fun hq => ?_)
              · replace hw := hw.1 hq
                refine z_lload rfl rfl ?_
                refine z_csl (M' := M_r_size) [.long (((2 * ((l2 - (S 154 ((8 * l1) + 2).toNatClampNeg))).toInt64) + 1) - ((S 154 ((8 * l1) + 4).toNatClampNeg)).toInt64)] hx rfl w_932 cs_r_size rfl rfl rfl (zr_size hx hG hw) ?_ (fun _ _ hf => hf.elim)
                clear hw
                intro r1 S1 hw
                refine z_lload rfl rfl ?_
                refine z_lmul rfl ?_
                refine z_lload rfl rfl ?_
                refine z_csl (M' := M_r_size) [.long (((2 * ((l3 - (S 154 ((8 * l1) + 3).toNatClampNeg))).toInt64) + 1) - ((S 154 ((8 * l1) + 5).toNatClampNeg)).toInt64)] hx rfl w_932 cs_r_size rfl rfl rfl (zr_size hx hG hw) ?_ (fun _ _ hf => hf.elim)
                clear hw
                intro r2 S2 hw
                refine z_lload rfl rfl ?_
                refine z_lmul rfl ?_
                refine z_ladd rfl ?_
                refine z_lload rfl rfl ?_
                refine z_lload rfl rfl ?_
                refine z_lmul rfl ?_
                refine z_lcmp rfl ?_
                refine z_if_gt rfl (fun hq => ?_) (fun hq => ?_)
                · replace hw := hw.1 hq
                  refine z_iconst 0 rfl rfl ?_
                  exact z_zret rfl rfl (by decide) rfl rfl (Or.inl ⟨_, _, rfl, rfl, hw⟩)
                · replace hw := hw.2 hq
                  refine z_iconst 1 rfl rfl ?_
                  refine z_goto rfl ?_
                  exact z_zret rfl rfl (by decide) rfl rfl (Or.inl ⟨_, _, rfl, rfl, hw⟩)
              · replace hw := hw.2 hq
                refine z_lload rfl rfl ?_
                refine z_lload rfl rfl ?_
                refine z_lmul rfl ?_
                refine z_lload rfl rfl ?_
                refine z_lmul rfl ?_
                refine z_lload rfl rfl ?_
                refine z_lmul rfl ?_
                refine z_lload rfl rfl ?_
                refine z_lload rfl rfl ?_
                refine z_lmul rfl ?_
                refine z_lload rfl rfl ?_
                refine z_lmul rfl ?_
                refine z_lload rfl rfl ?_
                refine z_lmul rfl ?_
                refine z_ladd rfl ?_
                refine z_lload rfl rfl ?_
                refine z_lload rfl rfl ?_
                refine z_lmul rfl ?_
                refine z_lload rfl rfl ?_
                refine z_lmul rfl ?_
                refine z_lload rfl rfl ?_
                refine z_lmul rfl ?_
                refine z_lcmp rfl ?_
                refine z_if_gt rfl (fun hq => ?_) (fun hq => ?_)
                · replace hw := hw.1 hq
                  refine z_iconst 0 rfl rfl ?_
                  exact z_zret rfl rfl (by decide) rfl rfl (Or.inl ⟨_, _, rfl, rfl, hw⟩)
                · replace hw := hw.2 hq
                  refine z_goto rfl ?_
                  refine z_iconst 1 rfl rfl ?_
                  refine z_goto rfl ?_
                  exact z_zret rfl rfl (by decide) rfl rfl (Or.inl ⟨_, _, rfl, rfl, hw⟩)
          · replace hw := hw.2 hq
            refine z_iconst 0 rfl rfl ?_
            exact z_zret rfl rfl (by decide) rfl rfl (Or.inl ⟨_, _, rfl, rfl, hw⟩)
def r_covering_L5 (post : Int32 → Mem → Prop)  : Nat → Mem → Int32 → Int32 → Int32 → Int32 → Prop
  | 0, _, _, _, _, _ => False
  | n + 1, S, l1, l2, l3, l4 =>
  (((S 148 7) ≤ l4) →
   post l3 S) ∧
  ((¬ (S 148 7) ≤ l4) →
   r_covers (fun r1 S1 =>
    r_covering_L5 post n S1 l1 l2 (if r1 = 0 then l3 else l4 : Int32) (l4 + 1)) S l4 l1 l2)
set_option maxRecDepth 100000 in
set_option maxHeartbeats 1000000 in
theorem zr_covering_L5 {g : Gm} {G : Gp} {post : Int32 → Mem → Prop} (hx : G.2.2.2 = false) (hG : isR G) : ∀ (n : Nat) {S : Mem} {l1 : Int32} {l2 : Int32} {l3 : Int32} {l4 : Int32} , r_covering_L5 post n S l1 l2 l3 l4 → Z g M_r_covering 0 0 5 [some (.ref 148), some (.int l1), some (.int l2), some (.int l3), some (.int l4)] [] (S, G) (Qi G post noEx) := by
  intro n
  induction n with
  | zero =>
    intros
    rename_i hw
    exact hw.elim
  | succ n ih =>
    intro S l1 l2 l3 l4 hw
    rw [r_covering_L5] at hw
    refine z_iload rfl rfl ?_
    refine z_aload_n rfl rfl ?_
    refine z_geti (ci := 7) 7 rfl hG.1 rfl w_665 ?_
    refine z_icmp_ge rfl (fun hq => ?_) (fun hq => ?_)
    · replace hw := hw.1 hq
      refine z_iload_n rfl rfl ?_
      exact z_iret rfl rfl rfl rfl (Or.inl ⟨_, _, rfl, rfl, hw⟩)
    · replace hw := hw.2 hq
      refine z_aload_n rfl rfl ?_
      refine z_iload rfl rfl ?_
      refine z_iload_n rfl rfl ?_
      refine z_iload_n rfl rfl ?_
      refine z_cvi (M' := M_r_covers) [.int l4, .int l1, .int l2] hx rfl w_927 cv_r_covers hG.1 (by decide) rfl rfl rfl rfl (zr_covers hx hG hw) ?_ (fun _ _ hf => hf.elim)
      clear hw
      intro r1 S1 hw
      have hj22 : ∀ v : Int32, v = (if r1 = 0 then l3 else l4 : Int32) → Z g M_r_covering 0 0 31 [some (.ref 148), some (.int l1), some (.int l2), some (.int l3), some (.int l4)] [.int v] (S1, G) (Qi G post noEx) := by
        intro v hv
        subst hv
        refine z_istore_n [some (.ref 148), some (.int l1), some (.int l2), some (.int (if r1 = 0 then l3 else l4 : Int32)), some (.int l4)] rfl rfl rfl ?_
        refine z_iinc 1 [some (.ref 148), some (.int l1), some (.int l2), some (.int (if r1 = 0 then l3 else l4 : Int32)), some (.int (l4 + 1))] rfl rfl rfl rfl ?_
        refine z_goto rfl ?_
        refine Z.forget' [some (.ref 148), some (.int l1), some (.int l2), some (.int (if r1 = 0 then l3 else l4 : Int32)), some (.int (l4 + 1))] ⟨rfl, ⟨rfl, ⟨rfl, ⟨rfl, ⟨rfl, trivial⟩⟩⟩⟩⟩ ?_
        exact ih hw
      refine z_if_eq rfl (fun hp22 => ?_) (fun hp22 => ?_)
      · refine z_iload_n rfl rfl ?_
        exact hj22 _ (by rw [if_pos hp22])
      · refine z_iload rfl rfl ?_
        refine z_goto rfl ?_
        exact hj22 _ (by rw [if_neg hp22])
def r_covering (post : Int32 → Mem → Prop) (S : Mem) (l1 : Int32) (l2 : Int32) : Prop :=
  ∃ n, r_covering_L5 post n S l1 l2 (-1) 0
set_option maxRecDepth 100000 in
set_option maxHeartbeats 1000000 in
theorem zr_covering {g : Gm} {G : Gp} {S : Mem} {post : Int32 → Mem → Prop} {l1 : Int32} {l2 : Int32} (hx : G.2.2.2 = false) (hG : isR G) (hw : r_covering post S l1 l2) : Z g M_r_covering 0 0 0 (entryL [.ref 148, .int l1, .int l2] (mL M_r_covering)) [] (S, G) (Qi G post noEx) := by
  unfold r_covering at hw
  show Z g M_r_covering 0 0 0 [some (.ref 148), some (.int l1), some (.int l2), none, none] [] (S, G) (Qi G post noEx)
  refine z_iconst (-1) rfl rfl ?_
  refine z_istore_n [some (.ref 148), some (.int l1), some (.int l2), some (.int (-1)), none] rfl rfl rfl ?_
  refine z_iconst 0 rfl rfl ?_
  refine z_istore [some (.ref 148), some (.int l1), some (.int l2), some (.int (-1)), some (.int 0)] rfl rfl rfl ?_
  refine Z.forget' [some (.ref 148), some (.int l1), some (.int l2), some (.int (-1)), some (.int 0)] ⟨rfl, ⟨rfl, ⟨rfl, ⟨rfl, ⟨rfl, trivial⟩⟩⟩⟩⟩ ?_
  obtain ⟨n, hw⟩ := hw
  exact zr_covering_L5 hx hG n hw
def r_hit (post : Int32 → Mem → Prop) (S : Mem) (l1 : Int32) (l2 : Int32) : Prop :=
  ∀ S1, S1 = up2 S 148 0 0 → r_covering (fun r1 S2 =>
   ((0 ≤ r1 → (vp_in ((8 * r1) + 0) 112))) ∧ 
   post (if 0 ≤ r1 then (S2 154 ((8 * r1) + 0).toNatClampNeg) else (-1) : Int32) S2) S1 l1 l2
set_option maxRecDepth 100000 in
set_option maxHeartbeats 1000000 in
theorem zr_hit {g : Gm} {G : Gp} {S : Mem} {post : Int32 → Mem → Prop} {l1 : Int32} {l2 : Int32} (hx : G.2.2.2 = false) (hG : isR G) (hw : r_hit post S l1 l2) : Z g M_r_hit 0 0 0 (entryL [.ref 148, .int l1, .int l2] (mL M_r_hit)) [] (S, G) (Qi G post noEx) := by
  unfold r_hit at hw
  show Z g M_r_hit 0 0 0 [some (.ref 148), some (.int l1), some (.int l2), none] [] (S, G) (Qi G post noEx)
  refine z_aload_n rfl rfl ?_
  refine z_iconst 0 rfl rfl ?_
  replace hw := hw _ rfl
  refine z_puti (ci := 7) 0 rfl hG.1 rfl w_658 rfl rfl rfl ?_
  refine z_aload_n rfl rfl ?_
  refine z_iload_n rfl rfl ?_
  refine z_iload_n rfl rfl ?_
  refine z_cvi (M' := M_r_covering) [.int l1, .int l2] hx rfl w_923 cv_r_covering hG.1 (by decide) rfl rfl rfl rfl (zr_covering hx hG hw) ?_ (fun _ _ hf => hf.elim)
  clear hw
  intro r1 S2 hw
  refine z_istore_n [some (.ref 148), some (.int l1), some (.int l2), some (.int r1)] rfl rfl rfl ?_
  refine z_iload_n rfl rfl ?_
  obtain ⟨hc1, hw⟩ := hw
  have hj13 : ∀ v : Int32, v = (if 0 ≤ r1 then (S2 154 ((8 * r1) + 0).toNatClampNeg) else (-1) : Int32) → Z g M_r_hit 0 0 26 [some (.ref 148), some (.int l1), some (.int l2), some (.int r1)] [.int v] (S2, G) (Qi G post noEx) := by
    intro v hv
    subst hv
    exact z_iret rfl rfl rfl rfl (Or.inl ⟨_, _, rfl, rfl, hw⟩)
  refine z_if_ge rfl (fun hp13 => ?_) (fun hp13 => ?_)
  · refine z_aload_n rfl rfl ?_
    refine z_iload_n rfl rfl ?_
    refine z_iconst 0 rfl rfl ?_
    refine z_cvi (M' := M_r_of) (post := fun v S' => (S2 154 ((8 * r1) + 0).toNatClampNeg) = v ∧ S2 = S') [.int r1, .int 0] hx rfl w_754 cv_r_of hG.1 (by decide) rfl rfl rfl rfl (zr_of hx hG  (⟨(hc1 hp13), ⟨rfl, rfl⟩⟩)) ?_ (fun _ _ hf => hf.elim)
    rintro v S' ⟨rfl, rfl⟩
    exact hj13 _ (by rw [if_pos hp13])
  · refine z_iconst (-1) rfl rfl ?_
    refine z_goto rfl ?_
    exact hj13 _ (by rw [if_neg hp13])
def r_shown_L26 (post : Int32 → Mem → Prop)  : Nat → Mem → Int32 → Int32 → Int32 → Int32 → Int32 → Int32 → Prop
  | 0, _, _, _, _, _, _, _ => False
  | n + 1, S, l1, l2, l3, l4, l5, l6 =>
  (((l3 * l3) ≤ l6) →
   post l5 S) ∧
  ((¬ (l3 * l3) ≤ l6) →
   ((¬ (S 148 0) = 0) →
    post l5 S) ∧
   (((S 148 0) = 0) →
    (¬ l3 = 0) ∧ (¬ l3 = 0) ∧ r_covering (fun r1 S1 =>
     ((0 ≤ r1 → (vp_in ((8 * r1) + 6) 112))) ∧ 
     r_shown_L26 post n S1 l1 l2 l3 l4 (if (if 0 ≤ r1 then (S1 154 ((8 * r1) + 6).toNatClampNeg) else (-1) : Int32) = l4 then (l5 + 1) else l5 : Int32) (l6 + 1)) S (l1 + (l6 - l6 / l3 * l3)) (l2 + (l6 / l3))))
set_option maxRecDepth 100000 in
set_option maxHeartbeats 1000000 in
theorem zr_shown_L26 {g : Gm} {G : Gp} {post : Int32 → Mem → Prop} (hx : G.2.2.2 = false) (hG : isR G) : ∀ (n : Nat) {S : Mem} {l1 : Int32} {l2 : Int32} {l3 : Int32} {l4 : Int32} {l5 : Int32} {l6 : Int32} , r_shown_L26 post n S l1 l2 l3 l4 l5 l6 → Z g M_r_shown 0 0 26 [some (.ref 148), some (.int l1), some (.int l2), some (.int l3), some (.int l4), some (.int l5), some (.int l6), none] [] (S, G) (Qi G post noEx) := by
  intro n
  induction n with
  | zero =>
    intros
    rename_i hw
    exact hw.elim
  | succ n ih =>
    intro S l1 l2 l3 l4 l5 l6 hw
    rw [r_shown_L26] at hw
    refine z_iload rfl rfl ?_
    refine z_iload_n rfl rfl ?_
    refine z_iload_n rfl rfl ?_
    refine z_imul rfl ?_
    refine z_icmp_ge rfl (fun hq => ?_) (fun hq => ?_)
    · replace hw := hw.1 hq
      refine z_iload rfl rfl ?_
      exact z_iret rfl rfl rfl rfl (Or.inl ⟨_, _, rfl, rfl, hw⟩)
    · replace hw := hw.2 hq
      refine z_aload_n rfl rfl ?_
      refine z_geti (ci := 7) 0 rfl hG.1 rfl w_658 ?_
      refine z_if_ne rfl (fun hq => ?_) (fun hq => ?_)
      · replace hw := hw.1 hq
        refine z_iload rfl rfl ?_
        exact z_iret rfl rfl rfl rfl (Or.inl ⟨_, _, rfl, rfl, hw⟩)
      · replace hw := hw.2 hq
        refine z_aload_n rfl rfl ?_
        refine z_iload_n rfl rfl ?_
        refine z_iload rfl rfl ?_
        refine z_iload_n rfl rfl ?_
        obtain ⟨hc1, hw⟩ := hw
        refine z_irem rfl hc1 ?_
        refine z_iadd rfl ?_
        refine z_iload_n rfl rfl ?_
        refine z_iload rfl rfl ?_
        refine z_iload_n rfl rfl ?_
        obtain ⟨hc2, hw⟩ := hw
        refine z_idiv rfl hc2 ?_
        refine z_iadd rfl ?_
        refine z_cvi (M' := M_r_covering) [.int (l1 + (l6 - l6 / l3 * l3)), .int (l2 + (l6 / l3))] hx rfl w_923 cv_r_covering hG.1 (by decide) rfl rfl rfl rfl (zr_covering hx hG hw) ?_ (fun _ _ hf => hf.elim)
        clear hw
        intro r1 S1 hw
        refine z_istore [some (.ref 148), some (.int l1), some (.int l2), some (.int l3), some (.int l4), some (.int l5), some (.int l6), some (.int r1)] rfl rfl rfl ?_
        refine z_iload rfl rfl ?_
        obtain ⟨hc4, hw⟩ := hw
        have hj61 : ∀ v : Int32, v = (if 0 ≤ r1 then (S1 154 ((8 * r1) + 6).toNatClampNeg) else (-1) : Int32) → Z g M_r_shown 0 0 76 [some (.ref 148), some (.int l1), some (.int l2), some (.int l3), some (.int l4), some (.int l5), some (.int l6), some (.int r1)] [.int v] (S1, G) (Qi G post noEx) := by
          intro v hv
          subst hv
          refine z_iload rfl rfl ?_
          have hj78 : ∀ v : Int32, v = (if (if 0 ≤ r1 then (S1 154 ((8 * r1) + 6).toNatClampNeg) else (-1) : Int32) = l4 then (l5 + 1) else l5 : Int32) → Z g M_r_shown 0 0 90 [some (.ref 148), some (.int l1), some (.int l2), some (.int l3), some (.int l4), some (.int l5), some (.int l6), some (.int r1)] [.int v] (S1, G) (Qi G post noEx) := by
            intro v hv
            subst hv
            refine z_istore [some (.ref 148), some (.int l1), some (.int l2), some (.int l3), some (.int l4), some (.int (if (if 0 ≤ r1 then (S1 154 ((8 * r1) + 6).toNatClampNeg) else (-1) : Int32) = l4 then (l5 + 1) else l5 : Int32)), some (.int l6), some (.int r1)] rfl rfl rfl ?_
            refine z_iinc 1 [some (.ref 148), some (.int l1), some (.int l2), some (.int l3), some (.int l4), some (.int (if (if 0 ≤ r1 then (S1 154 ((8 * r1) + 6).toNatClampNeg) else (-1) : Int32) = l4 then (l5 + 1) else l5 : Int32)), some (.int (l6 + 1)), some (.int r1)] rfl rfl rfl rfl ?_
            refine z_goto rfl ?_
            refine Z.forget' [some (.ref 148), some (.int l1), some (.int l2), some (.int l3), some (.int l4), some (.int (if (if 0 ≤ r1 then (S1 154 ((8 * r1) + 6).toNatClampNeg) else (-1) : Int32) = l4 then (l5 + 1) else l5 : Int32)), some (.int (l6 + 1)), none] ⟨rfl, ⟨rfl, ⟨rfl, ⟨rfl, ⟨rfl, ⟨rfl, ⟨rfl, trivial⟩⟩⟩⟩⟩⟩⟩ ?_
            exact ih hw
          refine z_icmp_ne rfl (fun hp78 => ?_) (fun hp78 => ?_)
          · refine z_iload rfl rfl ?_
            exact hj78 _ (by rw [if_neg hp78])
          · refine z_iload rfl rfl ?_
            refine z_iconst 1 rfl rfl ?_
            refine z_iadd rfl ?_
            refine z_goto rfl ?_
            exact hj78 _ (by rw [if_pos hp78])
        refine z_if_ge rfl (fun hp61 => ?_) (fun hp61 => ?_)
        · refine z_aload_n rfl rfl ?_
          refine z_iload rfl rfl ?_
          refine z_bipush 6 rfl rfl ?_
          refine z_cvi (M' := M_r_of) (post := fun v S' => (S1 154 ((8 * r1) + 6).toNatClampNeg) = v ∧ S1 = S') [.int r1, .int 6] hx rfl w_754 cv_r_of hG.1 (by decide) rfl rfl rfl rfl (zr_of hx hG  (⟨(hc4 hp61), ⟨rfl, rfl⟩⟩)) ?_ (fun _ _ hf => hf.elim)
          rintro v S' ⟨rfl, rfl⟩
          exact hj61 _ (by rw [if_pos hp61])
        · refine z_iconst (-1) rfl rfl ?_
          refine z_goto rfl ?_
          exact hj61 _ (by rw [if_neg hp61])
def r_shown (post : Int32 → Mem → Prop) (S : Mem) (l1 : Int32) (l2 : Int32) (l3 : Int32) (l4 : Int32) : Prop :=
  ∀ S1, S1 = up2 S 148 0 (if l3 < 1 then 1 else (if l3 ≤ 8 then 0 else 1 : Int32) : Int32) → ∃ n, r_shown_L26 post n S1 l1 l2 l3 l4 0 0
set_option maxRecDepth 100000 in
set_option maxHeartbeats 1000000 in
theorem zr_shown {g : Gm} {G : Gp} {S : Mem} {post : Int32 → Mem → Prop} {l1 : Int32} {l2 : Int32} {l3 : Int32} {l4 : Int32} (hx : G.2.2.2 = false) (hG : isR G) (hw : r_shown post S l1 l2 l3 l4) : Z g M_r_shown 0 0 0 (entryL [.ref 148, .int l1, .int l2, .int l3, .int l4] (mL M_r_shown)) [] (S, G) (Qi G post noEx) := by
  unfold r_shown at hw
  show Z g M_r_shown 0 0 0 [some (.ref 148), some (.int l1), some (.int l2), some (.int l3), some (.int l4), none, none, none] [] (S, G) (Qi G post noEx)
  refine z_aload_n rfl rfl ?_
  refine z_iload_n rfl rfl ?_
  refine z_iconst 1 rfl rfl ?_
  have hj3 : ∀ v : Int32, v = (if l3 < 1 then 1 else (if l3 ≤ 8 then 0 else 1 : Int32) : Int32) → Z g M_r_shown 0 0 17 [some (.ref 148), some (.int l1), some (.int l2), some (.int l3), some (.int l4), none, none, none] [.int v, .ref 148] (S, G) (Qi G post noEx) := by
    intro v hv
    subst hv
    replace hw := hw _ rfl
    refine z_puti (ci := 7) 0 rfl hG.1 rfl w_658 rfl rfl rfl ?_
    refine z_iconst 0 rfl rfl ?_
    refine z_istore [some (.ref 148), some (.int l1), some (.int l2), some (.int l3), some (.int l4), some (.int 0), none, none] rfl rfl rfl ?_
    refine z_iconst 0 rfl rfl ?_
    refine z_istore [some (.ref 148), some (.int l1), some (.int l2), some (.int l3), some (.int l4), some (.int 0), some (.int 0), none] rfl rfl rfl ?_
    refine Z.forget' [some (.ref 148), some (.int l1), some (.int l2), some (.int l3), some (.int l4), some (.int 0), some (.int 0), none] ⟨rfl, ⟨rfl, ⟨rfl, ⟨rfl, ⟨rfl, ⟨rfl, ⟨rfl, trivial⟩⟩⟩⟩⟩⟩⟩ ?_
    obtain ⟨n, hw⟩ := hw
    exact zr_shown_L26 hx hG n hw
  refine z_icmp_lt rfl (fun hp3 => ?_) (fun hp3 => ?_)
  · refine z_iconst 1 rfl rfl ?_
    refine z_goto rfl ?_
    exact hj3 _ (by rw [if_pos hp3])
  · refine z_iload_n rfl rfl ?_
    refine z_bipush 8 rfl rfl ?_
    refine z_icmp_le rfl (fun hp9 => ?_) (fun hp9 => ?_)
    · refine z_iconst 0 rfl rfl ?_
      exact hj3 _ (by rw [if_neg hp3, if_pos hp9])
    · refine z_iconst 1 rfl rfl ?_
      refine z_goto rfl ?_
      exact hj3 _ (by rw [if_neg hp3, if_neg hp9])
def r_inside_J118 (post : Int32 → Mem → Prop) (K12 : Mem → Int32 → Int32 → Int32 → Int32 → Int32 → Int32 → Prop) (S : Mem) (l1 : Int32) (l2 : Int32) (l3 : Int32) (l4 : Int32) (l6 : Int32) (l7 : Int32) (l8 : Int32) : Prop :=
  K12 S l1 l2 l3 l4 (if l8 = 0 then l6 else (l6 - 1) : Int32) (l7 + 1)
set_option maxRecDepth 100000 in
set_option maxHeartbeats 1000000 in
theorem zr_inside_J118 {g : Gm} {G : Gp} {post : Int32 → Mem → Prop} {K12 : Mem → Int32 → Int32 → Int32 → Int32 → Int32 → Int32 → Prop} (hx : G.2.2.2 = false) (hG : isR G) (hK12 : ∀ {S : Mem} {l1 : Int32} {l2 : Int32} {l3 : Int32} {l4 : Int32} {l6 : Int32} {l7 : Int32} , K12 S l1 l2 l3 l4 l6 l7 → Z g M_r_inside 0 0 12 [some (.ref 148), some (.int l1), some (.int l2), some (.int l3), some (.int l4), none, some (.int l6), some (.int l7), none] [] (S, G) (Qi G post noEx)) {S : Mem} {l1 : Int32} {l2 : Int32} {l3 : Int32} {l4 : Int32} {l6 : Int32} {l7 : Int32} {l8 : Int32}  (hw : r_inside_J118 post K12 S l1 l2 l3 l4 l6 l7 l8) : Z g M_r_inside 0 0 118 [some (.ref 148), some (.int l1), some (.int l2), some (.int l3), some (.int l4), none, some (.int l6), some (.int l7), some (.int l8)] [] (S, G) (Qi G post noEx) := by
  unfold r_inside_J118 at hw
  refine z_iload rfl rfl ?_
  have hj120 : ∀ v : Int32, v = (if l8 = 0 then l6 else (l6 - 1) : Int32) → Z g M_r_inside 0 0 132 [some (.ref 148), some (.int l1), some (.int l2), some (.int l3), some (.int l4), none, some (.int l6), some (.int l7), some (.int l8)] [.int v] (S, G) (Qi G post noEx) := by
    intro v hv
    subst hv
    refine z_istore [some (.ref 148), some (.int l1), some (.int l2), some (.int l3), some (.int l4), none, some (.int (if l8 = 0 then l6 else (l6 - 1) : Int32)), some (.int l7), some (.int l8)] rfl rfl rfl ?_
    refine z_iinc 1 [some (.ref 148), some (.int l1), some (.int l2), some (.int l3), some (.int l4), none, some (.int (if l8 = 0 then l6 else (l6 - 1) : Int32)), some (.int (l7 + 1)), some (.int l8)] rfl rfl rfl rfl ?_
    refine z_goto rfl ?_
    refine Z.forget' [some (.ref 148), some (.int l1), some (.int l2), some (.int l3), some (.int l4), none, some (.int (if l8 = 0 then l6 else (l6 - 1) : Int32)), some (.int (l7 + 1)), none] ⟨rfl, ⟨rfl, ⟨rfl, ⟨rfl, ⟨rfl, ⟨rfl, ⟨rfl, trivial⟩⟩⟩⟩⟩⟩⟩ ?_
    exact hK12 hw
  refine z_if_eq rfl (fun hp120 => ?_) (fun hp120 => ?_)
  · refine z_iload rfl rfl ?_
    exact hj120 _ (by rw [if_pos hp120])
  · refine z_iload rfl rfl ?_
    refine z_iconst 1 rfl rfl ?_
    refine z_isub rfl ?_
    refine z_goto rfl ?_
    exact hj120 _ (by rw [if_neg hp120])
def r_inside_L12 (post : Int32 → Mem → Prop)  : Nat → Mem → Int32 → Int32 → Int32 → Int32 → Int32 → Int32 → Prop
  | 0, _, _, _, _, _, _, _ => False
  | n + 1, S, l1, l2, l3, l4, l6, l7 =>
  (((S 148 7) ≤ l7) →
   post (-1) S) ∧
  ((¬ (S 148 7) ≤ l7) →
   (vp_in ((8 * l7) + 1) 112) ∧ 
   ((¬ (S 154 ((8 * l7) + 1).toNatClampNeg) = 3 → (vp_in ((8 * l7) + 2) 112) ∧ (¬ (S 154 ((8 * l7) + 2).toNatClampNeg) < l1 → (vp_in ((8 * l7) + 3) 112) ∧ (¬ (S 154 ((8 * l7) + 3).toNatClampNeg) < l2 → (vp_in ((8 * l7) + 2) 112) ∧ (vp_in ((8 * l7) + 4) 112) ∧ (¬ l3 < ((S 154 ((8 * l7) + 2).toNatClampNeg) + (S 154 ((8 * l7) + 4).toNatClampNeg)) → (vp_in ((8 * l7) + 3) 112) ∧ (vp_in ((8 * l7) + 5) 112)))))) ∧ 
   (((if (S 154 ((8 * l7) + 1).toNatClampNeg) = 3 then 0 else (if (S 154 ((8 * l7) + 2).toNatClampNeg) < l1 then 0 else (if (S 154 ((8 * l7) + 3).toNatClampNeg) < l2 then 0 else (if l3 < ((S 154 ((8 * l7) + 2).toNatClampNeg) + (S 154 ((8 * l7) + 4).toNatClampNeg)) then 0 else (if l4 < ((S 154 ((8 * l7) + 3).toNatClampNeg) + (S 154 ((8 * l7) + 5).toNatClampNeg)) then 0 else 1 : Int32) : Int32) : Int32) : Int32) : Int32) = 0) →
    r_inside_J118 post (r_inside_L12 post n) S l1 l2 l3 l4 l6 l7 (if (S 154 ((8 * l7) + 1).toNatClampNeg) = 3 then 0 else (if (S 154 ((8 * l7) + 2).toNatClampNeg) < l1 then 0 else (if (S 154 ((8 * l7) + 3).toNatClampNeg) < l2 then 0 else (if l3 < ((S 154 ((8 * l7) + 2).toNatClampNeg) + (S 154 ((8 * l7) + 4).toNatClampNeg)) then 0 else (if l4 < ((S 154 ((8 * l7) + 3).toNatClampNeg) + (S 154 ((8 * l7) + 5).toNatClampNeg)) then 0 else 1 : Int32) : Int32) : Int32) : Int32) : Int32)) ∧
   ((¬ (if (S 154 ((8 * l7) + 1).toNatClampNeg) = 3 then 0 else (if (S 154 ((8 * l7) + 2).toNatClampNeg) < l1 then 0 else (if (S 154 ((8 * l7) + 3).toNatClampNeg) < l2 then 0 else (if l3 < ((S 154 ((8 * l7) + 2).toNatClampNeg) + (S 154 ((8 * l7) + 4).toNatClampNeg)) then 0 else (if l4 < ((S 154 ((8 * l7) + 3).toNatClampNeg) + (S 154 ((8 * l7) + 5).toNatClampNeg)) then 0 else 1 : Int32) : Int32) : Int32) : Int32) : Int32) = 0) →
    ((¬ l6 = 0) →
     r_inside_J118 post (r_inside_L12 post n) S l1 l2 l3 l4 l6 l7 (if (S 154 ((8 * l7) + 1).toNatClampNeg) = 3 then 0 else (if (S 154 ((8 * l7) + 2).toNatClampNeg) < l1 then 0 else (if (S 154 ((8 * l7) + 3).toNatClampNeg) < l2 then 0 else (if l3 < ((S 154 ((8 * l7) + 2).toNatClampNeg) + (S 154 ((8 * l7) + 4).toNatClampNeg)) then 0 else (if l4 < ((S 154 ((8 * l7) + 3).toNatClampNeg) + (S 154 ((8 * l7) + 5).toNatClampNeg)) then 0 else 1 : Int32) : Int32) : Int32) : Int32) : Int32)) ∧
    ((l6 = 0) →
     (vp_in ((8 * l7) + 0) 112) ∧ 
     post (S 154 ((8 * l7) + 0).toNatClampNeg) S)))
set_option maxRecDepth 100000 in
set_option maxHeartbeats 1000000 in
theorem zr_inside_L12 {g : Gm} {G : Gp} {post : Int32 → Mem → Prop} (hx : G.2.2.2 = false) (hG : isR G) : ∀ (n : Nat) {S : Mem} {l1 : Int32} {l2 : Int32} {l3 : Int32} {l4 : Int32} {l6 : Int32} {l7 : Int32} , r_inside_L12 post n S l1 l2 l3 l4 l6 l7 → Z g M_r_inside 0 0 12 [some (.ref 148), some (.int l1), some (.int l2), some (.int l3), some (.int l4), none, some (.int l6), some (.int l7), none] [] (S, G) (Qi G post noEx) := by
  intro n
  induction n with
  | zero =>
    intros
    rename_i hw
    exact hw.elim
  | succ n ih =>
    intro S l1 l2 l3 l4 l6 l7 hw
    rw [r_inside_L12] at hw
    refine z_iload rfl rfl ?_
    refine z_aload_n rfl rfl ?_
    refine z_geti (ci := 7) 7 rfl hG.1 rfl w_665 ?_
    refine z_icmp_ge rfl (fun hq => ?_) (fun hq => ?_)
    · replace hw := hw.1 hq
      refine z_iconst (-1) rfl rfl ?_
      exact z_iret rfl rfl rfl rfl (Or.inl ⟨_, _, rfl, rfl, hw⟩)
    · replace hw := hw.2 hq
      refine z_aload_n rfl rfl ?_
      refine z_iload rfl rfl ?_
      refine z_iconst 1 rfl rfl ?_
      obtain ⟨hc1, hw⟩ := hw
      refine z_cvi (M' := M_r_of) (post := fun v S' => (S 154 ((8 * l7) + 1).toNatClampNeg) = v ∧ S = S') [.int l7, .int 1] hx rfl w_754 cv_r_of hG.1 (by decide) rfl rfl rfl rfl (zr_of hx hG (⟨hc1, ⟨rfl, rfl⟩⟩)) ?_ (fun _ _ hf => hf.elim)
      rintro v S' ⟨rfl, rfl⟩
      refine z_iconst 3 rfl rfl ?_
      obtain ⟨hc3, hw⟩ := hw
      have hj29 : ∀ v : Int32, v = (if (S 154 ((8 * l7) + 1).toNatClampNeg) = 3 then 0 else (if (S 154 ((8 * l7) + 2).toNatClampNeg) < l1 then 0 else (if (S 154 ((8 * l7) + 3).toNatClampNeg) < l2 then 0 else (if l3 < ((S 154 ((8 * l7) + 2).toNatClampNeg) + (S 154 ((8 * l7) + 4).toNatClampNeg)) then 0 else (if l4 < ((S 154 ((8 * l7) + 3).toNatClampNeg) + (S 154 ((8 * l7) + 5).toNatClampNeg)) then 0 else 1 : Int32) : Int32) : Int32) : Int32) : Int32) → Z g M_r_inside 0 0 98 [some (.ref 148), some (.int l1), some (.int l2), some (.int l3), some (.int l4), none, some (.int l6), some (.int l7), none] [.int v] (S, G) (Qi G post noEx) := by
        intro v hv
        subst hv
        refine z_istore [some (.ref 148), some (.int l1), some (.int l2), some (.int l3), some (.int l4), none, some (.int l6), some (.int l7), some (.int (if (S 154 ((8 * l7) + 1).toNatClampNeg) = 3 then 0 else (if (S 154 ((8 * l7) + 2).toNatClampNeg) < l1 then 0 else (if (S 154 ((8 * l7) + 3).toNatClampNeg) < l2 then 0 else (if l3 < ((S 154 ((8 * l7) + 2).toNatClampNeg) + (S 154 ((8 * l7) + 4).toNatClampNeg)) then 0 else (if l4 < ((S 154 ((8 * l7) + 3).toNatClampNeg) + (S 154 ((8 * l7) + 5).toNatClampNeg)) then 0 else 1 : Int32) : Int32) : Int32) : Int32) : Int32))] rfl rfl rfl ?_
        refine z_iload rfl rfl ?_
        refine z_if_eq rfl (fun hq => ?_) (fun hq => ?_)
        · replace hw := hw.1 hq
          refine Z.forget' [some (.ref 148), some (.int l1), some (.int l2), some (.int l3), some (.int l4), none, some (.int l6), some (.int l7), some (.int (if (S 154 ((8 * l7) + 1).toNatClampNeg) = 3 then 0 else (if (S 154 ((8 * l7) + 2).toNatClampNeg) < l1 then 0 else (if (S 154 ((8 * l7) + 3).toNatClampNeg) < l2 then 0 else (if l3 < ((S 154 ((8 * l7) + 2).toNatClampNeg) + (S 154 ((8 * l7) + 4).toNatClampNeg)) then 0 else (if l4 < ((S 154 ((8 * l7) + 3).toNatClampNeg) + (S 154 ((8 * l7) + 5).toNatClampNeg)) then 0 else 1 : Int32) : Int32) : Int32) : Int32) : Int32))] ⟨rfl, ⟨rfl, ⟨rfl, ⟨rfl, ⟨rfl, ⟨rfl, ⟨rfl, ⟨rfl, trivial⟩⟩⟩⟩⟩⟩⟩⟩ ?_
          exact zr_inside_J118 hx hG (@ih) hw
        · replace hw := hw.2 hq
          refine z_iload rfl rfl ?_
          refine z_if_ne rfl (fun hq => ?_) (fun hq => ?_)
          · replace hw := hw.1 hq
            refine Z.forget' [some (.ref 148), some (.int l1), some (.int l2), some (.int l3), some (.int l4), none, some (.int l6), some (.int l7), some (.int (if (S 154 ((8 * l7) + 1).toNatClampNeg) = 3 then 0 else (if (S 154 ((8 * l7) + 2).toNatClampNeg) < l1 then 0 else (if (S 154 ((8 * l7) + 3).toNatClampNeg) < l2 then 0 else (if l3 < ((S 154 ((8 * l7) + 2).toNatClampNeg) + (S 154 ((8 * l7) + 4).toNatClampNeg)) then 0 else (if l4 < ((S 154 ((8 * l7) + 3).toNatClampNeg) + (S 154 ((8 * l7) + 5).toNatClampNeg)) then 0 else 1 : Int32) : Int32) : Int32) : Int32) : Int32))] ⟨rfl, ⟨rfl, ⟨rfl, ⟨rfl, ⟨rfl, ⟨rfl, ⟨rfl, ⟨rfl, trivial⟩⟩⟩⟩⟩⟩⟩⟩ ?_
            exact zr_inside_J118 hx hG (@ih) hw
          · replace hw := hw.2 hq
            refine z_aload_n rfl rfl ?_
            refine z_iload rfl rfl ?_
            refine z_iconst 0 rfl rfl ?_
            obtain ⟨hc2, hw⟩ := hw
            refine z_cvi (M' := M_r_of) (post := fun v S' => (S 154 ((8 * l7) + 0).toNatClampNeg) = v ∧ S = S') [.int l7, .int 0] hx rfl w_754 cv_r_of hG.1 (by decide) rfl rfl rfl rfl (zr_of hx hG (⟨hc2, ⟨rfl, rfl⟩⟩)) ?_ (fun _ _ hf => hf.elim)
            rintro v S' ⟨rfl, rfl⟩
            exact z_iret rfl rfl rfl rfl (Or.inl ⟨_, _, rfl, rfl, hw⟩)
      refine z_icmp_eq rfl (fun hp29 => ?_) (fun hp29 => ?_)
      · refine z_iconst 0 rfl rfl ?_
        exact hj29 _ (by rw [if_pos hp29])
      · refine z_aload_n rfl rfl ?_
        refine z_iload rfl rfl ?_
        refine z_iconst 2 rfl rfl ?_
        refine z_cvi (M' := M_r_of) (post := fun v S' => (S 154 ((8 * l7) + 2).toNatClampNeg) = v ∧ S = S') [.int l7, .int 2] hx rfl w_754 cv_r_of hG.1 (by decide) rfl rfl rfl rfl (zr_of hx hG  (⟨(hc3 hp29).1, ⟨rfl, rfl⟩⟩)) ?_ (fun _ _ hf => hf.elim)
        rintro v S' ⟨rfl, rfl⟩
        refine z_iload_n rfl rfl ?_
        refine z_icmp_lt rfl (fun hp40 => ?_) (fun hp40 => ?_)
        · refine z_iconst 0 rfl rfl ?_
          exact hj29 _ (by rw [if_neg hp29, if_pos hp40])
        · refine z_aload_n rfl rfl ?_
          refine z_iload rfl rfl ?_
          refine z_iconst 3 rfl rfl ?_
          refine z_cvi (M' := M_r_of) (post := fun v S' => (S 154 ((8 * l7) + 3).toNatClampNeg) = v ∧ S = S') [.int l7, .int 3] hx rfl w_754 cv_r_of hG.1 (by decide) rfl rfl rfl rfl (zr_of hx hG  (⟨((hc3 hp29).2 hp40).1, ⟨rfl, rfl⟩⟩)) ?_ (fun _ _ hf => hf.elim)
          rintro v S' ⟨rfl, rfl⟩
          refine z_iload_n rfl rfl ?_
          refine z_icmp_lt rfl (fun hp51 => ?_) (fun hp51 => ?_)
          · refine z_iconst 0 rfl rfl ?_
            exact hj29 _ (by rw [if_neg hp29, if_neg hp40, if_pos hp51])
          · refine z_aload_n rfl rfl ?_
            refine z_iload rfl rfl ?_
            refine z_iconst 2 rfl rfl ?_
            refine z_cvi (M' := M_r_of) (post := fun v S' => (S 154 ((8 * l7) + 2).toNatClampNeg) = v ∧ S = S') [.int l7, .int 2] hx rfl w_754 cv_r_of hG.1 (by decide) rfl rfl rfl rfl (zr_of hx hG  (⟨(((hc3 hp29).2 hp40).2 hp51).1, ⟨rfl, rfl⟩⟩)) ?_ (fun _ _ hf => hf.elim)
            rintro v S' ⟨rfl, rfl⟩
            refine z_aload_n rfl rfl ?_
            refine z_iload rfl rfl ?_
            refine z_iconst 4 rfl rfl ?_
            refine z_cvi (M' := M_r_of) (post := fun v S' => (S 154 ((8 * l7) + 4).toNatClampNeg) = v ∧ S = S') [.int l7, .int 4] hx rfl w_754 cv_r_of hG.1 (by decide) rfl rfl rfl rfl (zr_of hx hG  (⟨(((hc3 hp29).2 hp40).2 hp51).2.1, ⟨rfl, rfl⟩⟩)) ?_ (fun _ _ hf => hf.elim)
            rintro v S' ⟨rfl, rfl⟩
            refine z_iadd rfl ?_
            refine z_iload_n rfl rfl ?_
            refine z_icmp_gt rfl (fun hp70 => ?_) (fun hp70 => ?_)
            · refine z_iconst 0 rfl rfl ?_
              exact hj29 _ (by rw [if_neg hp29, if_neg hp40, if_neg hp51, if_pos hp70])
            · refine z_aload_n rfl rfl ?_
              refine z_iload rfl rfl ?_
              refine z_iconst 3 rfl rfl ?_
              refine z_cvi (M' := M_r_of) (post := fun v S' => (S 154 ((8 * l7) + 3).toNatClampNeg) = v ∧ S = S') [.int l7, .int 3] hx rfl w_754 cv_r_of hG.1 (by decide) rfl rfl rfl rfl (zr_of hx hG  (⟨((((hc3 hp29).2 hp40).2 hp51).2.2 hp70).1, ⟨rfl, rfl⟩⟩)) ?_ (fun _ _ hf => hf.elim)
              rintro v S' ⟨rfl, rfl⟩
              refine z_aload_n rfl rfl ?_
              refine z_iload rfl rfl ?_
              refine z_iconst 5 rfl rfl ?_
              refine z_cvi (M' := M_r_of) (post := fun v S' => (S 154 ((8 * l7) + 5).toNatClampNeg) = v ∧ S = S') [.int l7, .int 5] hx rfl w_754 cv_r_of hG.1 (by decide) rfl rfl rfl rfl (zr_of hx hG  (⟨((((hc3 hp29).2 hp40).2 hp51).2.2 hp70).2, ⟨rfl, rfl⟩⟩)) ?_ (fun _ _ hf => hf.elim)
              rintro v S' ⟨rfl, rfl⟩
              refine z_iadd rfl ?_
              refine z_iload rfl rfl ?_
              refine z_icmp_gt rfl (fun hp90 => ?_) (fun hp90 => ?_)
              · refine z_iconst 0 rfl rfl ?_
                exact hj29 _ (by rw [if_neg hp29, if_neg hp40, if_neg hp51, if_neg hp70, if_pos hp90])
              · refine z_iconst 1 rfl rfl ?_
                refine z_goto rfl ?_
                exact hj29 _ (by rw [if_neg hp29, if_neg hp40, if_neg hp51, if_neg hp70, if_neg hp90])
def r_inside (post : Int32 → Mem → Prop) (S : Mem) (l1 : Int32) (l2 : Int32) (l3 : Int32) (l4 : Int32) (l5 : Int32) : Prop :=
  ∀ S1, S1 = up2 S 148 0 0 → ∃ n, r_inside_L12 post n S1 l1 l2 l3 l4 l5 0
set_option maxRecDepth 100000 in
set_option maxHeartbeats 1000000 in
theorem zr_inside {g : Gm} {G : Gp} {S : Mem} {post : Int32 → Mem → Prop} {l1 : Int32} {l2 : Int32} {l3 : Int32} {l4 : Int32} {l5 : Int32} (hx : G.2.2.2 = false) (hG : isR G) (hw : r_inside post S l1 l2 l3 l4 l5) : Z g M_r_inside 0 0 0 (entryL [.ref 148, .int l1, .int l2, .int l3, .int l4, .int l5] (mL M_r_inside)) [] (S, G) (Qi G post noEx) := by
  unfold r_inside at hw
  show Z g M_r_inside 0 0 0 [some (.ref 148), some (.int l1), some (.int l2), some (.int l3), some (.int l4), some (.int l5), none, none, none] [] (S, G) (Qi G post noEx)
  refine z_aload_n rfl rfl ?_
  refine z_iconst 0 rfl rfl ?_
  replace hw := hw _ rfl
  refine z_puti (ci := 7) 0 rfl hG.1 rfl w_658 rfl rfl rfl ?_
  refine z_iload rfl rfl ?_
  refine z_istore [some (.ref 148), some (.int l1), some (.int l2), some (.int l3), some (.int l4), some (.int l5), some (.int l5), none, none] rfl rfl rfl ?_
  refine z_iconst 0 rfl rfl ?_
  refine z_istore [some (.ref 148), some (.int l1), some (.int l2), some (.int l3), some (.int l4), some (.int l5), some (.int l5), some (.int 0), none] rfl rfl rfl ?_
  refine Z.forget' [some (.ref 148), some (.int l1), some (.int l2), some (.int l3), some (.int l4), none, some (.int l5), some (.int 0), none] ⟨rfl, ⟨rfl, ⟨rfl, ⟨rfl, ⟨rfl, ⟨rfl, ⟨rfl, trivial⟩⟩⟩⟩⟩⟩⟩ ?_
  obtain ⟨n, hw⟩ := hw
  exact zr_inside_L12 hx hG n hw
end
