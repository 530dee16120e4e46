section
-- ===== PART A: goes FIRST, ahead of the names: the tables' words, and 'selects' of the private methods out of them =====
/-- a private method of a class that the tables say can be made, by its rows of tables_1 -/
def lw_okq (q : MethodName × Nat) : Prop := (q.1.cls ≠ "java/lang/invoke/MethodHandle" ∧ q.1.cls ≠ "java/lang/invoke/VarHandle") ∧ Cond.instantiable q.1.cls q.2 ∈ tables_1 ∧ Cond.privateMethod q.1 ∈ tables_1 ∧ Cond.instanceMethod q.1 ∈ tables_1
theorem lw_p0 : lw_okq (⟨"AmendedDrawing$Item", "ellipseReaches", "(JJ)Z"⟩, 8) := ⟨⟨by decide +kernel, by decide +kernel⟩, List.mem_of_getElem? (i := 113) (by decide +kernel), List.mem_of_getElem? (i := 224) (by decide +kernel), List.mem_of_getElem? (i := 225) (by decide +kernel)⟩
theorem lw_p1 : lw_okq (⟨"AmendedDrawing$Action", "sort", "(I)I"⟩, 3) := ⟨⟨by decide +kernel, by decide +kernel⟩, List.mem_of_getElem? (i := 28) (by decide +kernel), List.mem_of_getElem? (i := 252) (by decide +kernel), List.mem_of_getElem? (i := 253) (by decide +kernel)⟩
theorem lw_p2 : lw_okq (⟨"java/lang/Throwable", "fillInStackTrace", "(I)Ljava/lang/Throwable;"⟩, 6) := ⟨⟨by decide +kernel, by decide +kernel⟩, List.mem_of_getElem? (i := 314) (by decide +kernel), List.mem_of_getElem? (i := 312) (by decide +kernel), List.mem_of_getElem? (i := 313) (by decide +kernel)⟩
theorem lw_p3 : lw_okq (⟨"AmendedDrawing$Drawing", "make", "(LAmendedDrawing$Action;I)Z"⟩, 4) := ⟨⟨by decide +kernel, by decide +kernel⟩, List.mem_of_getElem? (i := 106) (by decide +kernel), List.mem_of_getElem? (i := 343) (by decide +kernel), List.mem_of_getElem? (i := 344) (by decide +kernel)⟩
theorem lw_p4 : lw_okq (⟨"AmendedDrawing$Drawing", "insert", "(II)V"⟩, 4) := ⟨⟨by decide +kernel, by decide +kernel⟩, List.mem_of_getElem? (i := 106) (by decide +kernel), List.mem_of_getElem? (i := 360) (by decide +kernel), List.mem_of_getElem? (i := 361) (by decide +kernel)⟩
theorem lw_p5 : lw_okq (⟨"AmendedDrawing$Drawing", "delete", "(I)Z"⟩, 4) := ⟨⟨by decide +kernel, by decide +kernel⟩, List.mem_of_getElem? (i := 106) (by decide +kernel), List.mem_of_getElem? (i := 367) (by decide +kernel), List.mem_of_getElem? (i := 368) (by decide +kernel)⟩
theorem lw_p6 : lw_okq (⟨"AmendedDrawing$Drawing", "placeOf", "(I)I"⟩, 4) := ⟨⟨by decide +kernel, by decide +kernel⟩, List.mem_of_getElem? (i := 106) (by decide +kernel), List.mem_of_getElem? (i := 371) (by decide +kernel), List.mem_of_getElem? (i := 372) (by decide +kernel)⟩
theorem lw_p7 : lw_okq (⟨"AmendedDrawing$Drawing", "endOf", "(I)I"⟩, 4) := ⟨⟨by decide +kernel, by decide +kernel⟩, List.mem_of_getElem? (i := 106) (by decide +kernel), List.mem_of_getElem? (i := 375) (by decide +kernel), List.mem_of_getElem? (i := 376) (by decide +kernel)⟩
theorem lw_p8 : lw_okq (⟨"AmendedDrawing$Drawing", "isIn", "(II)Z"⟩, 4) := ⟨⟨by decide +kernel, by decide +kernel⟩, List.mem_of_getElem? (i := 106) (by decide +kernel), List.mem_of_getElem? (i := 379) (by decide +kernel), List.mem_of_getElem? (i := 380) (by decide +kernel)⟩
theorem lw_p9 : lw_okq (⟨"AmendedDrawing$Drawing", "removeBlock", "(II)V"⟩, 4) := ⟨⟨by decide +kernel, by decide +kernel⟩, List.mem_of_getElem? (i := 106) (by decide +kernel), List.mem_of_getElem? (i := 383) (by decide +kernel), List.mem_of_getElem? (i := 384) (by decide +kernel)⟩
theorem lw_p10 : lw_okq (⟨"AmendedDrawing$Drawing", "move", "(III)Z"⟩, 4) := ⟨⟨by decide +kernel, by decide +kernel⟩, List.mem_of_getElem? (i := 106) (by decide +kernel), List.mem_of_getElem? (i := 387) (by decide +kernel), List.mem_of_getElem? (i := 388) (by decide +kernel)⟩
theorem lw_p11 : lw_okq (⟨"AmendedDrawing$Drawing", "isShapeIn", "(II)Z"⟩, 4) := ⟨⟨by decide +kernel, by decide +kernel⟩, List.mem_of_getElem? (i := 106) (by decide +kernel), List.mem_of_getElem? (i := 391) (by decide +kernel), List.mem_of_getElem? (i := 392) (by decide +kernel)⟩
theorem lw_p12 : lw_okq (⟨"AmendedDrawing$Drawing", "scale", "(III)Z"⟩, 4) := ⟨⟨by decide +kernel, by decide +kernel⟩, List.mem_of_getElem? (i := 106) (by decide +kernel), List.mem_of_getElem? (i := 405) (by decide +kernel), List.mem_of_getElem? (i := 406) (by decide +kernel)⟩
theorem lw_p13 : lw_okq (⟨"AmendedDrawing$Drawing", "edge", "(II)I"⟩, 4) := ⟨⟨by decide +kernel, by decide +kernel⟩, List.mem_of_getElem? (i := 106) (by decide +kernel), List.mem_of_getElem? (i := 409) (by decide +kernel), List.mem_of_getElem? (i := 410) (by decide +kernel)⟩
theorem lw_p14 : lw_okq (⟨"AmendedDrawing$Drawing", "paint", "(II)Z"⟩, 4) := ⟨⟨by decide +kernel, by decide +kernel⟩, List.mem_of_getElem? (i := 106) (by decide +kernel), List.mem_of_getElem? (i := 440) (by decide +kernel), List.mem_of_getElem? (i := 441) (by decide +kernel)⟩
theorem lw_p15 : lw_okq (⟨"AmendedDrawing$Drawing", "raise", "(II)Z"⟩, 4) := ⟨⟨by decide +kernel, by decide +kernel⟩, List.mem_of_getElem? (i := 106) (by decide +kernel), List.mem_of_getElem? (i := 444) (by decide +kernel), List.mem_of_getElem? (i := 445) (by decide +kernel)⟩
def lw_privs_1 : List (MethodName × Nat) := [(⟨"AmendedDrawing$Item", "ellipseReaches", "(JJ)Z"⟩, 8), (⟨"AmendedDrawing$Action", "sort", "(I)I"⟩, 3), (⟨"java/lang/Throwable", "fillInStackTrace", "(I)Ljava/lang/Throwable;"⟩, 6), (⟨"AmendedDrawing$Drawing", "make", "(LAmendedDrawing$Action;I)Z"⟩, 4), (⟨"AmendedDrawing$Drawing", "insert", "(II)V"⟩, 4), (⟨"AmendedDrawing$Drawing", "delete", "(I)Z"⟩, 4), (⟨"AmendedDrawing$Drawing", "placeOf", "(I)I"⟩, 4), (⟨"AmendedDrawing$Drawing", "endOf", "(I)I"⟩, 4), (⟨"AmendedDrawing$Drawing", "isIn", "(II)Z"⟩, 4), (⟨"AmendedDrawing$Drawing", "removeBlock", "(II)V"⟩, 4), (⟨"AmendedDrawing$Drawing", "move", "(III)Z"⟩, 4), (⟨"AmendedDrawing$Drawing", "isShapeIn", "(II)Z"⟩, 4), (⟨"AmendedDrawing$Drawing", "scale", "(III)Z"⟩, 4), (⟨"AmendedDrawing$Drawing", "edge", "(II)I"⟩, 4), (⟨"AmendedDrawing$Drawing", "paint", "(II)Z"⟩, 4), (⟨"AmendedDrawing$Drawing", "raise", "(II)Z"⟩, 4)]
theorem lw_r1 : ∀ q ∈ lw_privs_1, lw_okq q := List.forall_mem_cons.mpr ⟨lw_p0, List.forall_mem_cons.mpr ⟨lw_p1, List.forall_mem_cons.mpr ⟨lw_p2, List.forall_mem_cons.mpr ⟨lw_p3, List.forall_mem_cons.mpr ⟨lw_p4, List.forall_mem_cons.mpr ⟨lw_p5, List.forall_mem_cons.mpr ⟨lw_p6, List.forall_mem_cons.mpr ⟨lw_p7, List.forall_mem_cons.mpr ⟨lw_p8, List.forall_mem_cons.mpr ⟨lw_p9, List.forall_mem_cons.mpr ⟨lw_p10, List.forall_mem_cons.mpr ⟨lw_p11, List.forall_mem_cons.mpr ⟨lw_p12, List.forall_mem_cons.mpr ⟨lw_p13, List.forall_mem_cons.mpr ⟨lw_p14, List.forall_mem_cons.mpr ⟨lw_p15, fun _ h => absurd h List.not_mem_nil⟩⟩⟩⟩⟩⟩⟩⟩⟩⟩⟩⟩⟩⟩⟩⟩
theorem lw_p16 : lw_okq (⟨"AmendedDrawing$Drawing", "moveBlock", "(III)V"⟩, 4) := ⟨⟨by decide +kernel, by decide +kernel⟩, List.mem_of_getElem? (i := 106) (by decide +kernel), List.mem_of_getElem? (i := 448) (by decide +kernel), List.mem_of_getElem? (i := 449) (by decide +kernel)⟩
theorem lw_p17 : lw_okq (⟨"AmendedDrawing$Drawing", "group", "(III)Z"⟩, 4) := ⟨⟨by decide +kernel, by decide +kernel⟩, List.mem_of_getElem? (i := 106) (by decide +kernel), List.mem_of_getElem? (i := 452) (by decide +kernel), List.mem_of_getElem? (i := 453) (by decide +kernel)⟩
theorem lw_p18 : lw_okq (⟨"AmendedDrawing$Drawing", "ungroup", "(I)Z"⟩, 4) := ⟨⟨by decide +kernel, by decide +kernel⟩, List.mem_of_getElem? (i := 106) (by decide +kernel), List.mem_of_getElem? (i := 460) (by decide +kernel), List.mem_of_getElem? (i := 461) (by decide +kernel)⟩
theorem lw_p19 : lw_okq (⟨"AmendedDrawing$Drawing", "makeDouble", "(IIII)Z"⟩, 4) := ⟨⟨by decide +kernel, by decide +kernel⟩, List.mem_of_getElem? (i := 106) (by decide +kernel), List.mem_of_getElem? (i := 464) (by decide +kernel), List.mem_of_getElem? (i := 465) (by decide +kernel)⟩
theorem lw_p20 : lw_okq (⟨"AmendedDrawing$Drawing", "align", "(III)Z"⟩, 4) := ⟨⟨by decide +kernel, by decide +kernel⟩, List.mem_of_getElem? (i := 106) (by decide +kernel), List.mem_of_getElem? (i := 468) (by decide +kernel), List.mem_of_getElem? (i := 469) (by decide +kernel)⟩
theorem lw_p21 : lw_okq (⟨"AmendedDrawing$History", "at", "(I)LAmendedDrawing$Edit;"⟩, 4) := ⟨⟨by decide +kernel, by decide +kernel⟩, List.mem_of_getElem? (i := 51) (by decide +kernel), List.mem_of_getElem? (i := 496) (by decide +kernel), List.mem_of_getElem? (i := 497) (by decide +kernel)⟩
theorem lw_p22 : lw_okq (⟨"AmendedDrawing", "requireAction", "(I)V"⟩, 6) := ⟨⟨by decide +kernel, by decide +kernel⟩, List.mem_of_getElem? (i := 19) (by decide +kernel), List.mem_of_getElem? (i := 512) (by decide +kernel), List.mem_of_getElem? (i := 513) (by decide +kernel)⟩
theorem lw_p23 : lw_okq (⟨"AmendedDrawing", "changedBeside", "(I)I"⟩, 6) := ⟨⟨by decide +kernel, by decide +kernel⟩, List.mem_of_getElem? (i := 19) (by decide +kernel), List.mem_of_getElem? (i := 541) (by decide +kernel), List.mem_of_getElem? (i := 542) (by decide +kernel)⟩
theorem lw_p24 : lw_okq (⟨"AmendedDrawing", "setEdit", "(LAmendedDrawing$Edit;Z)V"⟩, 6) := ⟨⟨by decide +kernel, by decide +kernel⟩, List.mem_of_getElem? (i := 19) (by decide +kernel), List.mem_of_getElem? (i := 587) (by decide +kernel), List.mem_of_getElem? (i := 588) (by decide +kernel)⟩
theorem lw_p25 : lw_okq (⟨"AmendedDrawingModel", "arg", "(II)I"⟩, 19) := ⟨⟨by decide +kernel, by decide +kernel⟩, List.mem_of_getElem? (i := 653) (by decide +kernel), List.mem_of_getElem? (i := 735) (by decide +kernel), List.mem_of_getElem? (i := 736) (by decide +kernel)⟩
theorem lw_p26 : lw_okq (⟨"AmendedDrawingModel", "lay4", "(IIIII)V"⟩, 19) := ⟨⟨by decide +kernel, by decide +kernel⟩, List.mem_of_getElem? (i := 653) (by decide +kernel), List.mem_of_getElem? (i := 739) (by decide +kernel), List.mem_of_getElem? (i := 740) (by decide +kernel)⟩
theorem lw_p27 : lw_okq (⟨"AmendedDrawingModel", "goThrough", "(I)V"⟩, 19) := ⟨⟨by decide +kernel, by decide +kernel⟩, List.mem_of_getElem? (i := 653) (by decide +kernel), List.mem_of_getElem? (i := 743) (by decide +kernel), List.mem_of_getElem? (i := 744) (by decide +kernel)⟩
theorem lw_p28 : lw_okq (⟨"AmendedDrawingModel", "fits", "(I)Z"⟩, 19) := ⟨⟨by decide +kernel, by decide +kernel⟩, List.mem_of_getElem? (i := 653) (by decide +kernel), List.mem_of_getElem? (i := 747) (by decide +kernel), List.mem_of_getElem? (i := 748) (by decide +kernel)⟩
theorem lw_p29 : lw_okq (⟨"AmendedDrawingModel", "find", "(I)I"⟩, 19) := ⟨⟨by decide +kernel, by decide +kernel⟩, List.mem_of_getElem? (i := 653) (by decide +kernel), List.mem_of_getElem? (i := 751) (by decide +kernel), List.mem_of_getElem? (i := 752) (by decide +kernel)⟩
theorem lw_p30 : lw_okq (⟨"AmendedDrawingModel", "of", "(II)I"⟩, 19) := ⟨⟨by decide +kernel, by decide +kernel⟩, List.mem_of_getElem? (i := 653) (by decide +kernel), List.mem_of_getElem? (i := 755) (by decide +kernel), List.mem_of_getElem? (i := 756) (by decide +kernel)⟩
theorem lw_p31 : lw_okq (⟨"AmendedDrawingModel", "isAlone", "(I)Z"⟩, 19) := ⟨⟨by decide +kernel, by decide +kernel⟩, List.mem_of_getElem? (i := 653) (by decide +kernel), List.mem_of_getElem? (i := 759) (by decide +kernel), List.mem_of_getElem? (i := 760) (by decide +kernel)⟩
def lw_privs_2 : List (MethodName × Nat) := [(⟨"AmendedDrawing$Drawing", "moveBlock", "(III)V"⟩, 4), (⟨"AmendedDrawing$Drawing", "group", "(III)Z"⟩, 4), (⟨"AmendedDrawing$Drawing", "ungroup", "(I)Z"⟩, 4), (⟨"AmendedDrawing$Drawing", "makeDouble", "(IIII)Z"⟩, 4), (⟨"AmendedDrawing$Drawing", "align", "(III)Z"⟩, 4), (⟨"AmendedDrawing$History", "at", "(I)LAmendedDrawing$Edit;"⟩, 4), (⟨"AmendedDrawing", "requireAction", "(I)V"⟩, 6), (⟨"AmendedDrawing", "changedBeside", "(I)I"⟩, 6), (⟨"AmendedDrawing", "setEdit", "(LAmendedDrawing$Edit;Z)V"⟩, 6), (⟨"AmendedDrawingModel", "arg", "(II)I"⟩, 19), (⟨"AmendedDrawingModel", "lay4", "(IIIII)V"⟩, 19), (⟨"AmendedDrawingModel", "goThrough", "(I)V"⟩, 19), (⟨"AmendedDrawingModel", "fits", "(I)Z"⟩, 19), (⟨"AmendedDrawingModel", "find", "(I)I"⟩, 19), (⟨"AmendedDrawingModel", "of", "(II)I"⟩, 19), (⟨"AmendedDrawingModel", "isAlone", "(I)Z"⟩, 19)]
theorem lw_r2 : ∀ q ∈ lw_privs_2, lw_okq q := List.forall_mem_cons.mpr ⟨lw_p16, List.forall_mem_cons.mpr ⟨lw_p17, List.forall_mem_cons.mpr ⟨lw_p18, List.forall_mem_cons.mpr ⟨lw_p19, List.forall_mem_cons.mpr ⟨lw_p20, List.forall_mem_cons.mpr ⟨lw_p21, List.forall_mem_cons.mpr ⟨lw_p22, List.forall_mem_cons.mpr ⟨lw_p23, List.forall_mem_cons.mpr ⟨lw_p24, List.forall_mem_cons.mpr ⟨lw_p25, List.forall_mem_cons.mpr ⟨lw_p26, List.forall_mem_cons.mpr ⟨lw_p27, List.forall_mem_cons.mpr ⟨lw_p28, List.forall_mem_cons.mpr ⟨lw_p29, List.forall_mem_cons.mpr ⟨lw_p30, List.forall_mem_cons.mpr ⟨lw_p31, fun _ h => absurd h List.not_mem_nil⟩⟩⟩⟩⟩⟩⟩⟩⟩⟩⟩⟩⟩⟩⟩⟩
theorem lw_p32 : lw_okq (⟨"AmendedDrawingModel", "isIn", "(II)Z"⟩, 19) := ⟨⟨by decide +kernel, by decide +kernel⟩, List.mem_of_getElem? (i := 653) (by decide +kernel), List.mem_of_getElem? (i := 763) (by decide +kernel), List.mem_of_getElem? (i := 764) (by decide +kernel)⟩
theorem lw_p33 : lw_okq (⟨"AmendedDrawingModel", "act", "(I)V"⟩, 19) := ⟨⟨by decide +kernel, by decide +kernel⟩, List.mem_of_getElem? (i := 653) (by decide +kernel), List.mem_of_getElem? (i := 767) (by decide +kernel), List.mem_of_getElem? (i := 768) (by decide +kernel)⟩
theorem lw_p34 : lw_okq (⟨"AmendedDrawingModel", "make", "(I)V"⟩, 19) := ⟨⟨by decide +kernel, by decide +kernel⟩, List.mem_of_getElem? (i := 653) (by decide +kernel), List.mem_of_getElem? (i := 771) (by decide +kernel), List.mem_of_getElem? (i := 772) (by decide +kernel)⟩
theorem lw_p35 : lw_okq (⟨"AmendedDrawingModel", "put", "(III)V"⟩, 19) := ⟨⟨by decide +kernel, by decide +kernel⟩, List.mem_of_getElem? (i := 653) (by decide +kernel), List.mem_of_getElem? (i := 775) (by decide +kernel), List.mem_of_getElem? (i := 776) (by decide +kernel)⟩
theorem lw_p36 : lw_okq (⟨"AmendedDrawingModel", "delete", "(I)V"⟩, 19) := ⟨⟨by decide +kernel, by decide +kernel⟩, List.mem_of_getElem? (i := 653) (by decide +kernel), List.mem_of_getElem? (i := 779) (by decide +kernel), List.mem_of_getElem? (i := 780) (by decide +kernel)⟩
theorem lw_p37 : lw_okq (⟨"AmendedDrawingModel", "behind", "(I)I"⟩, 19) := ⟨⟨by decide +kernel, by decide +kernel⟩, List.mem_of_getElem? (i := 653) (by decide +kernel), List.mem_of_getElem? (i := 783) (by decide +kernel), List.mem_of_getElem? (i := 784) (by decide +kernel)⟩
theorem lw_p38 : lw_okq (⟨"AmendedDrawingModel", "takeOut", "(II)V"⟩, 19) := ⟨⟨by decide +kernel, by decide +kernel⟩, List.mem_of_getElem? (i := 653) (by decide +kernel), List.mem_of_getElem? (i := 787) (by decide +kernel), List.mem_of_getElem? (i := 788) (by decide +kernel)⟩
theorem lw_p39 : lw_okq (⟨"AmendedDrawingModel", "copyCells", "(II)V"⟩, 19) := ⟨⟨by decide +kernel, by decide +kernel⟩, List.mem_of_getElem? (i := 653) (by decide +kernel), List.mem_of_getElem? (i := 791) (by decide +kernel), List.mem_of_getElem? (i := 792) (by decide +kernel)⟩
theorem lw_p40 : lw_okq (⟨"AmendedDrawingModel", "shift", "(IIII)V"⟩, 19) := ⟨⟨by decide +kernel, by decide +kernel⟩, List.mem_of_getElem? (i := 653) (by decide +kernel), List.mem_of_getElem? (i := 795) (by decide +kernel), List.mem_of_getElem? (i := 796) (by decide +kernel)⟩
theorem lw_p41 : lw_okq (⟨"AmendedDrawingModel", "scale", "(IIII)V"⟩, 19) := ⟨⟨by decide +kernel, by decide +kernel⟩, List.mem_of_getElem? (i := 653) (by decide +kernel), List.mem_of_getElem? (i := 799) (by decide +kernel), List.mem_of_getElem? (i := 800) (by decide +kernel)⟩
theorem lw_p42 : lw_okq (⟨"AmendedDrawingModel", "findBox", "(II)V"⟩, 19) := ⟨⟨by decide +kernel, by decide +kernel⟩, List.mem_of_getElem? (i := 653) (by decide +kernel), List.mem_of_getElem? (i := 803) (by decide +kernel), List.mem_of_getElem? (i := 804) (by decide +kernel)⟩
theorem lw_p43 : lw_okq (⟨"AmendedDrawingModel", "raise", "(IZ)V"⟩, 19) := ⟨⟨by decide +kernel, by decide +kernel⟩, List.mem_of_getElem? (i := 653) (by decide +kernel), List.mem_of_getElem? (i := 812) (by decide +kernel), List.mem_of_getElem? (i := 813) (by decide +kernel)⟩
theorem lw_p44 : lw_okq (⟨"AmendedDrawingModel", "lift", "(II)V"⟩, 19) := ⟨⟨by decide +kernel, by decide +kernel⟩, List.mem_of_getElem? (i := 653) (by decide +kernel), List.mem_of_getElem? (i := 816) (by decide +kernel), List.mem_of_getElem? (i := 817) (by decide +kernel)⟩
theorem lw_p45 : lw_okq (⟨"AmendedDrawingModel", "lay", "(II)V"⟩, 19) := ⟨⟨by decide +kernel, by decide +kernel⟩, List.mem_of_getElem? (i := 653) (by decide +kernel), List.mem_of_getElem? (i := 820) (by decide +kernel), List.mem_of_getElem? (i := 821) (by decide +kernel)⟩
theorem lw_p46 : lw_okq (⟨"AmendedDrawingModel", "makeRoom", "(II)V"⟩, 19) := ⟨⟨by decide +kernel, by decide +kernel⟩, List.mem_of_getElem? (i := 653) (by decide +kernel), List.mem_of_getElem? (i := 824) (by decide +kernel), List.mem_of_getElem? (i := 825) (by decide +kernel)⟩
theorem lw_p47 : lw_okq (⟨"AmendedDrawingModel", "group", "(III)V"⟩, 19) := ⟨⟨by decide +kernel, by decide +kernel⟩, List.mem_of_getElem? (i := 653) (by decide +kernel), List.mem_of_getElem? (i := 828) (by decide +kernel), List.mem_of_getElem? (i := 829) (by decide +kernel)⟩
def lw_privs_3 : List (MethodName × Nat) := [(⟨"AmendedDrawingModel", "isIn", "(II)Z"⟩, 19), (⟨"AmendedDrawingModel", "act", "(I)V"⟩, 19), (⟨"AmendedDrawingModel", "make", "(I)V"⟩, 19), (⟨"AmendedDrawingModel", "put", "(III)V"⟩, 19), (⟨"AmendedDrawingModel", "delete", "(I)V"⟩, 19), (⟨"AmendedDrawingModel", "behind", "(I)I"⟩, 19), (⟨"AmendedDrawingModel", "takeOut", "(II)V"⟩, 19), (⟨"AmendedDrawingModel", "copyCells", "(II)V"⟩, 19), (⟨"AmendedDrawingModel", "shift", "(IIII)V"⟩, 19), (⟨"AmendedDrawingModel", "scale", "(IIII)V"⟩, 19), (⟨"AmendedDrawingModel", "findBox", "(II)V"⟩, 19), (⟨"AmendedDrawingModel", "raise", "(IZ)V"⟩, 19), (⟨"AmendedDrawingModel", "lift", "(II)V"⟩, 19), (⟨"AmendedDrawingModel", "lay", "(II)V"⟩, 19), (⟨"AmendedDrawingModel", "makeRoom", "(II)V"⟩, 19), (⟨"AmendedDrawingModel", "group", "(III)V"⟩, 19)]
theorem lw_r3 : ∀ q ∈ lw_privs_3, lw_okq q := List.forall_mem_cons.mpr ⟨lw_p32, List.forall_mem_cons.mpr ⟨lw_p33, List.forall_mem_cons.mpr ⟨lw_p34, List.forall_mem_cons.mpr ⟨lw_p35, List.forall_mem_cons.mpr ⟨lw_p36, List.forall_mem_cons.mpr ⟨lw_p37, List.forall_mem_cons.mpr ⟨lw_p38, List.forall_mem_cons.mpr ⟨lw_p39, List.forall_mem_cons.mpr ⟨lw_p40, List.forall_mem_cons.mpr ⟨lw_p41, List.forall_mem_cons.mpr ⟨lw_p42, List.forall_mem_cons.mpr ⟨lw_p43, List.forall_mem_cons.mpr ⟨lw_p44, List.forall_mem_cons.mpr ⟨lw_p45, List.forall_mem_cons.mpr ⟨lw_p46, List.forall_mem_cons.mpr ⟨lw_p47, fun _ h => absurd h List.not_mem_nil⟩⟩⟩⟩⟩⟩⟩⟩⟩⟩⟩⟩⟩⟩⟩⟩
theorem lw_p48 : lw_okq (⟨"AmendedDrawingModel", "ungroup", "(I)V"⟩, 19) := ⟨⟨by decide +kernel, by decide +kernel⟩, List.mem_of_getElem? (i := 653) (by decide +kernel), List.mem_of_getElem? (i := 832) (by decide +kernel), List.mem_of_getElem? (i := 833) (by decide +kernel)⟩
theorem lw_p49 : lw_okq (⟨"AmendedDrawingModel", "twice", "(IIII)V"⟩, 19) := ⟨⟨by decide +kernel, by decide +kernel⟩, List.mem_of_getElem? (i := 653) (by decide +kernel), List.mem_of_getElem? (i := 836) (by decide +kernel), List.mem_of_getElem? (i := 837) (by decide +kernel)⟩
theorem lw_p50 : lw_okq (⟨"AmendedDrawingModel", "align", "(III)V"⟩, 19) := ⟨⟨by decide +kernel, by decide +kernel⟩, List.mem_of_getElem? (i := 653) (by decide +kernel), List.mem_of_getElem? (i := 840) (by decide +kernel), List.mem_of_getElem? (i := 841) (by decide +kernel)⟩
theorem lw_p51 : lw_okq (⟨"AmendedDrawingModel", "holdLimits", "()Z"⟩, 19) := ⟨⟨by decide +kernel, by decide +kernel⟩, List.mem_of_getElem? (i := 653) (by decide +kernel), List.mem_of_getElem? (i := 844) (by decide +kernel), List.mem_of_getElem? (i := 845) (by decide +kernel)⟩
theorem lw_p52 : lw_okq (⟨"AmendedDrawingModel", "note", "(IIIII)V"⟩, 19) := ⟨⟨by decide +kernel, by decide +kernel⟩, List.mem_of_getElem? (i := 653) (by decide +kernel), List.mem_of_getElem? (i := 848) (by decide +kernel), List.mem_of_getElem? (i := 849) (by decide +kernel)⟩
theorem lw_p53 : lw_okq (⟨"AmendedDrawingModel", "turn", "(IZ)I"⟩, 19) := ⟨⟨by decide +kernel, by decide +kernel⟩, List.mem_of_getElem? (i := 653) (by decide +kernel), List.mem_of_getElem? (i := 856) (by decide +kernel), List.mem_of_getElem? (i := 857) (by decide +kernel)⟩
theorem lw_p54 : lw_okq (⟨"AmendedDrawingModel", "isAction", "(I)Z"⟩, 19) := ⟨⟨by decide +kernel, by decide +kernel⟩, List.mem_of_getElem? (i := 653) (by decide +kernel), List.mem_of_getElem? (i := 860) (by decide +kernel), List.mem_of_getElem? (i := 861) (by decide +kernel)⟩
theorem lw_p55 : lw_okq (⟨"AmendedDrawingModel", "remember", "()V"⟩, 19) := ⟨⟨by decide +kernel, by decide +kernel⟩, List.mem_of_getElem? (i := 653) (by decide +kernel), List.mem_of_getElem? (i := 864) (by decide +kernel), List.mem_of_getElem? (i := 865) (by decide +kernel)⟩
theorem lw_p56 : lw_okq (⟨"AmendedDrawingModel", "others", "(I)I"⟩, 19) := ⟨⟨by decide +kernel, by decide +kernel⟩, List.mem_of_getElem? (i := 653) (by decide +kernel), List.mem_of_getElem? (i := 868) (by decide +kernel), List.mem_of_getElem? (i := 869) (by decide +kernel)⟩
theorem lw_p57 : lw_okq (⟨"AmendedDrawingModel", "carry", "(IZ)I"⟩, 19) := ⟨⟨by decide +kernel, by decide +kernel⟩, List.mem_of_getElem? (i := 653) (by decide +kernel), List.mem_of_getElem? (i := 884) (by decide +kernel), List.mem_of_getElem? (i := 885) (by decide +kernel)⟩
theorem lw_p58 : lw_okq (⟨"AmendedDrawingModel", "covering", "(II)I"⟩, 19) := ⟨⟨by decide +kernel, by decide +kernel⟩, List.mem_of_getElem? (i := 653) (by decide +kernel), List.mem_of_getElem? (i := 924) (by decide +kernel), List.mem_of_getElem? (i := 925) (by decide +kernel)⟩
theorem lw_p59 : lw_okq (⟨"AmendedDrawingModel", "covers", "(III)Z"⟩, 19) := ⟨⟨by decide +kernel, by decide +kernel⟩, List.mem_of_getElem? (i := 653) (by decide +kernel), List.mem_of_getElem? (i := 928) (by decide +kernel), List.mem_of_getElem? (i := 929) (by decide +kernel)⟩
def lw_privs_4 : List (MethodName × Nat) := [(⟨"AmendedDrawingModel", "ungroup", "(I)V"⟩, 19), (⟨"AmendedDrawingModel", "twice", "(IIII)V"⟩, 19), (⟨"AmendedDrawingModel", "align", "(III)V"⟩, 19), (⟨"AmendedDrawingModel", "holdLimits", "()Z"⟩, 19), (⟨"AmendedDrawingModel", "note", "(IIIII)V"⟩, 19), (⟨"AmendedDrawingModel", "turn", "(IZ)I"⟩, 19), (⟨"AmendedDrawingModel", "isAction", "(I)Z"⟩, 19), (⟨"AmendedDrawingModel", "remember", "()V"⟩, 19), (⟨"AmendedDrawingModel", "others", "(I)I"⟩, 19), (⟨"AmendedDrawingModel", "carry", "(IZ)I"⟩, 19), (⟨"AmendedDrawingModel", "covering", "(II)I"⟩, 19), (⟨"AmendedDrawingModel", "covers", "(III)Z"⟩, 19)]
theorem lw_r4 : ∀ q ∈ lw_privs_4, lw_okq q := List.forall_mem_cons.mpr ⟨lw_p48, List.forall_mem_cons.mpr ⟨lw_p49, List.forall_mem_cons.mpr ⟨lw_p50, List.forall_mem_cons.mpr ⟨lw_p51, List.forall_mem_cons.mpr ⟨lw_p52, List.forall_mem_cons.mpr ⟨lw_p53, List.forall_mem_cons.mpr ⟨lw_p54, List.forall_mem_cons.mpr ⟨lw_p55, List.forall_mem_cons.mpr ⟨lw_p56, List.forall_mem_cons.mpr ⟨lw_p57, List.forall_mem_cons.mpr ⟨lw_p58, List.forall_mem_cons.mpr ⟨lw_p59, fun _ h => absurd h List.not_mem_nil⟩⟩⟩⟩⟩⟩⟩⟩⟩⟩⟩⟩
def lw_privs : List (MethodName × Nat) := lw_privs_1 ++ (lw_privs_2 ++ (lw_privs_3 ++ (lw_privs_4)))
def lw_tbl : List Cond := k2_sels lw_privs ++ tables_1
theorem lw_privs_ok : ∀ q ∈ lw_privs, lw_okq q := by
  show ∀ q ∈ lw_privs_1 ++ (lw_privs_2 ++ (lw_privs_3 ++ (lw_privs_4))), lw_okq q
  exact List.forall_mem_append.mpr ⟨lw_r1, List.forall_mem_append.mpr ⟨lw_r2, List.forall_mem_append.mpr ⟨lw_r3, lw_r4⟩⟩⟩
end
section
def R_Action : String := "AmendedDrawing$Action"
def R_Edit : String := "AmendedDrawing$Edit"
def R_Item : String := "AmendedDrawing$Item"
def cC : Nat → String
  | 0 => "AmendedDrawing"
  | 1 => "AmendedDrawing$Action"
  | 2 => "AmendedDrawing$Edit"
  | 3 => "AmendedDrawing$History"
  | 4 => "AmendedDrawing$Outcome"
  | 5 => "AmendedDrawing$Item"
  | 6 => "AmendedDrawing$Drawing"
  | 7 => "AmendedDrawingModel"
  | _ => ""
def cN : Nat → Nat
  | 0 => 6
  | 1 => 3
  | 2 => 5
  | 3 => 4
  | 4 => 3
  | 5 => 8
  | 6 => 4
  | 7 => 19
  | _ => 0
def fk : Nat → List Bool
  | 0 => [true, true, true, true, true, false]
  | 1 => [false, false, true]
  | 2 => [false, false, false, false, false]
  | 3 => [true, false, false, false]
  | 4 => [true, true, true]
  | 5 => [false, false, false, false, false, false, false, false]
  | 6 => [true, true, false, true]
  | 7 => [false, false, true, true, true, true, true, false, true, false, true, true, false, false, false, false, true, false, false]
  | _ => []
def cFL : Nat → List (String × String × String × Bool)
  | 0 => [("AmendedDrawing", "row", "[LAmendedDrawing$Action;", true), ("AmendedDrawing", "offered", "LAmendedDrawing$Action;", true), ("AmendedDrawing", "history", "LAmendedDrawing$History;", true), ("AmendedDrawing", "now", "LAmendedDrawing$Outcome;", true), ("AmendedDrawing", "trial", "LAmendedDrawing$Outcome;", true), ("AmendedDrawing", "count", "I", false)]
  | 1 => [("AmendedDrawing$Action", "kind", "I", false), ("AmendedDrawing$Action", "withdrawn", "Z", false), ("AmendedDrawing$Action", "arguments", "[I", true)]
  | 2 => [("AmendedDrawing$Edit", "kind", "I", false), ("AmendedDrawing$Edit", "action", "I", false), ("AmendedDrawing$Edit", "argument", "I", false), ("AmendedDrawing$Edit", "before", "I", false), ("AmendedDrawing$Edit", "after", "I", false)]
  | 3 => [("AmendedDrawing$History", "ring", "[LAmendedDrawing$Edit;", true), ("AmendedDrawing$History", "first", "I", false), ("AmendedDrawing$History", "done", "I", false), ("AmendedDrawing$History", "undone", "I", false)]
  | 4 => [("AmendedDrawing$Outcome", "drawing", "LAmendedDrawing$Drawing;", true), ("AmendedDrawing$Outcome", "effects", "[I", true), ("AmendedDrawing$Outcome", "before", "[I", true)]
  | 5 => [("AmendedDrawing$Item", "there", "Z", false), ("AmendedDrawing$Item", "form", "I", false), ("AmendedDrawing$Item", "left", "I", false), ("AmendedDrawing$Item", "top", "I", false), ("AmendedDrawing$Item", "width", "I", false), ("AmendedDrawing$Item", "height", "I", false), ("AmendedDrawing$Item", "colour", "I", false), ("AmendedDrawing$Item", "parent", "I", false)]
  | 6 => [("AmendedDrawing$Drawing", "items", "[LAmendedDrawing$Item;", true), ("AmendedDrawing$Drawing", "order", "[I", true), ("AmendedDrawing$Drawing", "size", "I", false), ("AmendedDrawing$Drawing", "block", "[I", true)]
  | 7 => [("AmendedDrawingModel", "thrown", "I", false), ("AmendedDrawingModel", "count", "I", false), ("AmendedDrawingModel", "kinds", "[I", true), ("AmendedDrawingModel", "args", "[I", true), ("AmendedDrawingModel", "withdrawn", "[Z", true), ("AmendedDrawingModel", "effects", "[I", true), ("AmendedDrawingModel", "base", "[I", true), ("AmendedDrawingModel", "n", "I", false), ("AmendedDrawingModel", "row", "[I", true), ("AmendedDrawingModel", "keptMany", "I", false), ("AmendedDrawingModel", "kept", "[I", true), ("AmendedDrawingModel", "moved", "[I", true), ("AmendedDrawingModel", "boxLeft", "I", false), ("AmendedDrawingModel", "boxTop", "I", false), ("AmendedDrawingModel", "boxRight", "I", false), ("AmendedDrawingModel", "boxLow", "I", false), ("AmendedDrawingModel", "edits", "[I", true), ("AmendedDrawingModel", "known", "I", false), ("AmendedDrawingModel", "done", "I", false)]
  | _ => []
def cTL : Nat → List FieldType
  | 0 => [.array (.object "AmendedDrawing$Action"), .object "AmendedDrawing$Action", .object "AmendedDrawing$History", .object "AmendedDrawing$Outcome", .object "AmendedDrawing$Outcome", .int]
  | 1 => [.int, .boolean, .array (.int)]
  | 2 => [.int, .int, .int, .int, .int]
  | 3 => [.array (.object "AmendedDrawing$Edit"), .int, .int, .int]
  | 4 => [.object "AmendedDrawing$Drawing", .array (.int), .array (.int)]
  | 5 => [.boolean, .int, .int, .int, .int, .int, .int, .int]
  | 6 => [.array (.object "AmendedDrawing$Item"), .array (.int), .int, .array (.int)]
  | 7 => [.int, .int, .array (.int), .array (.int), .array (.boolean), .array (.int), .array (.int), .int, .array (.int), .int, .array (.int), .array (.int), .int, .int, .int, .int, .array (.int), .int, .int]
  | _ => []
def cF (ci : Nat) : u_T := fun k => (cFL ci).getD k ("", "", "", false)
def cT (ci : Nat) : Nat → FieldType := fun k => (cTL ci).getD k .int
abbrev CL : List vw_C := [(cC 0, cF 0, cN 0), (cC 1, cF 1, cN 1), (cC 2, cF 2, cN 2), (cC 3, cF 3, cN 3), (cC 4, cF 4, cN 4), (cC 5, cF 5, cN 5), (cC 6, cF 6, cN 6), (cC 7, cF 7, cN 7)]
abbrev ciA : Nat := 1
abbrev ciE : Nat := 2
abbrev ciI : Nat := 5
def TT : List Cond := lw_tbl.filter goodWord
def isNW : Cond → Bool
  | .declares _ => true
  | .methodLinkNest .. => true
  | .castable .. => true
  | _ => false
def NW : List Cond := lw_tbl.filter isNW
theorem nw_mem {w : Cond} (j : Nat) (h : tables_1[j]? = some w) (hg : isNW w = true) : w ∈ NW := List.mem_filter.mpr ⟨List.mem_append_right _ (List.mem_of_getElem? h), hg⟩
theorem tt_of {w : Cond} (h : w ∈ lw_tbl) (hg : goodWord w = true) : w ∈ TT := List.mem_filter.mpr ⟨h, hg⟩
theorem tt_mem {w : Cond} (j : Nat) (h : tables_1[j]? = some w) (hg : goodWord w = true) : w ∈ TT := tt_of (List.mem_append_right _ (List.mem_of_getElem? h)) hg
theorem tt_sel {w : Cond} (j : Nat) (h : (k2_sels lw_privs)[j]? = some w) (hg : goodWord w = true) : w ∈ TT := tt_of (List.mem_append_left _ (List.mem_of_getElem? h)) hg
set_option maxRecDepth 20000 in
theorem kl_0 : ∀ k : Nat, k < 6 → u_lay (cC 0) (cF 0) k ∈ TT
  | 0, _ => tt_mem 186 rfl rfl
  | 1, _ => tt_mem 188 rfl rfl
  | 2, _ => tt_mem 190 rfl rfl
  | 3, _ => tt_mem 192 rfl rfl
  | 4, _ => tt_mem 194 rfl rfl
  | 5, _ => tt_mem 196 rfl rfl
  | k + 6, h => absurd h (by omega)
set_option maxRecDepth 20000 in
theorem kl_1 : ∀ k : Nat, k < 3 → u_lay (cC 1) (cF 1) k ∈ TT
  | 0, _ => tt_mem 42 rfl rfl
  | 1, _ => tt_mem 44 rfl rfl
  | 2, _ => tt_mem 46 rfl rfl
  | k + 3, h => absurd h (by omega)
set_option maxRecDepth 20000 in
theorem kl_2 : ∀ k : Nat, k < 5 → u_lay (cC 2) (cF 2) k ∈ TT
  | 0, _ => tt_mem 73 rfl rfl
  | 1, _ => tt_mem 75 rfl rfl
  | 2, _ => tt_mem 77 rfl rfl
  | 3, _ => tt_mem 79 rfl rfl
  | 4, _ => tt_mem 81 rfl rfl
  | k + 5, h => absurd h (by omega)
set_option maxRecDepth 20000 in
theorem kl_3 : ∀ k : Nat, k < 4 → u_lay (cC 3) (cF 3) k ∈ TT
  | 0, _ => tt_mem 90 rfl rfl
  | 1, _ => tt_mem 92 rfl rfl
  | 2, _ => tt_mem 94 rfl rfl
  | 3, _ => tt_mem 96 rfl rfl
  | k + 4, h => absurd h (by omega)
set_option maxRecDepth 20000 in
theorem kl_4 : ∀ k : Nat, k < 3 → u_lay (cC 4) (cF 4) k ∈ TT
  | 0, _ => tt_mem 173 rfl rfl
  | 1, _ => tt_mem 175 rfl rfl
  | 2, _ => tt_mem 177 rfl rfl
  | k + 3, h => absurd h (by omega)
set_option maxRecDepth 20000 in
theorem kl_5 : ∀ k : Nat, k < 8 → u_lay (cC 5) (cF 5) k ∈ TT
  | 0, _ => tt_mem 134 rfl rfl
  | 1, _ => tt_mem 136 rfl rfl
  | 2, _ => tt_mem 138 rfl rfl
  | 3, _ => tt_mem 140 rfl rfl
  | 4, _ => tt_mem 142 rfl rfl
  | 5, _ => tt_mem 144 rfl rfl
  | 6, _ => tt_mem 146 rfl rfl
  | 7, _ => tt_mem 148 rfl rfl
  | k + 8, h => absurd h (by omega)
set_option maxRecDepth 20000 in
theorem kl_6 : ∀ k : Nat, k < 4 → u_lay (cC 6) (cF 6) k ∈ TT
  | 0, _ => tt_mem 158 rfl rfl
  | 1, _ => tt_mem 160 rfl rfl
  | 2, _ => tt_mem 162 rfl rfl
  | 3, _ => tt_mem 164 rfl rfl
  | k + 4, h => absurd h (by omega)
set_option maxRecDepth 20000 in
theorem kl_7 : ∀ k : Nat, k < 19 → u_lay (cC 7) (cF 7) k ∈ TT
  | 0, _ => tt_mem 677 rfl rfl
  | 1, _ => tt_mem 679 rfl rfl
  | 2, _ => tt_mem 681 rfl rfl
  | 3, _ => tt_mem 683 rfl rfl
  | 4, _ => tt_mem 685 rfl rfl
  | 5, _ => tt_mem 687 rfl rfl
  | 6, _ => tt_mem 689 rfl rfl
  | 7, _ => tt_mem 691 rfl rfl
  | 8, _ => tt_mem 693 rfl rfl
  | 9, _ => tt_mem 695 rfl rfl
  | 10, _ => tt_mem 697 rfl rfl
  | 11, _ => tt_mem 699 rfl rfl
  | 12, _ => tt_mem 701 rfl rfl
  | 13, _ => tt_mem 703 rfl rfl
  | 14, _ => tt_mem 705 rfl rfl
  | 15, _ => tt_mem 707 rfl rfl
  | 16, _ => tt_mem 709 rfl rfl
  | 17, _ => tt_mem 711 rfl rfl
  | 18, _ => tt_mem 713 rfl rfl
  | k + 19, h => absurd h (by omega)
theorem kc : ∀ ci : Nat, ci < 8 → CL[ci]? = some (cC ci, cF ci, cN ci)
  | 0, _ => rfl
  | 1, _ => rfl
  | 2, _ => rfl
  | 3, _ => rfl
  | 4, _ => rfl
  | 5, _ => rfl
  | 6, _ => rfl
  | 7, _ => rfl
  | k + 8, h => absurd h (by omega)
theorem kl_in {C : String} {T : u_T} {N : Nat} (h : ∀ k : Nat, k < N → u_lay C T k ∈ TT) : ∀ w ∈ u_ws C T N, w ∈ TT := by
  intro w hw
  obtain ⟨k, hk, rfl⟩ := List.mem_map.mp hw
  exact h k (List.mem_range.mp hk)
theorem kc_in : ∀ ci : Nat, ci < 8 → ∀ w ∈ u_ws (cC ci) (cF ci) (cN ci), w ∈ TT
  | 0, _ => kl_in kl_0
  | 1, _ => kl_in kl_1
  | 2, _ => kl_in kl_2
  | 3, _ => kl_in kl_3
  | 4, _ => kl_in kl_4
  | 5, _ => kl_in kl_5
  | 6, _ => kl_in kl_6
  | 7, _ => kl_in kl_7
  | k + 8, h => absurd h (by omega)
theorem kc_ty : ∀ ci : Nat, ci < 8 → ∀ k, k < cN ci → parseFieldDescriptor (cF ci k).2.2.1 = some (cT ci k)
  | 0, _ => by decide +kernel
  | 1, _ => by decide +kernel
  | 2, _ => by decide +kernel
  | 3, _ => by decide +kernel
  | 4, _ => by decide +kernel
  | 5, _ => by decide +kernel
  | 6, _ => by decide +kernel
  | 7, _ => by decide +kernel
  | k + 8, h => absurd h (by omega)
theorem kc_nm : ∀ ci : Nat, ci < 8 → ∀ a, a < cN ci → ∀ b, b < cN ci → a ≠ b → (cF ci a).2.1 ≠ (cF ci b).2.1
  | 0, _ => by decide +kernel
  | 1, _ => by decide +kernel
  | 2, _ => by decide +kernel
  | 3, _ => by decide +kernel
  | 4, _ => by decide +kernel
  | 5, _ => by decide +kernel
  | 6, _ => by decide +kernel
  | 7, _ => by decide +kernel
  | k + 8, h => absurd h (by omega)
theorem fk_ci {ci i : Nat} {b : Bool} (h : (fk ci)[i]? = some b) : ci < 8 := by
  match ci, h with
  | 0, _ => decide
  | 1, _ => decide
  | 2, _ => decide
  | 3, _ => decide
  | 4, _ => decide
  | 5, _ => decide
  | 6, _ => decide
  | 7, _ => decide
  | k + 8, h => simp [fk] at h
theorem fk_len : ∀ ci : Nat, ci < 8 → (fk ci).length = cN ci
  | 0, _ => rfl
  | 1, _ => rfl
  | 2, _ => rfl
  | 3, _ => rfl
  | 4, _ => rfl
  | 5, _ => rfl
  | 6, _ => rfl
  | 7, _ => rfl
  | k + 8, h => absurd h (by omega)
theorem fk_lt {ci i : Nat} {b : Bool} (h : (fk ci)[i]? = some b) : i < cN ci := by
  have h1 := (List.getElem?_eq_some_iff.mp h).1
  rw [fk_len ci (fk_ci h)] at h1
  exact h1
abbrev nwE : Cond := (Jvm.Cond.methodLinkNest "AmendedDrawing$History" (17 : Nat) ({ cls := "AmendedDrawing$Edit", name := "<init>", desc := "()V" } : Jvm.MethodName) "AmendedDrawing")
abbrev nwI : Cond := (Jvm.Cond.methodLinkNest "AmendedDrawing$Drawing" (17 : Nat) ({ cls := "AmendedDrawing$Item", name := "<init>", desc := "()V" } : Jvm.MethodName) "AmendedDrawing")
def sortsL : List Int32 := [2, 3, 3, 4, 1, 0, 0, 0, 1, 3, 3, 0, 1, 5, 5, 0, 1, 6, 0, 0, 1, 7, 0, 0, 1, 1, 0, 0, 1, 0, 0, 0, 1, 3, 3, 0, 1, 1, 8, 0]
def sortsF (j : Nat) : Int32 := sortsL.getD j 0
end
section
/-! The layer Z over W: a frame of the machine over ONE picture of all cells that the law has made since its start: cell k lies at address o + k; ints in S, longs in J, references in P, the cells' kinds in T (0: object of class ci; 1: ints; 2: booleans; 3: longs; 4, 5, 6: references to Action, Edit, Item), x: nothing else has been made since the start. A rule an instruction. -/
abbrev Mem : Type := Nat → Nat → Int32
abbrev Gp : Type := (Nat → Nat → Int64) × (Nat → Nat → Option Nat) × List (Nat × Nat) × Bool
abbrev Hp : Type := Mem × Gp
abbrev Rs : Type := Option Value ⊕ Nat
abbrev Gm : Type := Launch × va_G × (Nat → ClassId) × Nat × Nat × Nat × Nat × (Nat → Int32)
abbrev g_l (g : Gm) : Launch := g.1
abbrev g_D (g : Gm) : va_G := g.2.1
abbrev g_A (g : Gm) : Nat → ClassId := g.2.2.1
abbrev g_o (g : Gm) : Nat := g.2.2.2.1
abbrev g_t (g : Gm) : Nat := g.2.2.2.2.1
abbrev g_b (g : Gm) : Nat := g.2.2.2.2.2.1
abbrev g_n (g : Gm) : Nat := g.2.2.2.2.2.2.1
abbrev g_x (g : Gm) : Nat → Int32 := g.2.2.2.2.2.2.2
/-- the methods: name, bytes, locals, answer, room, handlers, rows (place, instruction, length, next place, branch's target) -/
abbrev Row : Type := Nat × Instr × Nat × Nat × Nat
abbrev MI : Type := MethodName × ByteArray × Nat × Option FieldType × Room × List (Nat × Nat × Nat × Nat) × List Row
abbrev mY (M : MI) : MethodName := M.1
abbrev mB (M : MI) : ByteArray := M.2.1
abbrev mL (M : MI) : Nat := M.2.2.1
abbrev mR (M : MI) : Option FieldType := M.2.2.2.1
abbrev mM (M : MI) : Room := M.2.2.2.2.1
abbrev mX (M : MI) : List (Nat × Nat × Nat × Nat) := M.2.2.2.2.2.1
abbrev mT (M : MI) : List Row := M.2.2.2.2.2.2
def fI (M : MI) (pc : Nat) : Option (Instr × Nat × Nat × Nat) := (mT M).lookup pc
def brOff : Instr → Option Int
  | .goto o => some o
  | .ifCond _ o => some o
  | .if_icmp _ o => some o
  | _ => none
def okRow (b : ByteArray) (r : Row) : Bool := decide (decode b r.1 = .ok (r.2.1, r.2.2.1)) && (decide (r.2.2.2.1 = r.1 + r.2.2.1) && (match brOff r.2.1 with
  | some o => decide ((r.1 : Int) + o = (r.2.2.2.2 : Int))
  | none => true))
def okM (M : MI) : Prop := (mT M).all (okRow (mB M)) = true
theorem lookup_mem {l : List Row} {k : Nat} {v : Instr × Nat × Nat × Nat} (h : l.lookup k = some v) : (k, v) ∈ l := by
  induction l with
  | nil => simp at h
  | cons a t ih =>
    obtain ⟨a1, a2⟩ := a
    rw [List.lookup_cons] at h
    by_cases hk : k = a1
    · subst hk
      simp at h
      subst h
      exact List.mem_cons_self
    · have hb : (k == a1) = false := by simpa using hk
      rw [hb] at h
      exact List.mem_cons_of_mem _ (ih h)
theorem fI_ok {M : MI} {pc : Nat} {i : Instr} {n nx tg : Nat} (hM : okM M) (h : fI M pc = some (i, n, nx, tg)) : decode (mB M) pc = .ok (i, n) ∧ nx = pc + n ∧ ∀ o, brOff i = some o → (pc : Int) + o = (tg : Int) := by
  have h1 := List.all_eq_true.mp hM _ (lookup_mem h)
  simp only [okRow, Bool.and_eq_true, decide_eq_true_eq] at h1
  refine ⟨h1.1, h1.2.1, fun o ho => ?_⟩
  have h2 := h1.2.2
  rw [ho] at h2
  simpa using h2
def tr (g : Gm) : Value → Value
  | .ref k => .ref (g_o g + k)
  | .retAddr 0 => .ref (g_t g)
  | .retAddr _ => .ref (g_b g)
  | v => v
theorem tr_cat (g : Gm) (v : Value) : (tr g v).category = v.category := by
  cases v with
  | retAddr n => cases n <;> rfl
  | _ => rfl
def tysOf (g : Gm) : List (ClassId × FieldType) := [(g_A g 0, .int), (g_A g 1, .boolean), (g_A g 2, .long), (g_A g 3, .object R_Action), (g_A g 4, .object R_Edit), (g_A g 5, .object R_Item)]
/-- the fields of an object: ints out of S, references out of P -/
def mfs (o : Nat) (S : Nat → Int32) (P : Nat → Option Nat) : Nat → List Bool → List Value
  | _, [] => []
  | i, false :: t => .int (S i) :: mfs o S P (i + 1) t
  | i, true :: t => va_rf ((P i).map (o + ·)) :: mfs o S P (i + 1) t
def mce (g : Gm) (h : Hp) (k : Nat) (ct : Nat × Nat) : va_E := match ct.1 with
  | 0 => .inr (ct.2, mfs (g_o g) (h.1 k) (h.2.2.1 k) 0 (fk ct.2))
  | 1 => .inl (g_A g 0, ct.2, .inl (h.1 k))
  | 2 => .inl (g_A g 1, ct.2, .inl (h.1 k))
  | 3 => .inl (g_A g 2, ct.2, .inr (.inl (h.2.1 k)))
  | j + 4 => .inl (g_A g (j + 3), ct.2, .inr (.inr (.inr (.inr (fun i => (h.2.2.1 k i).map (g_o g + ·))))))
def mws (g : Gm) (h : Hp) : va_W := h.2.2.2.1.mapIdx fun k ct => (g_o g + k, mce g h k ct)
def zA (g : Gm) : Nat → Prop := fun q => g_o g ≤ q
def zK (g : Gm) (U : State) : Prop := va_K (g_D g) CL (tysOf g) U ∧ (va_AO R_Action U ∧ va_AO R_Edit U ∧ va_AO R_Item U) ∧ ∀ w ∈ NW, va_Nw w U
def zU (g : Gm) (U : State) (H : Heap) : Prop := va_Z R_Action "SORTS" "[I" (.ref (g_t g)) (zA g) U H ∧ va_T .int (g_t g) 40 (fun j => .int (sortsF j)) (zA g) U H ∧ va_X (g_b g) (g_n g) (g_x g) U H ∧ g_b g < g_o g ∧ g_o g ≤ H.size ∧ (∃ u : RefV, va_Z "java/lang/Throwable" "UNASSIGNED_STACK" "[Ljava/lang/StackTraceElement;" u.v (zA g) U H) ∧ ∃ u : RefV, va_Z "java/lang/Throwable" "SUPPRESSED_SENTINEL" "Ljava/util/List;" u.v (zA g) U H
theorem mws_at {g : Gm} {h : Hp} {k : Nat} {ct : Nat × Nat} (hk : h.2.2.2.1[k]? = some ct) : (mws g h)[k]? = some (g_o g + k, mce g h k ct) := by
  simp only [mws, List.getElem?_mapIdx, hk, Option.map_some]
theorem mws_of {g : Gm} {h : Hp} {k : Nat} {q : Nat × va_E} (hq : (mws g h)[k]? = some q) : ∃ ct, h.2.2.2.1[k]? = some ct ∧ q = (g_o g + k, mce g h k ct) := by
  simp only [mws, List.getElem?_mapIdx, Option.map_eq_some_iff] at hq
  obtain ⟨ct, h1, h2⟩ := hq
  exact ⟨ct, h1, h2.symm⟩
theorem mws_len (g : Gm) (h : Hp) : (mws g h).length = h.2.2.2.1.length := by simp [mws]
theorem mD {g : Gm} {h : Hp} : va_D (zA g) (mws g h) := by
  refine ⟨fun i j p q hp hq e => ?_, fun k q hq => ?_⟩
  · obtain ⟨_, _, rfl⟩ := mws_of hp
    obtain ⟨_, _, rfl⟩ := mws_of hq
    exact Nat.add_left_cancel e
  · obtain ⟨_, _, rfl⟩ := mws_of hq
    exact Nat.le_add_right _ _
theorem mce_cg {g : Gm} {h h' : Hp} {j : Nat} (h1 : h'.1 j = h.1 j) (h2 : h'.2.1 j = h.2.1 j) (h3 : h'.2.2.1 j = h.2.2.1 j) (ct : Nat × Nat) : mce g h' j ct = mce g h j ct := by
  simp only [mce, h1, h2, h3]
theorem mws_set {g : Gm} {h h' : Hp} {k : Nat} {ct : Nat × Nat} {e : va_E} (hT : h'.2.2.2.1 = h.2.2.2.1) (hk : h.2.2.2.1[k]? = some ct) (he : mce g h' k ct = e) (ho : ∀ (j : Nat) (ct' : Nat × Nat), j ≠ k → mce g h' j ct' = mce g h j ct') : (mws g h).set k (g_o g + k, e) = mws g h' := by
  apply List.ext_getElem?
  intro i
  by_cases hik : i = k
  · subst hik
    rw [List.getElem?_set_self (by rw [mws_len]; exact (List.getElem?_eq_some_iff.mp hk).1), mws_at (h := h') (by rw [hT]; exact hk), he]
  · rw [List.getElem?_set_ne (fun e => hik e.symm)]
    cases hc : h.2.2.2.1[i]? with
    | none =>
      rw [List.getElem?_eq_none (by rw [mws_len]; simpa using hc), List.getElem?_eq_none (by rw [mws_len, hT]; simpa using hc)]
    | some ct' => rw [mws_at hc, mws_at (h := h') (by rw [hT]; exact hc), ho i ct' hik]
def up2 {α : Type} (S : Nat → Nat → α) (k i : Nat) (v : α) : Nat → Nat → α := fun a b => if a = k ∧ b = i then v else S a b
theorem up2_row {α : Type} (S : Nat → Nat → α) (k i : Nat) (v : α) : up2 S k i v k = fun b => if b = i then v else S k b := by
  funext b
  simp [up2]
theorem up2_ne {α : Type} (S : Nat → Nat → α) (k i : Nat) (v : α) (j : Nat) (h : j ≠ k) : up2 S k i v j = S j := by
  funext b
  simp [up2, h]
def cpy2 (S : Mem) (c0 c1 sp dp n : Nat) : Mem := fun a b => if a = c1 then va_cpy (S c0) (S c1) sp dp n b else S a b
theorem cpy2_row (S : Mem) (c0 c1 sp dp n : Nat) : cpy2 S c0 c1 sp dp n c1 = va_cpy (S c0) (S c1) sp dp n := by
  funext b
  simp [cpy2]
theorem cpy2_ne (S : Mem) (c0 c1 sp dp n : Nat) (j : Nat) (h : j ≠ c1) : cpy2 S c0 c1 sp dp n j = S j := by
  funext b
  simp [cpy2, h]
theorem mfs_at (o : Nat) (S : Nat → Int32) (P : Nat → Option Nat) : ∀ (L : List Bool) (i0 i : Nat) (b : Bool), L[i]? = some b → (mfs o S P i0 L)[i]? = some (match b with
  | false => .int (S (i0 + i))
  | true => va_rf ((P (i0 + i)).map (o + ·)))
  | [], _, _, _, h => by simp at h
  | a :: t, i0, 0, b, h => by
    have hb : a = b := by simpa using h
    subst hb
    cases a <;> rfl
  | a :: t, i0, i + 1, b, h => by
    have h1 : t[i]? = some b := by simpa using h
    have h2 := mfs_at o S P t (i0 + 1) i b h1
    rw [show i0 + 1 + i = i0 + (i + 1) by omega] at h2
    cases a <;> exact h2
theorem mfs_len (o : Nat) (S : Nat → Int32) (P : Nat → Option Nat) : ∀ (L : List Bool) (i0 : Nat), (mfs o S P i0 L).length = L.length
  | [], _ => rfl
  | a :: t, i0 => by cases a <;> simp [mfs, mfs_len o S P t (i0 + 1)]
theorem mfs_cg (o : Nat) {S S' : Nat → Int32} {P P' : Nat → Option Nat} : ∀ (L : List Bool) (i0 : Nat), (∀ i, i0 ≤ i → S' i = S i ∧ P' i = P i) → mfs o S' P' i0 L = mfs o S P i0 L
  | [], _, _ => rfl
  | a :: t, i0, h => by
    have h1 := mfs_cg o t (i0 + 1) (fun i hi => h i (by omega))
    have h2 := h i0 (Nat.le_refl _)
    cases a <;> simp only [mfs, h1, h2.1, h2.2]
theorem mfs_set (o : Nat) {S S' : Nat → Int32} {P P' : Nat → Option Nat} {v : Value} : ∀ (L : List Bool) (i0 i : Nat) (b : Bool), L[i]? = some b → (∀ j, j ≠ i0 + i → S' j = S j ∧ P' j = P j) → (v = match b with
  | false => .int (S' (i0 + i))
  | true => va_rf ((P' (i0 + i)).map (o + ·))) → (mfs o S P i0 L).set i v = mfs o S' P' i0 L
  | [], _, _, _, h, _, _ => by simp at h
  | a :: t, i0, 0, b, h, hj, hv => by
    have hb : a = b := by simpa using h
    subst hb
    have h1 := mfs_cg o (S := S) (S' := S') (P := P) (P' := P') t (i0 + 1) (fun i hi => hj i (by omega))
    cases a <;> (simp only [Nat.add_zero] at hv; simp only [mfs, List.set_cons_zero, h1, hv])
  | a :: t, i0, i + 1, b, h, hj, hv => by
    have h1 : t[i]? = some b := by simpa using h
    have e1 : i0 + 1 + i = i0 + (i + 1) := by omega
    have h2 := mfs_set o (S := S) (S' := S') (P := P) (P' := P') (v := v) t (i0 + 1) i b h1 (by rw [e1]; exact hj) (by rw [e1]; exact hv)
    have h3 := hj i0 (by omega)
    cases a <;> simp only [mfs, List.set_cons_succ, h2, h3.1, h3.2]
/-- locals: what is known of them -/
def LR (g : Gm) (n : Nat) (L : List (Option Value)) (ls : Array Slot) : Prop := ls.size = n ∧ L.length = n ∧ lv_wf ls ∧ ∀ (i : Nat) (v : Value), L[i]? = some (some v) → ls[i]? = some (.val (tr g v))
def lvs (g : Gm) : Nat → List (Option Value) → List (Nat × Value)
  | _, [] => []
  | i, none :: t => lvs g (i + 1) t
  | i, some v :: t => (i, tr g v) :: lvs g (i + 1) t
theorem lvs_mem (g : Gm) : ∀ (L : List (Option Value)) (i0 : Nat) (q : Nat × Value), q ∈ lvs g i0 L ↔ ∃ (j : Nat) (v : Value), L[j]? = some (some v) ∧ q = (i0 + j, tr g v)
  | [], i0, q => by simp [lvs]
  | none :: t, i0, q => by
    rw [lvs, lvs_mem g t (i0 + 1) q]
    constructor
    · rintro ⟨j, v, h1, h2⟩
      exact ⟨j + 1, v, by simpa using h1, by rw [h2]; congr 1; omega⟩
    · rintro ⟨j, v, h1, h2⟩
      cases j with
      | zero => simp at h1
      | succ j => exact ⟨j, v, by simpa using h1, by rw [h2]; congr 1; omega⟩
  | some w :: t, i0, q => by
    rw [lvs, List.mem_cons, lvs_mem g t (i0 + 1) q]
    constructor
    · rintro (h | ⟨j, v, h1, h2⟩)
      · exact ⟨0, w, rfl, h⟩
      · exact ⟨j + 1, v, by simpa using h1, by rw [h2]; congr 1; omega⟩
    · rintro ⟨j, v, h1, h2⟩
      cases j with
      | zero =>
        have hw : w = v := by simpa using h1
        subst hw
        exact Or.inl h2
      | succ j => exact Or.inr ⟨j, v, by simpa using h1, by rw [h2]; congr 1; omega⟩
theorem LR.has {g : Gm} {n : Nat} {L : List (Option Value)} {ls : Array Slot} (h : LR g n L ls) : lv_has ls n (lvs g 0 L) := by
  refine ⟨h.1, h.2.2.1, fun q hq => ?_⟩
  obtain ⟨j, v, h1, rfl⟩ := (lvs_mem g L 0 q).mp hq
  rw [Nat.zero_add]
  exact h.2.2.2 j v h1
/-- a store: what lay over the place is no longer known -/
def clr (L : List (Option Value)) : Nat → List (Option Value)
  | 0 => L
  | j + 1 => match L[j]? with
    | some (some (.long _)) => L.set j none
    | some (some (.double _)) => L.set j none
    | _ => L
def stl (L : List (Option Value)) (i : Nat) (v : Value) : List (Option Value) := (clr L i).set i (some v)
def stl2 (L : List (Option Value)) (i : Nat) (v : Value) : List (Option Value) := ((clr L i).set i (some v)).set (i + 1) none
theorem clr_len (L : List (Option Value)) (i : Nat) : (clr L i).length = L.length := by
  cases i with
  | zero => rfl
  | succ j => simp only [clr]; split <;> simp
theorem clr_at {L : List (Option Value)} {i j : Nat} {v : Value} (h : (clr L i)[j]? = some (some v)) : L[j]? = some (some v) ∧ ¬ (j + 1 = i ∧ v.category = 2) := by
  cases i with
  | zero => exact ⟨h, fun q => by omega⟩
  | succ i =>
    simp only [clr] at h
    split at h
    · rename_i x hx
      by_cases hj : j = i
      · subst hj
        have hlt := (List.getElem?_eq_some_iff.mp hx).1
        rw [List.getElem?_set_self hlt] at h
        cases h
      · rw [List.getElem?_set_ne (fun q => hj q.symm)] at h
        exact ⟨h, fun q => hj (by omega)⟩
    · rename_i x hx
      by_cases hj : j = i
      · subst hj
        have hlt := (List.getElem?_eq_some_iff.mp hx).1
        rw [List.getElem?_set_self hlt] at h
        cases h
      · rw [List.getElem?_set_ne (fun q => hj q.symm)] at h
        exact ⟨h, fun q => hj (by omega)⟩
    · rename_i h1 h2
      refine ⟨h, fun q => ?_⟩
      have hj : j = i := by omega
      subst hj
      cases v with
      | long x => exact h1 x h
      | double x => exact h2 x h
      | _ => cases q.2
theorem LR.store {g : Gm} {n i : Nat} {L : List (Option Value)} {ls' : Array Slot} {v : Value} (hL : L.length = n) (h : lv_has ls' n ((i, tr g v) :: (lvs g 0 L).filter (fun q => !(q.1 == i) && !(q.1 + 1 == i && q.2.category == 2)))) : LR g n (stl L i v) ls' := by
  refine ⟨h.1, by rw [stl, List.length_set, clr_len, hL], h.2.1, fun j w hj => ?_⟩
  by_cases hij : j = i
  · subst hij
    rw [stl] at hj
    have hlt : j < (clr L j).length := by
      have h1 := (List.getElem?_eq_some_iff.mp hj).1
      simpa using h1
    rw [List.getElem?_set_self hlt] at hj
    cases hj
    exact h.2.2 (j, tr g v) List.mem_cons_self
  · rw [stl, List.getElem?_set_ne (fun q => hij q.symm)] at hj
    obtain ⟨h1, h2⟩ := clr_at hj
    refine h.2.2 (j, tr g w) (List.mem_cons_of_mem _ (List.mem_filter.mpr ⟨(lvs_mem g L 0 _).mpr ⟨j, w, h1, by rw [Nat.zero_add]⟩, ?_⟩))
    simp only [Bool.and_eq_true, Bool.not_eq_true', beq_eq_false_iff_ne, Bool.and_eq_false_iff, tr_cat]
    exact ⟨hij, by
      by_cases h3 : j + 1 = i
      · exact Or.inr fun q => h2 ⟨h3, q⟩
      · exact Or.inl h3⟩
theorem LR.store2 {g : Gm} {n i : Nat} {L : List (Option Value)} {ls' : Array Slot} {v : Value} (hL : L.length = n) (h : lv_has ls' n ((i, tr g v) :: (lvs g 0 L).filter (fun q => !(q.1 == i) && (!(q.1 == i + 1) && !(q.1 + 1 == i && q.2.category == 2))))) : LR g n (stl2 L i v) ls' := by
  refine ⟨h.1, by rw [stl2, List.length_set, List.length_set, clr_len, hL], h.2.1, fun j w hj => ?_⟩
  have hj1 : j ≠ i + 1 := by
    intro q
    subst q
    have h1 := (List.getElem?_eq_some_iff.mp hj).1
    rw [stl2, List.getElem?_set_self (by simpa [stl2] using h1)] at hj
    cases hj
  rw [stl2, List.getElem?_set_ne (fun q => hj1 q.symm)] at hj
  by_cases hij : j = i
  · subst hij
    have hlt : j < (clr L j).length := by
      have h1 := (List.getElem?_eq_some_iff.mp hj).1
      simpa using h1
    rw [List.getElem?_set_self hlt] at hj
    cases hj
    exact h.2.2 (j, tr g v) List.mem_cons_self
  · rw [List.getElem?_set_ne (fun q => hij q.symm)] at hj
    obtain ⟨h1, h2⟩ := clr_at hj
    refine h.2.2 (j, tr g w) (List.mem_cons_of_mem _ (List.mem_filter.mpr ⟨(lvs_mem g L 0 _).mpr ⟨j, w, h1, by rw [Nat.zero_add]⟩, ?_⟩))
    simp only [Bool.and_eq_true, Bool.not_eq_true', beq_eq_false_iff_ne, Bool.and_eq_false_iff, tr_cat]
    exact ⟨hij, hj1, by
      by_cases h3 : j + 1 = i
      · exact Or.inr fun q => h2 ⟨h3, q⟩
      · exact Or.inl h3⟩
/-- what holds of an invocation -/
def Cx (g : Gm) (M : MI) (p : Program) (s : State) (m : MethodId) (args : Array Value) (meth : Method) (cd : Code) : Prop :=
  p.tables.exec = Jvm.exec ∧ cd.code = mB M ∧ cd.maxLocals = mL M ∧ meth.sig.returnType = mR M ∧ meth.locks = false ∧ meth.name = (mY M).name ∧ s.vm.findClass (mY M).cls = some m.cls ∧ (∀ w ∈ TT, w.before args s = true) ∧ zK g s ∧ zU g s s.heap ∧ okM M ∧ (mX M = [] → cd.exceptionTable.isEmpty = true)
/-- the picture -/
def Rl (g : Gm) (M : MI) (c : Nat) (h : Hp) (L : List (Option Value)) (s : State) (H : Heap) (locs : List Loc) (ls : Array Slot) : Prop :=
  va_P (g_D g) CL (mws g h) H ∧ va_S (zA g) s.heap H locs ∧ LR g (mL M) L ls ∧ (h.2.2.2.2 = true → s.heap.size + c = g_o g + h.2.2.2.1.length)
def xNm : Nat → String
  | 1 => "java/lang/IllegalArgumentException"
  | 2 => "java/lang/IllegalStateException"
  | 3 => "java/lang/IndexOutOfBoundsException"
  | _ => "java/util/NoSuchElementException"
def oK (g : Gm) (r : Rs) (o : Outcome) (t : State) : Prop := match r with
  | .inl v => o = .returned (v.map (tr g))
  | .inr n => ∃ (a : Addr) (cell : Cell), o = .threw a ∧ t.heap[a]? = some cell ∧ cell.vm.isStatics = false ∧ t.vm.findClass (xNm n) = some cell.cls
def QX (g : Gm) (Q : Rs → Hp → Prop) : Array Value → State → Outcome → State → Prop := fun _ st o t =>
  (∃ (r : Rs) (h : Hp), Q r h ∧ oK g r o t ∧ va_P (g_D g) CL (mws g h) t.heap) ∧ va_F (zA g) st t
def MX (below : List Frame) (Qc : Array Value → State → Outcome → State → Prop) (a : Array Value) (s : State) (mc ms : Nat) (free : Addr → Prop) : State → Prop := fun t =>
  ∃ o, t.status = .running ∧ Ended t below o ∧ Qc a s o t ∧ ∃ L, (s.WarmedH t.vm ∧ s.sameButNew ({ t with vm := s.vm } : State) L mc ms) ∧ ∀ q ∈ L, free q.base
theorem MQ.toX {below : List Frame} {Qc : Array Value → State → Outcome → State → Prop} {a : Array Value} {s : State} {mc ms : Nat} {free : Addr → Prop} {t : State} (h : MQ below Qc a s mc ms free t) : MX below Qc a s mc ms free t := by
  obtain ⟨o, h1, h2, h3, L, ⟨_, h4, h5⟩, h6⟩ := h
  exact ⟨o, h1, h2, h3, L, ⟨h4, h5⟩, h6⟩
theorem W.mono {p : Program} {l : Launch} {e : Env} {R : Room} {s : State} {m : MethodId} {args : Array Value} {below : List Frame} {meth : Method} {c : Code} {H : Heap} {locs : List Loc} {cells slots : Nat} {Q Q' : State → Prop} {f : JFrame} (hQ : ∀ t, Q t → Q' t) (k : W p l e R s m args below meth c H locs cells slots Q f) : W p l e R s m args below meth c H locs cells slots Q' f := by
  intro T hT X
  obtain ⟨t, h1, h2⟩ := k T hT X
  exact ⟨t, h1, hQ t h2⟩
def Z (g : Gm) (M : MI) (c sl pc : Nat) (L : List (Option Value)) (st : List Value) (h : Hp) (Q : Rs → Hp → Prop) : Prop :=
  ∀ (p : Program) (e : Env) (s : State) (m : MethodId) (args : Array Value) (below : List Frame) (meth : Method) (cd : Code), Cx g M p s m args meth cd → ∀ (H : Heap) (locs : List Loc) (ls : Array Slot), Rl g M c h L s H locs ls →
    W p (g_l g) e (mM M) s m args below meth cd H locs c sl (MX below (QX g Q) args s (mM M).cells (mM M).slots (zA g)) (F0 m pc ls (st.map (tr g)))
section ZR
variable {g : Gm} {M : MI} {c sl pc nx tg : Nat} {L : List (Option Value)} {st : List Value} {h : Hp} {Q : Rs → Hp → Prop}
theorem Z.mono {Q' : Rs → Hp → Prop} (hQ : ∀ r h, Q r h → Q' r h) (k : Z g M c sl pc L st h Q) : Z g M c sl pc L st h Q' := by
  intro p e s m args below meth cd hC H locs ls hR
  refine W.mono ?_ (k p e s m args below meth cd hC H locs ls hR)
  rintro t ⟨o, h1, h2, ⟨⟨r, h', h3, h4⟩, h5⟩, h6⟩
  exact ⟨o, h1, h2, ⟨⟨r, h', hQ _ _ h3, h4⟩, h5⟩, h6⟩
/-- fewer locals known -/
theorem Z.forget (L' : List (Option Value)) (hl : L'.length = L.length) (hs : ∀ (i : Nat) (v : Value), L'[i]? = some (some v) → L[i]? = some (some v)) (k : Z g M c sl pc L' st h Q) : Z g M c sl pc L st h Q := by
  intro p e s m args below meth cd hC H locs ls hR
  obtain ⟨hP, hS, ⟨l1, l2, l3, l4⟩, hx⟩ := hR
  exact k p e s m args below meth cd hC H locs ls ⟨hP, hS, ⟨l1, hl.trans l2, l3, fun i v hi => l4 i v (hs i v hi)⟩, hx⟩
theorem z_iadd {x y : Int32} (hi : fI M pc = some (.iadd, 1, nx, tg)) (k : Z g M c sl nx L (.int (x + y) :: st) h Q) : Z g M c sl pc L (.int y :: .int x :: st) h Q := by
  intro p e s m args below meth cd hC H locs ls hR
  obtain ⟨hd, hn, ht⟩ := fI_ok hC.2.2.2.2.2.2.2.2.2.2.1 hi
  subst hn
  exact lv_iadd hC.1 hC.2.1 hd (k p e s m args below meth cd hC H locs ls hR)
theorem z_isub {x y : Int32} (hi : fI M pc = some (.isub, 1, nx, tg)) (k : Z g M c sl nx L (.int (x - y) :: st) h Q) : Z g M c sl pc L (.int y :: .int x :: st) h Q := by
  intro p e s m args below meth cd hC H locs ls hR
  obtain ⟨hd, hn, ht⟩ := fI_ok hC.2.2.2.2.2.2.2.2.2.2.1 hi
  subst hn
  exact lv_isub hC.1 hC.2.1 hd (k p e s m args below meth cd hC H locs ls hR)
theorem z_imul {x y : Int32} (hi : fI M pc = some (.imul, 1, nx, tg)) (k : Z g M c sl nx L (.int (x * y) :: st) h Q) : Z g M c sl pc L (.int y :: .int x :: st) h Q := by
  intro p e s m args below meth cd hC H locs ls hR
  obtain ⟨hd, hn, ht⟩ := fI_ok hC.2.2.2.2.2.2.2.2.2.2.1 hi
  subst hn
  exact lv_imul hC.1 hC.2.1 hd (k p e s m args below meth cd hC H locs ls hR)
theorem z_iand {x y : Int32} (hi : fI M pc = some (.iand, 1, nx, tg)) (k : Z g M c sl nx L (.int (x &&& y) :: st) h Q) : Z g M c sl pc L (.int y :: .int x :: st) h Q := by
  intro p e s m args below meth cd hC H locs ls hR
  obtain ⟨hd, hn, ht⟩ := fI_ok hC.2.2.2.2.2.2.2.2.2.2.1 hi
  subst hn
  exact lv_iand hC.1 hC.2.1 hd (k p e s m args below meth cd hC H locs ls hR)
theorem z_idiv {x y : Int32} (hi : fI M pc = some (.idiv, 1, nx, tg)) (hy : ¬ y = 0) (k : Z g M c sl nx L (.int (x / y) :: st) h Q) : Z g M c sl pc L (.int y :: .int x :: st) h Q := by
  intro p e s m args below meth cd hC H locs ls hR
  obtain ⟨hd, hn, ht⟩ := fI_ok hC.2.2.2.2.2.2.2.2.2.2.1 hi
  subst hn
  exact lv_idiv hC.1 hC.2.1 hd hy (k p e s m args below meth cd hC H locs ls hR)
theorem z_irem {x y : Int32} (hi : fI M pc = some (.irem, 1, nx, tg)) (hy : ¬ y = 0) (k : Z g M c sl nx L (.int (x - x / y * y) :: st) h Q) : Z g M c sl pc L (.int y :: .int x :: st) h Q := by
  intro p e s m args below meth cd hC H locs ls hR
  obtain ⟨hd, hn, ht⟩ := fI_ok hC.2.2.2.2.2.2.2.2.2.2.1 hi
  subst hn
  exact lv_irem hC.1 hC.2.1 hd hy (k p e s m args below meth cd hC H locs ls hR)
theorem z_ineg {x : Int32} (hi : fI M pc = some (.ineg, 1, nx, tg)) (k : Z g M c sl nx L (.int (-x) :: st) h Q) : Z g M c sl pc L (.int x :: st) h Q := by
  intro p e s m args below meth cd hC H locs ls hR
  obtain ⟨hd, hn, ht⟩ := fI_ok hC.2.2.2.2.2.2.2.2.2.2.1 hi
  subst hn
  exact lv_ineg hC.1 hC.2.1 hd (k p e s m args below meth cd hC H locs ls hR)
theorem z_ladd {x y : Int64} (hi : fI M pc = some (.ladd, 1, nx, tg)) (k : Z g M c sl nx L (.long (x + y) :: st) h Q) : Z g M c sl pc L (.long y :: .long x :: st) h Q := by
  intro p e s m args below meth cd hC H locs ls hR
  obtain ⟨hd, hn, ht⟩ := fI_ok hC.2.2.2.2.2.2.2.2.2.2.1 hi
  subst hn
  exact lv_ladd hC.1 hC.2.1 hd (k p e s m args below meth cd hC H locs ls hR)
theorem z_lsub {x y : Int64} (hi : fI M pc = some (.lsub, 1, nx, tg)) (k : Z g M c sl nx L (.long (x - y) :: st) h Q) : Z g M c sl pc L (.long y :: .long x :: st) h Q := by
  intro p e s m args below meth cd hC H locs ls hR
  obtain ⟨hd, hn, ht⟩ := fI_ok hC.2.2.2.2.2.2.2.2.2.2.1 hi
  subst hn
  exact lv_lsub hC.1 hC.2.1 hd (k p e s m args below meth cd hC H locs ls hR)
theorem z_lmul {x y : Int64} (hi : fI M pc = some (.lmul, 1, nx, tg)) (k : Z g M c sl nx L (.long (x * y) :: st) h Q) : Z g M c sl pc L (.long y :: .long x :: st) h Q := by
  intro p e s m args below meth cd hC H locs ls hR
  obtain ⟨hd, hn, ht⟩ := fI_ok hC.2.2.2.2.2.2.2.2.2.2.1 hi
  subst hn
  exact lv_lmul hC.1 hC.2.1 hd (k p e s m args below meth cd hC H locs ls hR)
theorem z_lneg {x : Int64} (hi : fI M pc = some (.lneg, 1, nx, tg)) (k : Z g M c sl nx L (.long (-x) :: st) h Q) : Z g M c sl pc L (.long x :: st) h Q := by
  intro p e s m args below meth cd hC H locs ls hR
  obtain ⟨hd, hn, ht⟩ := fI_ok hC.2.2.2.2.2.2.2.2.2.2.1 hi
  subst hn
  exact lv_lneg hC.1 hC.2.1 hd (k p e s m args below meth cd hC H locs ls hR)
theorem z_i2l {x : Int32} (hi : fI M pc = some (.i2l, 1, nx, tg)) (k : Z g M c sl nx L (.long x.toInt64 :: st) h Q) : Z g M c sl pc L (.int x :: st) h Q := by
  intro p e s m args below meth cd hC H locs ls hR
  obtain ⟨hd, hn, ht⟩ := fI_ok hC.2.2.2.2.2.2.2.2.2.2.1 hi
  subst hn
  exact lv_i2l hC.1 hC.2.1 hd rfl (k p e s m args below meth cd hC H locs ls hR)
theorem z_lcmp {x y : Int64} (hi : fI M pc = some (.lcmp, 1, nx, tg)) (k : Z g M c sl nx L (.int (lg_cmp x y) :: st) h Q) : Z g M c sl pc L (.long y :: .long x :: st) h Q := by
  intro p e s m args below meth cd hC H locs ls hR
  obtain ⟨hd, hn, ht⟩ := fI_ok hC.2.2.2.2.2.2.2.2.2.2.1 hi
  subst hn
  exact W.lcmp hC.1 hC.2.1 hd (k p e s m args below meth cd hC H locs ls hR)
theorem z_iconst {n : Int} (v : Int32) (hi : fI M pc = some (.iconst n, 1, nx, tg)) (hv : Int32.ofInt n = v) (k : Z g M c sl nx L (.int v :: st) h Q) : Z g M c sl pc L (st) h Q := by
  intro p e s m args below meth cd hC H locs ls hR
  obtain ⟨hd, hn, ht⟩ := fI_ok hC.2.2.2.2.2.2.2.2.2.2.1 hi
  subst hn
  exact lv_iconst hC.1 hC.2.1 hd hv (k p e s m args below meth cd hC H locs ls hR)
theorem z_bipush {n : Int} (v : Int32) (hi : fI M pc = some (.bipush n, 2, nx, tg)) (hv : (Int8.ofInt n).toInt32 = v) (k : Z g M c sl nx L (.int v :: st) h Q) : Z g M c sl pc L (st) h Q := by
  intro p e s m args below meth cd hC H locs ls hR
  obtain ⟨hd, hn, ht⟩ := fI_ok hC.2.2.2.2.2.2.2.2.2.2.1 hi
  subst hn
  exact lv_bipush hC.1 hC.2.1 hd hv (k p e s m args below meth cd hC H locs ls hR)
theorem z_sipush {n : Int} (v : Int32) (hi : fI M pc = some (.sipush n, 3, nx, tg)) (hv : (Int16.ofInt n).toInt32 = v) (k : Z g M c sl nx L (.int v :: st) h Q) : Z g M c sl pc L (st) h Q := by
  intro p e s m args below meth cd hC H locs ls hR
  obtain ⟨hd, hn, ht⟩ := fI_ok hC.2.2.2.2.2.2.2.2.2.2.1 hi
  subst hn
  exact lv_sipush hC.1 hC.2.1 hd hv (k p e s m args below meth cd hC H locs ls hR)
theorem z_lconst {n : Fin 2} (v : Int64) (hi : fI M pc = some (.lconst n, 1, nx, tg)) (hv : Int64.ofNat (n : Nat) = v) (k : Z g M c sl nx L (.long v :: st) h Q) : Z g M c sl pc L (st) h Q := by
  intro p e s m args below meth cd hC H locs ls hR
  obtain ⟨hd, hn, ht⟩ := fI_ok hC.2.2.2.2.2.2.2.2.2.2.1 hi
  subst hn
  exact lv_lconst hC.1 hC.2.1 hd hv (k p e s m args below meth cd hC H locs ls hR)
theorem z_ldc {n : Nat} {v : Int32} (hi : fI M pc = some (.ldc n, 2, nx, tg)) (hw : Cond.constant (mY M).cls n v ∈ TT) (k : Z g M c sl nx L (.int v :: st) h Q) : Z g M c sl pc L (st) h Q := by
  intro p e s m args below meth cd hC H locs ls hR
  obtain ⟨hd, hn, ht⟩ := fI_ok hC.2.2.2.2.2.2.2.2.2.2.1 hi
  subst hn
  exact lv_ldc hC.1 hC.2.1 hC.2.2.2.2.2.2.1 (hC.2.2.2.2.2.2.2.1 _ hw) hd (k p e s m args below meth cd hC H locs ls hR)
theorem z_ldc2 {n : Nat} {v : Int64} (hi : fI M pc = some (.ldc2_w n, 3, nx, tg)) (hw : Cond.constantLong (mY M).cls n v ∈ TT) (k : Z g M c sl nx L (.long v :: st) h Q) : Z g M c sl pc L (st) h Q := by
  intro p e s m args below meth cd hC H locs ls hR
  obtain ⟨hd, hn, ht⟩ := fI_ok hC.2.2.2.2.2.2.2.2.2.2.1 hi
  subst hn
  exact lv_ldc2 hC.1 hC.2.1 hC.2.2.2.2.2.2.1 (hC.2.2.2.2.2.2.2.1 _ hw) hd (k p e s m args below meth cd hC H locs ls hR)
theorem z_dup {v : Value} (hi : fI M pc = some (.dup, 1, nx, tg)) (hv : v.category = 1) (k : Z g M c sl nx L (v :: v :: st) h Q) : Z g M c sl pc L (v :: st) h Q := by
  intro p e s m args below meth cd hC H locs ls hR
  obtain ⟨hd, hn, ht⟩ := fI_ok hC.2.2.2.2.2.2.2.2.2.2.1 hi
  subst hn
  exact lv_dup hC.1 hC.2.1 hd ((tr_cat g v).trans hv) (k p e s m args below meth cd hC H locs ls hR)
theorem z_pop {v : Value} (hi : fI M pc = some (.pop, 1, nx, tg)) (hv : v.category = 1) (k : Z g M c sl nx L (st) h Q) : Z g M c sl pc L (v :: st) h Q := by
  intro p e s m args below meth cd hC H locs ls hR
  obtain ⟨hd, hn, ht⟩ := fI_ok hC.2.2.2.2.2.2.2.2.2.2.1 hi
  subst hn
  exact lv_pop hC.1 hC.2.1 hd ((tr_cat g v).trans hv) (k p e s m args below meth cd hC H locs ls hR)
theorem z_dup_x1 {v w : Value} (hi : fI M pc = some (.dup_x1, 1, nx, tg)) (hv : v.category = 1) (hw : w.category = 1) (k : Z g M c sl nx L (v :: w :: v :: st) h Q) : Z g M c sl pc L (v :: w :: st) h Q := by
  intro p e s m args below meth cd hC H locs ls hR
  obtain ⟨hd, hn, ht⟩ := fI_ok hC.2.2.2.2.2.2.2.2.2.2.1 hi
  subst hn
  exact lv_dup_x1 hC.1 hC.2.1 hd ((tr_cat g v).trans hv) ((tr_cat g w).trans hw) (k p e s m args below meth cd hC H locs ls hR)
theorem z_iload_n {n : Fin 4} {x : Int32} (hi : fI M pc = some (.iload_n n, 1, nx, tg)) (hl : L[(n : Nat)]? = some (some (.int x))) (k : Z g M c sl nx L (.int x :: st) h Q) : Z g M c sl pc L (st) h Q := by
  intro p e s m args below meth cd hC H locs ls hR
  obtain ⟨hd, hn, ht⟩ := fI_ok hC.2.2.2.2.2.2.2.2.2.2.1 hi
  subst hn
  exact lv_iload_n hC.1 hC.2.1 hd rfl (hR.2.2.1.2.2.2 _ _ hl) (k p e s m args below meth cd hC H locs ls hR)
theorem z_iload {n : Nat} {x : Int32} (hi : fI M pc = some (.iload n, 2, nx, tg)) (hl : L[n]? = some (some (.int x))) (k : Z g M c sl nx L (.int x :: st) h Q) : Z g M c sl pc L (st) h Q := by
  intro p e s m args below meth cd hC H locs ls hR
  obtain ⟨hd, hn, ht⟩ := fI_ok hC.2.2.2.2.2.2.2.2.2.2.1 hi
  subst hn
  exact lv_iload hC.1 hC.2.1 hd (hR.2.2.1.2.2.2 _ _ hl) (k p e s m args below meth cd hC H locs ls hR)
theorem z_lload_n {n : Fin 4} {x : Int64} (hi : fI M pc = some (.lload_n n, 1, nx, tg)) (hl : L[(n : Nat)]? = some (some (.long x))) (k : Z g M c sl nx L (.long x :: st) h Q) : Z g M c sl pc L (st) h Q := by
  intro p e s m args below meth cd hC H locs ls hR
  obtain ⟨hd, hn, ht⟩ := fI_ok hC.2.2.2.2.2.2.2.2.2.2.1 hi
  subst hn
  exact lv_lload_n hC.1 hC.2.1 hd rfl (hR.2.2.1.2.2.2 _ _ hl) (k p e s m args below meth cd hC H locs ls hR)
theorem z_lload {n : Nat} {x : Int64} (hi : fI M pc = some (.lload n, 2, nx, tg)) (hl : L[n]? = some (some (.long x))) (k : Z g M c sl nx L (.long x :: st) h Q) : Z g M c sl pc L (st) h Q := by
  intro p e s m args below meth cd hC H locs ls hR
  obtain ⟨hd, hn, ht⟩ := fI_ok hC.2.2.2.2.2.2.2.2.2.2.1 hi
  subst hn
  exact lv_lload hC.1 hC.2.1 hd (hR.2.2.1.2.2.2 _ _ hl) (k p e s m args below meth cd hC H locs ls hR)
theorem z_aload_n {n : Fin 4} {x : Nat} (hi : fI M pc = some (.aload_n n, 1, nx, tg)) (hl : L[(n : Nat)]? = some (some (.ref x))) (k : Z g M c sl nx L (.ref x :: st) h Q) : Z g M c sl pc L (st) h Q := by
  intro p e s m args below meth cd hC H locs ls hR
  obtain ⟨hd, hn, ht⟩ := fI_ok hC.2.2.2.2.2.2.2.2.2.2.1 hi
  subst hn
  exact lv_aload_n hC.1 hC.2.1 hd rfl (hR.2.2.1.2.2.2 _ _ hl) (k p e s m args below meth cd hC H locs ls hR)
theorem z_aload {n : Nat} {x : Nat} (hi : fI M pc = some (.aload n, 2, nx, tg)) (hl : L[n]? = some (some (.ref x))) (k : Z g M c sl nx L (.ref x :: st) h Q) : Z g M c sl pc L (st) h Q := by
  intro p e s m args below meth cd hC H locs ls hR
  obtain ⟨hd, hn, ht⟩ := fI_ok hC.2.2.2.2.2.2.2.2.2.2.1 hi
  subst hn
  exact lv_aload hC.1 hC.2.1 hd (hR.2.2.1.2.2.2 _ _ hl) (k p e s m args below meth cd hC H locs ls hR)
theorem z_aload_nt {n : Fin 4} (hi : fI M pc = some (.aload_n n, 1, nx, tg)) (hl : L[(n : Nat)]? = some (some (.retAddr 0))) (k : Z g M c sl nx L (.retAddr 0 :: st) h Q) : Z g M c sl pc L (st) h Q := by
  intro p e s m args below meth cd hC H locs ls hR
  obtain ⟨hd, hn, ht⟩ := fI_ok hC.2.2.2.2.2.2.2.2.2.2.1 hi
  subst hn
  exact lv_aload_n hC.1 hC.2.1 hd rfl (hR.2.2.1.2.2.2 _ _ hl) (k p e s m args below meth cd hC H locs ls hR)
theorem z_aload_ns {n : Fin 4} {j : Nat} (hi : fI M pc = some (.aload_n n, 1, nx, tg)) (hl : L[(n : Nat)]? = some (some (.retAddr (j + 1)))) (k : Z g M c sl nx L (.retAddr (j + 1) :: st) h Q) : Z g M c sl pc L (st) h Q := by
  intro p e s m args below meth cd hC H locs ls hR
  obtain ⟨hd, hn, ht⟩ := fI_ok hC.2.2.2.2.2.2.2.2.2.2.1 hi
  subst hn
  exact lv_aload_n hC.1 hC.2.1 hd rfl (hR.2.2.1.2.2.2 _ _ hl) (k p e s m args below meth cd hC H locs ls hR)
theorem z_istore_n {n : Fin 4} {x : Int32} (hi : fI M pc = some (.istore_n n, 1, nx, tg)) (hn : Nat.ble ((n : Nat) + 1) L.length = true) (k : Z g M c sl nx (stl L (n : Nat) (.int x)) st h Q) : Z g M c sl pc L (.int x :: st) h Q := by
  intro p e s m args below meth cd hC H locs ls hR
  obtain ⟨hd, hn, ht⟩ := fI_ok hC.2.2.2.2.2.2.2.2.2.2.1 hi
  subst hn
  obtain ⟨hP, hS, hL, hx⟩ := hR
  have hlt := Nat.le_of_ble_eq_true hn
  rw [hL.2.1] at hlt
  exact lv_istore_n hC.1 hC.2.1 hd rfl hL.has hlt rfl fun ls' hl' => k p e s m args below meth cd hC H locs ls' ⟨hP, hS, LR.store hL.2.1 hl', hx⟩
theorem z_istore {n : Nat} {x : Int32} (hi : fI M pc = some (.istore n, 2, nx, tg)) (hn : Nat.ble (n + 1) L.length = true) (k : Z g M c sl nx (stl L n (.int x)) st h Q) : Z g M c sl pc L (.int x :: st) h Q := by
  intro p e s m args below meth cd hC H locs ls hR
  obtain ⟨hd, hn, ht⟩ := fI_ok hC.2.2.2.2.2.2.2.2.2.2.1 hi
  subst hn
  obtain ⟨hP, hS, hL, hx⟩ := hR
  have hlt := Nat.le_of_ble_eq_true hn
  rw [hL.2.1] at hlt
  exact lv_istore hC.1 hC.2.1 hd hL.has hlt rfl fun ls' hl' => k p e s m args below meth cd hC H locs ls' ⟨hP, hS, LR.store hL.2.1 hl', hx⟩
theorem z_lstore_n {n : Fin 4} {x : Int64} (hi : fI M pc = some (.lstore_n n, 1, nx, tg)) (hn : Nat.ble ((n : Nat) + 2) L.length = true) (k : Z g M c sl nx (stl2 L (n : Nat) (.long x)) st h Q) : Z g M c sl pc L (.long x :: st) h Q := by
  intro p e s m args below meth cd hC H locs ls hR
  obtain ⟨hd, hn, ht⟩ := fI_ok hC.2.2.2.2.2.2.2.2.2.2.1 hi
  subst hn
  obtain ⟨hP, hS, hL, hx⟩ := hR
  have hlt := Nat.le_of_ble_eq_true hn
  rw [hL.2.1] at hlt
  exact lv_lstore_n hC.1 hC.2.1 hd rfl hL.has hlt rfl fun ls' hl' => k p e s m args below meth cd hC H locs ls' ⟨hP, hS, LR.store2 hL.2.1 hl', hx⟩
theorem z_lstore {n : Nat} {x : Int64} (hi : fI M pc = some (.lstore n, 2, nx, tg)) (hn : Nat.ble (n + 2) L.length = true) (k : Z g M c sl nx (stl2 L n (.long x)) st h Q) : Z g M c sl pc L (.long x :: st) h Q := by
  intro p e s m args below meth cd hC H locs ls hR
  obtain ⟨hd, hn, ht⟩ := fI_ok hC.2.2.2.2.2.2.2.2.2.2.1 hi
  subst hn
  obtain ⟨hP, hS, hL, hx⟩ := hR
  have hlt := Nat.le_of_ble_eq_true hn
  rw [hL.2.1] at hlt
  exact lv_lstore hC.1 hC.2.1 hd hL.has hlt rfl fun ls' hl' => k p e s m args below meth cd hC H locs ls' ⟨hP, hS, LR.store2 hL.2.1 hl', hx⟩
theorem z_astore_n {n : Fin 4} {x : Nat} (hi : fI M pc = some (.astore_n n, 1, nx, tg)) (hn : Nat.ble ((n : Nat) + 1) L.length = true) (k : Z g M c sl nx (stl L (n : Nat) (.ref x)) st h Q) : Z g M c sl pc L (.ref x :: st) h Q := by
  intro p e s m args below meth cd hC H locs ls hR
  obtain ⟨hd, hn, ht⟩ := fI_ok hC.2.2.2.2.2.2.2.2.2.2.1 hi
  subst hn
  obtain ⟨hP, hS, hL, hx⟩ := hR
  have hlt := Nat.le_of_ble_eq_true hn
  rw [hL.2.1] at hlt
  exact lv_astore_n hC.1 hC.2.1 hd rfl hL.has hlt rfl fun ls' hl' => k p e s m args below meth cd hC H locs ls' ⟨hP, hS, LR.store hL.2.1 hl', hx⟩
theorem z_astore {n : Nat} {x : Nat} (hi : fI M pc = some (.astore n, 2, nx, tg)) (hn : Nat.ble (n + 1) L.length = true) (k : Z g M c sl nx (stl L n (.ref x)) st h Q) : Z g M c sl pc L (.ref x :: st) h Q := by
  intro p e s m args below meth cd hC H locs ls hR
  obtain ⟨hd, hn, ht⟩ := fI_ok hC.2.2.2.2.2.2.2.2.2.2.1 hi
  subst hn
  obtain ⟨hP, hS, hL, hx⟩ := hR
  have hlt := Nat.le_of_ble_eq_true hn
  rw [hL.2.1] at hlt
  exact lv_astore hC.1 hC.2.1 hd hL.has hlt rfl fun ls' hl' => k p e s m args below meth cd hC H locs ls' ⟨hP, hS, LR.store hL.2.1 hl', hx⟩
theorem z_iinc {n : Nat} {d : Int} {x : Int32} (v : Int32) (hi : fI M pc = some (.iinc n d, 3, nx, tg)) (hl : L[n]? = some (some (.int x))) (hv : Int32.ofInt d = v) (k : Z g M c sl nx (stl L n (.int (x + v))) st h Q) : Z g M c sl pc L st h Q := by
  intro p e s m args below meth cd hC H locs ls hR
  obtain ⟨hd, hn, ht⟩ := fI_ok hC.2.2.2.2.2.2.2.2.2.2.1 hi
  subst hn
  obtain ⟨hP, hS, hL, hx⟩ := hR
  subst hv
  have hlt := (List.getElem?_eq_some_iff.mp hl).1
  rw [hL.2.1] at hlt
  obtain ⟨kk, hkk⟩ := List.mem_iff_getElem?.mp ((lvs_mem g L 0 (n, .int x)).mpr ⟨n, .int x, hl, by rw [Nat.zero_add]; rfl⟩)
  exact lv_iinc hC.1 hC.2.1 hd hL.has hkk rfl hlt rfl fun ls' hl' => k p e s m args below meth cd hC H locs ls' ⟨hP, hS, LR.store (v := .int (x + Int32.ofInt d)) hL.2.1 hl', hx⟩
theorem z_icmp_eq {x y : Int32} {o : Int} (hi : fI M pc = some (.if_icmp .eq o, 3, nx, tg)) (kt : x = y → Z g M c sl tg L st h Q) (kf : ¬ x = y → Z g M c sl nx L st h Q) : Z g M c sl pc L (.int y :: .int x :: st) h Q := by
  intro p e s m args below meth cd hC H locs ls hR
  obtain ⟨hd, hn, ht⟩ := fI_ok hC.2.2.2.2.2.2.2.2.2.2.1 hi
  subst hn
  exact lv_icmp_eq hC.1 hC.2.1 hd (ht o rfl) (fun q => kt q p e s m args below meth cd hC H locs ls hR) (fun q => kf q p e s m args below meth cd hC H locs ls hR)
theorem z_if_eq {x : Int32} {o : Int} (hi : fI M pc = some (.ifCond .eq o, 3, nx, tg)) (kt : x = 0 → Z g M c sl tg L st h Q) (kf : ¬ x = 0 → Z g M c sl nx L st h Q) : Z g M c sl pc L (.int x :: st) h Q := by
  intro p e s m args below meth cd hC H locs ls hR
  obtain ⟨hd, hn, ht⟩ := fI_ok hC.2.2.2.2.2.2.2.2.2.2.1 hi
  subst hn
  exact lv_if_eq hC.1 hC.2.1 hd (ht o rfl) (fun q => kt q p e s m args below meth cd hC H locs ls hR) (fun q => kf q p e s m args below meth cd hC H locs ls hR)
theorem z_icmp_ne {x y : Int32} {o : Int} (hi : fI M pc = some (.if_icmp .ne o, 3, nx, tg)) (kt : ¬ x = y → Z g M c sl tg L st h Q) (kf : x = y → Z g M c sl nx L st h Q) : Z g M c sl pc L (.int y :: .int x :: st) h Q := by
  intro p e s m args below meth cd hC H locs ls hR
  obtain ⟨hd, hn, ht⟩ := fI_ok hC.2.2.2.2.2.2.2.2.2.2.1 hi
  subst hn
  exact lv_icmp_ne hC.1 hC.2.1 hd (ht o rfl) (fun q => kt q p e s m args below meth cd hC H locs ls hR) (fun q => kf q p e s m args below meth cd hC H locs ls hR)
theorem z_if_ne {x : Int32} {o : Int} (hi : fI M pc = some (.ifCond .ne o, 3, nx, tg)) (kt : ¬ x = 0 → Z g M c sl tg L st h Q) (kf : x = 0 → Z g M c sl nx L st h Q) : Z g M c sl pc L (.int x :: st) h Q := by
  intro p e s m args below meth cd hC H locs ls hR
  obtain ⟨hd, hn, ht⟩ := fI_ok hC.2.2.2.2.2.2.2.2.2.2.1 hi
  subst hn
  exact lv_if_ne hC.1 hC.2.1 hd (ht o rfl) (fun q => kt q p e s m args below meth cd hC H locs ls hR) (fun q => kf q p e s m args below meth cd hC H locs ls hR)
theorem z_icmp_lt {x y : Int32} {o : Int} (hi : fI M pc = some (.if_icmp .lt o, 3, nx, tg)) (kt : x < y → Z g M c sl tg L st h Q) (kf : ¬ x < y → Z g M c sl nx L st h Q) : Z g M c sl pc L (.int y :: .int x :: st) h Q := by
  intro p e s m args below meth cd hC H locs ls hR
  obtain ⟨hd, hn, ht⟩ := fI_ok hC.2.2.2.2.2.2.2.2.2.2.1 hi
  subst hn
  exact lv_icmp_lt hC.1 hC.2.1 hd (ht o rfl) (fun q => kt q p e s m args below meth cd hC H locs ls hR) (fun q => kf q p e s m args below meth cd hC H locs ls hR)
theorem z_if_lt {x : Int32} {o : Int} (hi : fI M pc = some (.ifCond .lt o, 3, nx, tg)) (kt : x < 0 → Z g M c sl tg L st h Q) (kf : ¬ x < 0 → Z g M c sl nx L st h Q) : Z g M c sl pc L (.int x :: st) h Q := by
  intro p e s m args below meth cd hC H locs ls hR
  obtain ⟨hd, hn, ht⟩ := fI_ok hC.2.2.2.2.2.2.2.2.2.2.1 hi
  subst hn
  exact lv_if_lt hC.1 hC.2.1 hd (ht o rfl) (fun q => kt q p e s m args below meth cd hC H locs ls hR) (fun q => kf q p e s m args below meth cd hC H locs ls hR)
theorem z_icmp_ge {x y : Int32} {o : Int} (hi : fI M pc = some (.if_icmp .ge o, 3, nx, tg)) (kt : y ≤ x → Z g M c sl tg L st h Q) (kf : ¬ y ≤ x → Z g M c sl nx L st h Q) : Z g M c sl pc L (.int y :: .int x :: st) h Q := by
  intro p e s m args below meth cd hC H locs ls hR
  obtain ⟨hd, hn, ht⟩ := fI_ok hC.2.2.2.2.2.2.2.2.2.2.1 hi
  subst hn
  exact lv_icmp_ge hC.1 hC.2.1 hd (ht o rfl) (fun q => kt q p e s m args below meth cd hC H locs ls hR) (fun q => kf q p e s m args below meth cd hC H locs ls hR)
theorem z_if_ge {x : Int32} {o : Int} (hi : fI M pc = some (.ifCond .ge o, 3, nx, tg)) (kt : 0 ≤ x → Z g M c sl tg L st h Q) (kf : ¬ 0 ≤ x → Z g M c sl nx L st h Q) : Z g M c sl pc L (.int x :: st) h Q := by
  intro p e s m args below meth cd hC H locs ls hR
  obtain ⟨hd, hn, ht⟩ := fI_ok hC.2.2.2.2.2.2.2.2.2.2.1 hi
  subst hn
  exact lv_if_ge hC.1 hC.2.1 hd (ht o rfl) (fun q => kt q p e s m args below meth cd hC H locs ls hR) (fun q => kf q p e s m args below meth cd hC H locs ls hR)
theorem z_icmp_gt {x y : Int32} {o : Int} (hi : fI M pc = some (.if_icmp .gt o, 3, nx, tg)) (kt : y < x → Z g M c sl tg L st h Q) (kf : ¬ y < x → Z g M c sl nx L st h Q) : Z g M c sl pc L (.int y :: .int x :: st) h Q := by
  intro p e s m args below meth cd hC H locs ls hR
  obtain ⟨hd, hn, ht⟩ := fI_ok hC.2.2.2.2.2.2.2.2.2.2.1 hi
  subst hn
  exact lv_icmp_gt hC.1 hC.2.1 hd (ht o rfl) (fun q => kt q p e s m args below meth cd hC H locs ls hR) (fun q => kf q p e s m args below meth cd hC H locs ls hR)
theorem z_if_gt {x : Int32} {o : Int} (hi : fI M pc = some (.ifCond .gt o, 3, nx, tg)) (kt : 0 < x → Z g M c sl tg L st h Q) (kf : ¬ 0 < x → Z g M c sl nx L st h Q) : Z g M c sl pc L (.int x :: st) h Q := by
  intro p e s m args below meth cd hC H locs ls hR
  obtain ⟨hd, hn, ht⟩ := fI_ok hC.2.2.2.2.2.2.2.2.2.2.1 hi
  subst hn
  exact lv_if_gt hC.1 hC.2.1 hd (ht o rfl) (fun q => kt q p e s m args below meth cd hC H locs ls hR) (fun q => kf q p e s m args below meth cd hC H locs ls hR)
theorem z_icmp_le {x y : Int32} {o : Int} (hi : fI M pc = some (.if_icmp .le o, 3, nx, tg)) (kt : x ≤ y → Z g M c sl tg L st h Q) (kf : ¬ x ≤ y → Z g M c sl nx L st h Q) : Z g M c sl pc L (.int y :: .int x :: st) h Q := by
  intro p e s m args below meth cd hC H locs ls hR
  obtain ⟨hd, hn, ht⟩ := fI_ok hC.2.2.2.2.2.2.2.2.2.2.1 hi
  subst hn
  exact lv_icmp_le hC.1 hC.2.1 hd (ht o rfl) (fun q => kt q p e s m args below meth cd hC H locs ls hR) (fun q => kf q p e s m args below meth cd hC H locs ls hR)
theorem z_if_le {x : Int32} {o : Int} (hi : fI M pc = some (.ifCond .le o, 3, nx, tg)) (kt : x ≤ 0 → Z g M c sl tg L st h Q) (kf : ¬ x ≤ 0 → Z g M c sl nx L st h Q) : Z g M c sl pc L (.int x :: st) h Q := by
  intro p e s m args below meth cd hC H locs ls hR
  obtain ⟨hd, hn, ht⟩ := fI_ok hC.2.2.2.2.2.2.2.2.2.2.1 hi
  subst hn
  exact lv_if_le hC.1 hC.2.1 hd (ht o rfl) (fun q => kt q p e s m args below meth cd hC H locs ls hR) (fun q => kf q p e s m args below meth cd hC H locs ls hR)
theorem z_goto {o : Int} (hi : fI M pc = some (.goto o, 3, nx, tg)) (k : Z g M c sl tg L st h Q) : Z g M c sl pc L st h Q := by
  intro p e s m args below meth cd hC H locs ls hR
  obtain ⟨hd, hn, ht⟩ := fI_ok hC.2.2.2.2.2.2.2.2.2.2.1 hi
  subst hn
  exact lv_goto hC.1 hC.2.1 hd (ht o rfl) (k p e s m args below meth cd hC H locs ls hR)
def swT (i : Instr) (pc : Nat) (x : Int32) : Int := match i with
  | .tableswitch d lo hi offs => if x.toInt < lo ∨ hi < x.toInt then (pc : Int) + d else (match offs[(x.toInt - lo).toNat]? with
    | some o => (pc : Int) + o
    | none => -1)
  | _ => -1
theorem z_switch {d lo hh : Int} {offs : Array Int} {n : Nat} {x : Int32} (t : Nat) (hi : fI M pc = some (.tableswitch d lo hh offs, n, nx, tg)) (hs : swT (.tableswitch d lo hh offs) pc x = (t : Int)) (k : Z g M c sl t L st h Q) : Z g M c sl pc L (.int x :: st) h Q := by
  intro p e s m args below meth cd hC H locs ls hR
  obtain ⟨hd, hn, ht⟩ := fI_ok hC.2.2.2.2.2.2.2.2.2.2.1 hi
  subst hn
  simp only [swT] at hs
  split at hs
  · rename_i h1
    exact lv_tableOut hC.1 hC.2.1 hd h1 hs (k p e s m args below meth cd hC H locs ls hR)
  · rename_i h1
    split at hs
    · rename_i o ho
      exact lv_tableIn hC.1 hC.2.1 hd (fun q => h1 (Or.inl q)) (fun q => h1 (Or.inr q)) ho hs (k p e s m args below meth cd hC H locs ls hR)
    · omega
theorem z_lookup {d : Int} {ps : Array (Int × Int)} {n : Nat} {x : Int32} (t : Nat) (hi : fI M pc = some (.lookupswitch d ps, n, nx, tg)) (hp : (ps.toList.zip (ps.toList.drop 1)).all (fun (a, next) => a.1 < next.1) = true) (hs : (pc : Int) + Op.lookupswitch.offset ps.toList d x.toInt = (t : Int)) (k : Z g M c sl t L st h Q) : Z g M c sl pc L (.int x :: st) h Q := by
  intro p e s m args below meth cd hC H locs ls hR
  obtain ⟨hd, hn, ht⟩ := fI_ok hC.2.2.2.2.2.2.2.2.2.2.1 hi
  subst hn
  exact lv_lookup hC.1 hC.2.1 hd hp rfl hs (k p e s m args below meth cd hC H locs ls hR)
theorem z_geti {ix k ci : Nat} (i : Nat) (hi : fI M pc = some (.getfield ix, 3, nx, tg)) (hT : h.2.2.2.1[k]? = some (0, ci)) (hf : (fk ci)[i]? = some false) (hw : Cond.fieldLink (mY M).cls ix (cF ci i).1 (cF ci i).2.1 (cF ci i).2.2.1 ∈ TT) (kk : Z g M c sl nx L (.int (h.1 k i) :: st) h Q) : Z g M c sl pc L (.ref k :: st) h Q := by
  intro p e s m args below meth cd hC H locs ls hR
  obtain ⟨hd, hn, ht⟩ := fI_ok hC.2.2.2.2.2.2.2.2.2.2.1 hi
  subst hn
  have h1 := mfs_at (g_o g) (h.1 k) (h.2.2.1 k) (fk ci) 0 i false hf
  rw [Nat.zero_add] at h1
  exact va_get hC.1 hC.2.1 hC.2.2.2.2.2.2.2.1 (kc_in ci (fk_ci hf)) hC.2.2.2.2.2.2.1 hC.2.2.2.2.2.2.2.2.1.1 hR.1 k (mws_at hT) (kc ci (fk_ci hf)) i (fk_lt hf) (hC.2.2.2.2.2.2.2.1 _ hw) (fun _ q => q) h1 hd (kk p e s m args below meth cd hC H locs ls hR)
theorem z_getr {ix k ci j : Nat} (i : Nat) (hi : fI M pc = some (.getfield ix, 3, nx, tg)) (hT : h.2.2.2.1[k]? = some (0, ci)) (hf : (fk ci)[i]? = some true) (hw : Cond.fieldLink (mY M).cls ix (cF ci i).1 (cF ci i).2.1 (cF ci i).2.2.1 ∈ TT) (hj : h.2.2.1 k i = some j) (kk : Z g M c sl nx L (.ref j :: st) h Q) : Z g M c sl pc L (.ref k :: st) h Q := by
  intro p e s m args below meth cd hC H locs ls hR
  obtain ⟨hd, hn, ht⟩ := fI_ok hC.2.2.2.2.2.2.2.2.2.2.1 hi
  subst hn
  have h1 := mfs_at (g_o g) (h.1 k) (h.2.2.1 k) (fk ci) 0 i true hf
  rw [Nat.zero_add] at h1
  simp only [hj] at h1
  exact va_get hC.1 hC.2.1 hC.2.2.2.2.2.2.2.1 (kc_in ci (fk_ci hf)) hC.2.2.2.2.2.2.1 hC.2.2.2.2.2.2.2.2.1.1 hR.1 k (mws_at hT) (kc ci (fk_ci hf)) i (fk_lt hf) (hC.2.2.2.2.2.2.2.1 _ hw) (fun _ q => q) h1 hd (kk p e s m args below meth cd hC H locs ls hR)
theorem va_S.sz {A : Nat → Prop} {H0 H : Heap} {locs : List Loc} (h : va_S A H0 H locs) : H0.size ≤ H.size := h.1
theorem z_puti {ix k ci : Nat} {x : Int32} (i : Nat) (hi : fI M pc = some (.putfield ix, 3, nx, tg)) (hT : h.2.2.2.1[k]? = some (0, ci)) (hf : (fk ci)[i]? = some false) (hw : Cond.fieldLink (mY M).cls ix (cF ci i).1 (cF ci i).2.1 (cF ci i).2.2.1 ∈ TT) (hfin : (cF ci i).2.2.2 = false) (hx : narrow (cT ci i) (.int x) = .int x) (hb : fits (cT ci i) (.int x) = true) (kk : Z g M c sl nx L st (up2 h.1 k i x, h.2) Q) : Z g M c sl pc L (.int x :: .ref k :: st) h Q := by
  intro p e s m args below meth cd hC H locs ls hR
  obtain ⟨hd, hn, ht⟩ := fI_ok hC.2.2.2.2.2.2.2.2.2.2.1 hi
  subst hn
  obtain ⟨hP, hS, hL, hx'⟩ := hR
  refine va_put hC.1 hC.2.1 hC.2.2.2.2.2.2.2.1 (kc_in ci (fk_ci hf)) (cT ci) (kc_ty ci (fk_ci hf)) (kc_nm ci (fk_ci hf)) hC.2.2.2.2.2.2.1 hC.2.2.2.2.2.2.2.2.1.1 hP mD hS k (mws_at hT) (kc ci (fk_ci hf)) i (fk_lt hf) (hC.2.2.2.2.2.2.2.1 _ hw) (fun _ q => q) hfin (kc_ty ci (fk_ci hf) i (fk_lt hf)) hx hb (by rw [mfs_len]; exact (List.getElem?_eq_some_iff.mp hf).1) hd ?_
  intro H1 locs1 hP1 _ hS1
  refine kk p e s m args below meth cd hC H1 locs1 ls ⟨?_, hS1, hL, hx'⟩
  · rw [mws_set (g := g) (h := h) (h' := (up2 h.1 k i x, h.2)) rfl hT ?_ ?_] at hP1
    · exact hP1
    · show mce g (up2 h.1 k i x, h.2) k (0, ci) = _
      simp only [mce]
      congr 1
      congr 1
      refine (mfs_set (g_o g) (fk ci) 0 i false hf ?_ ?_).symm
      · intro j' hj'
        rw [Nat.zero_add] at hj'
        constructor <;> simp [up2, hj']
      · simp [up2, va_rf, tr]
    · intro j' ct' hj'
      refine mce_cg ?_ ?_ ?_ ct' <;> first | rfl | exact up2_ne _ _ _ _ _ hj'

theorem z_putiF {ix k ci : Nat} {x : Int32} (i : Nat) (hi : fI M pc = some (.putfield ix, 3, nx, tg)) (hT : h.2.2.2.1[k]? = some (0, ci)) (hf : (fk ci)[i]? = some false) (hw : Cond.fieldLink (mY M).cls ix (cF ci i).1 (cF ci i).2.1 (cF ci i).2.2.1 ∈ TT) (hfin : (cF ci i).2.2.2 = true) (hm : (mY M).name = "<init>") (ho : (cF ci i).1 = (mY M).cls) (hx : narrow (cT ci i) (.int x) = .int x) (hb : fits (cT ci i) (.int x) = true) (kk : Z g M c sl nx L st (up2 h.1 k i x, h.2) Q) : Z g M c sl pc L (.int x :: .ref k :: st) h Q := by
  intro p e s m args below meth cd hC H locs ls hR
  obtain ⟨hd, hn, ht⟩ := fI_ok hC.2.2.2.2.2.2.2.2.2.2.1 hi
  subst hn
  obtain ⟨hP, hS, hL, hx'⟩ := hR
  refine va_putF hC.1 hC.2.1 hC.2.2.2.2.2.2.2.1 (kc_in ci (fk_ci hf)) (cT ci) (kc_ty ci (fk_ci hf)) (kc_nm ci (fk_ci hf)) hC.2.2.2.2.2.2.1 hC.2.2.2.2.2.2.2.2.1.1 hP mD hS k (mws_at hT) (kc ci (fk_ci hf)) i (fk_lt hf) (hC.2.2.2.2.2.2.2.1 _ hw) (fun _ q => q) hfin (hC.2.2.2.2.2.1.trans hm) ho (kc_ty ci (fk_ci hf) i (fk_lt hf)) hx hb (by rw [mfs_len]; exact (List.getElem?_eq_some_iff.mp hf).1) hd ?_
  intro H1 locs1 hP1 _ hS1
  refine kk p e s m args below meth cd hC H1 locs1 ls ⟨?_, hS1, hL, hx'⟩
  · rw [mws_set (g := g) (h := h) (h' := (up2 h.1 k i x, h.2)) rfl hT ?_ ?_] at hP1
    · exact hP1
    · show mce g (up2 h.1 k i x, h.2) k (0, ci) = _
      simp only [mce]
      congr 1
      congr 1
      refine (mfs_set (g_o g) (fk ci) 0 i false hf ?_ ?_).symm
      · intro j' hj'
        rw [Nat.zero_add] at hj'
        constructor <;> simp [up2, hj']
      · simp [up2, va_rf, tr]
    · intro j' ct' hj'
      refine mce_cg ?_ ?_ ?_ ct' <;> first | rfl | exact up2_ne _ _ _ _ _ hj'

theorem z_putrF {ix k ci j : Nat} (i : Nat) (hi : fI M pc = some (.putfield ix, 3, nx, tg)) (hT : h.2.2.2.1[k]? = some (0, ci)) (hf : (fk ci)[i]? = some true) (hw : Cond.fieldLink (mY M).cls ix (cF ci i).1 (cF ci i).2.1 (cF ci i).2.2.1 ∈ TT) (hfin : (cF ci i).2.2.2 = true) (hm : (mY M).name = "<init>") (ho : (cF ci i).1 = (mY M).cls) (hr : refKind (cT ci i) = true) (kk : Z g M c sl nx L st (h.1, h.2.1, up2 h.2.2.1 k i (some j), h.2.2.2) Q) : Z g M c sl pc L (.ref j :: .ref k :: st) h Q := by
  intro p e s m args below meth cd hC H locs ls hR
  obtain ⟨hd, hn, ht⟩ := fI_ok hC.2.2.2.2.2.2.2.2.2.2.1 hi
  subst hn
  obtain ⟨hP, hS, hL, hx'⟩ := hR
  refine va_putF hC.1 hC.2.1 hC.2.2.2.2.2.2.2.1 (kc_in ci (fk_ci hf)) (cT ci) (kc_ty ci (fk_ci hf)) (kc_nm ci (fk_ci hf)) hC.2.2.2.2.2.2.1 hC.2.2.2.2.2.2.2.2.1.1 hP mD hS k (mws_at hT) (kc ci (fk_ci hf)) i (fk_lt hf) (hC.2.2.2.2.2.2.2.1 _ hw) (fun _ q => q) hfin (hC.2.2.2.2.2.1.trans hm) ho (kc_ty ci (fk_ci hf) i (fk_lt hf)) (by cases hq : cT ci i <;> first | rfl | (rw [hq] at hr; cases hr)) (by cases hq : cT ci i <;> first | rfl | (rw [hq] at hr; cases hr)) (by rw [mfs_len]; exact (List.getElem?_eq_some_iff.mp hf).1) hd ?_
  intro H1 locs1 hP1 _ hS1
  refine kk p e s m args below meth cd hC H1 locs1 ls ⟨?_, hS1, hL, hx'⟩
  · rw [mws_set (g := g) (h := h) (h' := (h.1, h.2.1, up2 h.2.2.1 k i (some j), h.2.2.2)) rfl hT ?_ ?_] at hP1
    · exact hP1
    · show mce g (h.1, h.2.1, up2 h.2.2.1 k i (some j), h.2.2.2) k (0, ci) = _
      simp only [mce]
      congr 1
      congr 1
      refine (mfs_set (g_o g) (fk ci) 0 i true hf ?_ ?_).symm
      · intro j' hj'
        rw [Nat.zero_add] at hj'
        constructor <;> simp [up2, hj']
      · simp [up2, va_rf, tr]
    · intro j' ct' hj'
      refine mce_cg ?_ ?_ ?_ ct' <;> first | rfl | exact up2_ne _ _ _ _ _ hj'

theorem z_iald {k n : Nat} {i : Int32} (j : Nat) (hi : fI M pc = some (.iaload, 1, nx, tg)) (hT : h.2.2.2.1[k]? = some (1, n)) (hin : vp_in i n) (hj : i.toNatClampNeg = j) (kk : Z g M c sl nx L (.int (h.1 k j) :: st) h Q) : Z g M c sl pc L (.int i :: .ref k :: st) h Q := by
  intro p e s m args below meth cd hC H locs ls hR
  obtain ⟨hd, hn, ht⟩ := fI_ok hC.2.2.2.2.2.2.2.2.2.2.1 hi
  subst hn
  subst hj
  exact va_iald hC.1 hC.2.1 hC.2.2.2.2.2.2.2.2.1.1 hR.1 k 0 (mws_at hT) rfl hin hd (kk p e s m args below meth cd hC H locs ls hR)
theorem z_zald {k n : Nat} {i : Int32} (j : Nat) (hi : fI M pc = some (.baload, 1, nx, tg)) (hT : h.2.2.2.1[k]? = some (2, n)) (hin : vp_in i n) (hj : i.toNatClampNeg = j) (kk : Z g M c sl nx L (.int (h.1 k j) :: st) h Q) : Z g M c sl pc L (.int i :: .ref k :: st) h Q := by
  intro p e s m args below meth cd hC H locs ls hR
  obtain ⟨hd, hn, ht⟩ := fI_ok hC.2.2.2.2.2.2.2.2.2.2.1 hi
  subst hn
  subst hj
  exact va_zald hC.1 hC.2.1 hC.2.2.2.2.2.2.2.2.1.1 hR.1 k 1 (mws_at hT) rfl hin hd (kk p e s m args below meth cd hC H locs ls hR)
theorem z_iast {k n : Nat} {i x : Int32} (j : Nat) (hi : fI M pc = some (.iastore, 1, nx, tg)) (hT : h.2.2.2.1[k]? = some (1, n)) (hin : vp_in i n) (hj : i.toNatClampNeg = j) (kk : Z g M c sl nx L st (up2 h.1 k j x, h.2) Q) : Z g M c sl pc L (.int x :: .int i :: .ref k :: st) h Q := by
  intro p e s m args below meth cd hC H locs ls hR
  obtain ⟨hd, hn, ht⟩ := fI_ok hC.2.2.2.2.2.2.2.2.2.2.1 hi
  subst hn
  subst hj
  obtain ⟨hP, hS, hL, hx'⟩ := hR
  refine va_iast hC.1 hC.2.1 hC.2.2.2.2.2.2.2.2.1.1 hP mD hS k 0 (mws_at hT) rfl hin hd ?_
  intro H1 locs1 hP1 _ hS1
  refine kk p e s m args below meth cd hC H1 locs1 ls ⟨?_, hS1, hL, hx'⟩
  rw [mws_set (g := g) (h := h) (h' := (up2 h.1 k i.toNatClampNeg x, h.2)) rfl hT ?_ ?_] at hP1
  · exact hP1
  · show mce g (up2 h.1 k i.toNatClampNeg x, h.2) k (1, n) = _
    simp only [mce, up2_row]
    rfl
  · intro j' ct' hj'
    refine mce_cg ?_ ?_ ?_ ct' <;> first | rfl | exact up2_ne _ _ _ _ _ hj'
theorem z_zast {k n : Nat} {i x : Int32} (j : Nat) (hi : fI M pc = some (.bastore, 1, nx, tg)) (hT : h.2.2.2.1[k]? = some (2, n)) (hin : vp_in i n) (hj : i.toNatClampNeg = j) (kk : Z g M c sl nx L st (up2 h.1 k j (vp_nar .boolean x), h.2) Q) : Z g M c sl pc L (.int x :: .int i :: .ref k :: st) h Q := by
  intro p e s m args below meth cd hC H locs ls hR
  obtain ⟨hd, hn, ht⟩ := fI_ok hC.2.2.2.2.2.2.2.2.2.2.1 hi
  subst hn
  subst hj
  obtain ⟨hP, hS, hL, hx'⟩ := hR
  refine va_zast hC.1 hC.2.1 hC.2.2.2.2.2.2.2.2.1.1 hP mD hS k 1 (mws_at hT) rfl hin hd ?_
  intro H1 locs1 hP1 _ hS1
  refine kk p e s m args below meth cd hC H1 locs1 ls ⟨?_, hS1, hL, hx'⟩
  rw [mws_set (g := g) (h := h) (h' := (up2 h.1 k i.toNatClampNeg (vp_nar .boolean x), h.2)) rfl hT ?_ ?_] at hP1
  · exact hP1
  · show mce g (up2 h.1 k i.toNatClampNeg (vp_nar .boolean x), h.2) k (2, n) = _
    simp only [mce, up2_row]
    rfl
  · intro j' ct' hj'
    refine mce_cg ?_ ?_ ?_ ct' <;> first | rfl | exact up2_ne _ _ _ _ _ hj'
theorem z_lald {k n : Nat} {i : Int32} (hi : fI M pc = some (.laload, 1, nx, tg)) (hT : h.2.2.2.1[k]? = some (3, n)) (hin : vp_in i n) (kk : Z g M c sl nx L (.long (h.2.1 k i.toNatClampNeg) :: st) h Q) : Z g M c sl pc L (.int i :: .ref k :: st) h Q := by
  intro p e s m args below meth cd hC H locs ls hR
  obtain ⟨hd, hn, ht⟩ := fI_ok hC.2.2.2.2.2.2.2.2.2.2.1 hi
  subst hn
  exact va_lald hC.1 hC.2.1 hC.2.2.2.2.2.2.2.2.1.1 hR.1 k 2 (mws_at hT) rfl hin hd (kk p e s m args below meth cd hC H locs ls hR)
theorem z_last {k n : Nat} {i : Int32} {x : Int64} (hi : fI M pc = some (.lastore, 1, nx, tg)) (hT : h.2.2.2.1[k]? = some (3, n)) (hin : vp_in i n) (kk : Z g M c sl nx L st (h.1, up2 h.2.1 k i.toNatClampNeg x, h.2.2) Q) : Z g M c sl pc L (.long x :: .int i :: .ref k :: st) h Q := by
  intro p e s m args below meth cd hC H locs ls hR
  obtain ⟨hd, hn, ht⟩ := fI_ok hC.2.2.2.2.2.2.2.2.2.2.1 hi
  subst hn
  obtain ⟨hP, hS, hL, hx'⟩ := hR
  refine va_last hC.1 hC.2.1 hC.2.2.2.2.2.2.2.2.1.1 hP mD hS k 2 (mws_at hT) rfl hin hd ?_
  intro H1 locs1 hP1 _ hS1
  refine kk p e s m args below meth cd hC H1 locs1 ls ⟨?_, hS1, hL, hx'⟩
  rw [mws_set (g := g) (h := h) (h' := (h.1, up2 h.2.1 k i.toNatClampNeg x, h.2.2)) rfl hT ?_ ?_] at hP1
  · exact hP1
  · show mce g (h.1, up2 h.2.1 k i.toNatClampNeg x, h.2.2) k (3, n) = _
    simp only [mce, up2_row]
    rfl
  · intro j' ct' hj'
    refine mce_cg ?_ ?_ ?_ ct' <;> first | rfl | exact up2_ne _ _ _ _ _ hj'
theorem z_aaldA {k n j : Nat} {i : Int32} (hi : fI M pc = some (.aaload, 1, nx, tg)) (hT : h.2.2.2.1[k]? = some (4, n)) (hin : vp_in i n) (hj : h.2.2.1 k i.toNatClampNeg = some j) (kk : Z g M c sl nx L (.ref j :: st) h Q) : Z g M c sl pc L (.int i :: .ref k :: st) h Q := by
  intro p e s m args below meth cd hC H locs ls hR
  obtain ⟨hd, hn, ht⟩ := fI_ok hC.2.2.2.2.2.2.2.2.2.2.1 hi
  subst hn
  refine va_aldq hC.1 hC.2.1 hC.2.2.2.2.2.2.2.2.1.1 hR.1 k 3 (mws_at hT) rfl hin hd ?_
  simp only [hj]
  exact kk p e s m args below meth cd hC H locs ls hR
theorem z_aastA {k n j : Nat} {i : Int32} (hi : fI M pc = some (.aastore, 1, nx, tg)) (hT : h.2.2.2.1[k]? = some (4, n)) (hin : vp_in i n) (hj : h.2.2.2.1[j]? = some (0, ciA)) (kk : Z g M c sl nx L st (h.1, h.2.1, up2 h.2.2.1 k i.toNatClampNeg (some j), h.2.2.2) Q) : Z g M c sl pc L (.ref j :: .int i :: .ref k :: st) h Q := by
  intro p e s m args below meth cd hC H locs ls hR
  obtain ⟨hd, hn, ht⟩ := fI_ok hC.2.2.2.2.2.2.2.2.2.2.1 hi
  subst hn
  obtain ⟨hP, hS, hL, hx'⟩ := hR
  refine va_astq hC.1 hC.2.1 hC.2.2.2.2.2.2.2.2.1.1 hP mD hS k 3 j ciA (mws_at hT) rfl (mws_at hj) rfl hin hd ?_
  intro H1 locs1 hP1 _ hS1
  refine kk p e s m args below meth cd hC H1 locs1 ls ⟨?_, hS1, hL, hx'⟩
  rw [mws_set (g := g) (h := h) (h' := (h.1, h.2.1, up2 h.2.2.1 k i.toNatClampNeg (some j), h.2.2.2)) rfl hT ?_ ?_] at hP1
  · exact hP1
  · show mce g (h.1, h.2.1, up2 h.2.2.1 k i.toNatClampNeg (some j), h.2.2.2) k (4, n) = _
    simp only [mce, up2_row]
    congr 7
    funext b
    by_cases hb : b = i.toNatClampNeg <;> simp [va_up, hb]
  · intro j' ct' hj'
    refine mce_cg ?_ ?_ ?_ ct' <;> first | rfl | exact up2_ne _ _ _ _ _ hj'
theorem z_aaldE {k n j : Nat} {i : Int32} (hi : fI M pc = some (.aaload, 1, nx, tg)) (hT : h.2.2.2.1[k]? = some (5, n)) (hin : vp_in i n) (hj : h.2.2.1 k i.toNatClampNeg = some j) (kk : Z g M c sl nx L (.ref j :: st) h Q) : Z g M c sl pc L (.int i :: .ref k :: st) h Q := by
  intro p e s m args below meth cd hC H locs ls hR
  obtain ⟨hd, hn, ht⟩ := fI_ok hC.2.2.2.2.2.2.2.2.2.2.1 hi
  subst hn
  refine va_aldq hC.1 hC.2.1 hC.2.2.2.2.2.2.2.2.1.1 hR.1 k 4 (mws_at hT) rfl hin hd ?_
  simp only [hj]
  exact kk p e s m args below meth cd hC H locs ls hR
theorem z_aastE {k n j : Nat} {i : Int32} (hi : fI M pc = some (.aastore, 1, nx, tg)) (hT : h.2.2.2.1[k]? = some (5, n)) (hin : vp_in i n) (hj : h.2.2.2.1[j]? = some (0, ciE)) (kk : Z g M c sl nx L st (h.1, h.2.1, up2 h.2.2.1 k i.toNatClampNeg (some j), h.2.2.2) Q) : Z g M c sl pc L (.ref j :: .int i :: .ref k :: st) h Q := by
  intro p e s m args below meth cd hC H locs ls hR
  obtain ⟨hd, hn, ht⟩ := fI_ok hC.2.2.2.2.2.2.2.2.2.2.1 hi
  subst hn
  obtain ⟨hP, hS, hL, hx'⟩ := hR
  refine va_astq hC.1 hC.2.1 hC.2.2.2.2.2.2.2.2.1.1 hP mD hS k 4 j ciE (mws_at hT) rfl (mws_at hj) rfl hin hd ?_
  intro H1 locs1 hP1 _ hS1
  refine kk p e s m args below meth cd hC H1 locs1 ls ⟨?_, hS1, hL, hx'⟩
  rw [mws_set (g := g) (h := h) (h' := (h.1, h.2.1, up2 h.2.2.1 k i.toNatClampNeg (some j), h.2.2.2)) rfl hT ?_ ?_] at hP1
  · exact hP1
  · show mce g (h.1, h.2.1, up2 h.2.2.1 k i.toNatClampNeg (some j), h.2.2.2) k (5, n) = _
    simp only [mce, up2_row]
    congr 7
    funext b
    by_cases hb : b = i.toNatClampNeg <;> simp [va_up, hb]
  · intro j' ct' hj'
    refine mce_cg ?_ ?_ ?_ ct' <;> first | rfl | exact up2_ne _ _ _ _ _ hj'
theorem z_aaldI {k n j : Nat} {i : Int32} (hi : fI M pc = some (.aaload, 1, nx, tg)) (hT : h.2.2.2.1[k]? = some (6, n)) (hin : vp_in i n) (hj : h.2.2.1 k i.toNatClampNeg = some j) (kk : Z g M c sl nx L (.ref j :: st) h Q) : Z g M c sl pc L (.int i :: .ref k :: st) h Q := by
  intro p e s m args below meth cd hC H locs ls hR
  obtain ⟨hd, hn, ht⟩ := fI_ok hC.2.2.2.2.2.2.2.2.2.2.1 hi
  subst hn
  refine va_aldq hC.1 hC.2.1 hC.2.2.2.2.2.2.2.2.1.1 hR.1 k 5 (mws_at hT) rfl hin hd ?_
  simp only [hj]
  exact kk p e s m args below meth cd hC H locs ls hR
theorem z_aastI {k n j : Nat} {i : Int32} (hi : fI M pc = some (.aastore, 1, nx, tg)) (hT : h.2.2.2.1[k]? = some (6, n)) (hin : vp_in i n) (hj : h.2.2.2.1[j]? = some (0, ciI)) (kk : Z g M c sl nx L st (h.1, h.2.1, up2 h.2.2.1 k i.toNatClampNeg (some j), h.2.2.2) Q) : Z g M c sl pc L (.ref j :: .int i :: .ref k :: st) h Q := by
  intro p e s m args below meth cd hC H locs ls hR
  obtain ⟨hd, hn, ht⟩ := fI_ok hC.2.2.2.2.2.2.2.2.2.2.1 hi
  subst hn
  obtain ⟨hP, hS, hL, hx'⟩ := hR
  refine va_astq hC.1 hC.2.1 hC.2.2.2.2.2.2.2.2.1.1 hP mD hS k 5 j ciI (mws_at hT) rfl (mws_at hj) rfl hin hd ?_
  intro H1 locs1 hP1 _ hS1
  refine kk p e s m args below meth cd hC H1 locs1 ls ⟨?_, hS1, hL, hx'⟩
  rw [mws_set (g := g) (h := h) (h' := (h.1, h.2.1, up2 h.2.2.1 k i.toNatClampNeg (some j), h.2.2.2)) rfl hT ?_ ?_] at hP1
  · exact hP1
  · show mce g (h.1, h.2.1, up2 h.2.2.1 k i.toNatClampNeg (some j), h.2.2.2) k (6, n) = _
    simp only [mce, up2_row]
    congr 7
    funext b
    by_cases hb : b = i.toNatClampNeg <;> simp [va_up, hb]
  · intro j' ct' hj'
    refine mce_cg ?_ ?_ ?_ ct' <;> first | rfl | exact up2_ne _ _ _ _ _ hj'
theorem z_getsT {ix : Nat} (hi : fI M pc = some (.getstatic ix, 3, nx, tg)) (hw : Cond.fieldLink (mY M).cls ix R_Action "SORTS" "[I" ∈ TT) (kk : Z g M c sl nx L (.retAddr 0 :: st) h Q) : Z g M c sl pc L st h Q := by
  intro p e s m args below meth cd hC H locs ls hR
  obtain ⟨hd, hn, ht⟩ := fI_ok hC.2.2.2.2.2.2.2.2.2.2.1 hi
  subst hn
  exact va_gets hC.1 hC.2.1 hC.2.2.2.2.2.2.2.2.2.1.1 hR.2.1 hC.2.2.2.2.2.2.1 (hC.2.2.2.2.2.2.2.1 _ hw) (fun _ q => q) hd (kk p e s m args below meth cd hC H locs ls hR)
theorem z_ialdT {i : Int32} (hi : fI M pc = some (.iaload, 1, nx, tg)) (hin : vp_in i 40) (kk : Z g M c sl nx L (.int (sortsF i.toNatClampNeg) :: st) h Q) : Z g M c sl pc L (.int i :: .retAddr 0 :: st) h Q := by
  intro p e s m args below meth cd hC H locs ls hR
  obtain ⟨hd, hn, ht⟩ := fI_ok hC.2.2.2.2.2.2.2.2.2.2.1 hi
  subst hn
  exact va_ti hC.1 hC.2.1 hC.2.2.2.2.2.2.2.2.2.1.2.1 hR.2.1 hin rfl hd (kk p e s m args below meth cd hC H locs ls hR)
theorem zA_b {g : Gm} {U : State} {H : Heap} (h : zU g U H) : ¬ zA g (g_b g) := fun q => Nat.not_le_of_lt h.2.2.2.1 q
theorem z_ialdS {i : Int32} {j : Nat} (hi : fI M pc = some (.iaload, 1, nx, tg)) (hin : vp_in i (g_n g)) (kk : Z g M c sl nx L (.int (g_x g i.toNatClampNeg) :: st) h Q) : Z g M c sl pc L (.int i :: .retAddr (j + 1) :: st) h Q := by
  intro p e s m args below meth cd hC H locs ls hR
  obtain ⟨hd, hn, ht⟩ := fI_ok hC.2.2.2.2.2.2.2.2.2.2.1 hi
  subst hn
  have hu := hC.2.2.2.2.2.2.2.2.2.1
  exact va_sld hC.1 hC.2.1 hu.2.2.1 (Nat.lt_of_lt_of_le hu.2.2.2.1 hu.2.2.2.2.1) (zA_b hu) hR.2.1 hin hd (kk p e s m args below meth cd hC H locs ls hR)
theorem z_alenS {j : Nat} (hi : fI M pc = some (.arraylength, 1, nx, tg)) (kk : Z g M c sl nx L (.int (Int32.ofNat (g_n g)) :: st) h Q) : Z g M c sl pc L (.retAddr (j + 1) :: st) h Q := by
  intro p e s m args below meth cd hC H locs ls hR
  obtain ⟨hd, hn, ht⟩ := fI_ok hC.2.2.2.2.2.2.2.2.2.2.1 hi
  subst hn
  have hu := hC.2.2.2.2.2.2.2.2.2.1
  exact va_slen hC.1 hC.2.1 hu.2.2.1 (Nat.lt_of_lt_of_le hu.2.2.2.1 hu.2.2.2.2.1) (zA_b hu) hR.2.1 hd (kk p e s m args below meth cd hC H locs ls hR)
theorem z_iret {x : Int32} (hi : fI M pc = some (.ireturn, 1, nx, tg)) (hr : mR M = some .int) (hc : Nat.ble c (mM M).cells = true) (hs : Nat.ble sl (mM M).slots = true) (hq : Q (.inl (some (.int x))) h) : Z g M c sl pc L [.int x] h Q := by
  intro p e s m args below meth cd hC H locs ls hR
  obtain ⟨hd, hn, ht⟩ := fI_ok hC.2.2.2.2.2.2.2.2.2.2.1 hi
  subst hn
  have hlk := hC.2.2.2.2.1
  refine W.widen (Nat.le_of_ble_eq_true hc) (Nat.le_of_ble_eq_true hs) (W.mono (fun _ => MQ.toX) ?_)
  exact W.iret hC.1 hC.2.1 (hC.2.2.2.1.trans hr) (fun t ht hW => ⟨⟨_, h, hq, rfl, by rw [ht]; exact hR.1⟩, hR.2.1.F ht⟩) hR.2.1.2.2 hd hlk
theorem z_zret {x : Int32} (hi : fI M pc = some (.ireturn, 1, nx, tg)) (hr : mR M = some .boolean) (hx : narrow .boolean (.int x) = .int x) (hc : Nat.ble c (mM M).cells = true) (hs : Nat.ble sl (mM M).slots = true) (hq : Q (.inl (some (.int x))) h) : Z g M c sl pc L [.int x] h Q := by
  intro p e s m args below meth cd hC H locs ls hR
  obtain ⟨hd, hn, ht⟩ := fI_ok hC.2.2.2.2.2.2.2.2.2.2.1 hi
  subst hn
  have hlk := hC.2.2.2.2.1
  refine W.widen (Nat.le_of_ble_eq_true hc) (Nat.le_of_ble_eq_true hs) (W.mono (fun _ => MQ.toX) ?_)
  exact W.zret hC.1 hC.2.1 (hC.2.2.2.1.trans hr) hx (fun t ht hW => ⟨⟨_, h, hq, rfl, by rw [ht]; exact hR.1⟩, hR.2.1.F ht⟩) hR.2.1.2.2 hd hlk
theorem z_lret {x : Int64} (hi : fI M pc = some (.lreturn, 1, nx, tg)) (hr : mR M = some .long) (hc : Nat.ble c (mM M).cells = true) (hs : Nat.ble sl (mM M).slots = true) (hq : Q (.inl (some (.long x))) h) : Z g M c sl pc L [.long x] h Q := by
  intro p e s m args below meth cd hC H locs ls hR
  obtain ⟨hd, hn, ht⟩ := fI_ok hC.2.2.2.2.2.2.2.2.2.2.1 hi
  subst hn
  have hlk := hC.2.2.2.2.1
  refine W.widen (Nat.le_of_ble_eq_true hc) (Nat.le_of_ble_eq_true hs) (W.mono (fun _ => MQ.toX) ?_)
  exact W.lret hC.1 hC.2.1 (hC.2.2.2.1.trans hr) (fun t ht hW => ⟨⟨_, h, hq, rfl, by rw [ht]; exact hR.1⟩, hR.2.1.F ht⟩) hR.2.1.2.2 hd hlk
theorem z_vret (hi : fI M pc = some (.return_, 1, nx, tg)) (hr : mR M = none) (hc : Nat.ble c (mM M).cells = true) (hs : Nat.ble sl (mM M).slots = true) (hq : Q (.inl none) h) : Z g M c sl pc L [] h Q := by
  intro p e s m args below meth cd hC H locs ls hR
  obtain ⟨hd, hn, ht⟩ := fI_ok hC.2.2.2.2.2.2.2.2.2.2.1 hi
  subst hn
  have hlk := hC.2.2.2.2.1
  refine W.widen (Nat.le_of_ble_eq_true hc) (Nat.le_of_ble_eq_true hs) (W.mono (fun _ => MQ.toX) ?_)
  exact W.vret hC.1 hC.2.1 (hC.2.2.2.1.trans hr) (fun t ht hW => ⟨⟨_, h, hq, rfl, by rw [ht]; exact hR.1⟩, hR.2.1.F ht⟩) hR.2.1.2.2 hd hlk
theorem z_aret {C : String} {x : Nat} (hi : fI M pc = some (.areturn, 1, nx, tg)) (hr : mR M = some (.object C)) (hc : Nat.ble c (mM M).cells = true) (hs : Nat.ble sl (mM M).slots = true) (hq : Q (.inl (some (.ref x))) h) : Z g M c sl pc L [.ref x] h Q := by
  intro p e s m args below meth cd hC H locs ls hR
  obtain ⟨hd, hn, ht⟩ := fI_ok hC.2.2.2.2.2.2.2.2.2.2.1 hi
  subst hn
  have hlk := hC.2.2.2.2.1
  refine W.widen (Nat.le_of_ble_eq_true hc) (Nat.le_of_ble_eq_true hs) (W.mono (fun _ => MQ.toX) ?_)
  exact W.aret hC.1 hC.2.1 (hC.2.2.2.1.trans hr) (Or.inl ⟨_, rfl⟩) (Or.inr ⟨_, rfl⟩) (fun t ht hW => ⟨⟨_, h, hq, rfl, by rw [ht]; exact hR.1⟩, hR.2.1.F ht⟩) hR.2.1.2.2 hd hlk
end ZR
end
section
/-! Calls in the layer Z: a callee's Z at its entry is its contract; it comes back with an answer, or with an exception -/
def MetX (l : Launch) (y : MethodName) (ws : List Cond) (rm : Room) (Pc : Array Value → State → Prop) (Qc : Array Value → State → Outcome → State → Prop) (mc ms : Nat) (free : Addr → Prop) : Prop :=
  MetFree l y (headSpec ws rm) Pc (fun _ _ _ _ _ => True) (fun a st o t => Qc a st o t ∧ ∃ L, (st.WarmedH t.vm ∧ st.sameButNew ({ t with vm := st.vm } : State) L mc ms) ∧ ∀ q ∈ L, free q.base)
theorem MetX.ofW {l : Launch} {y : MethodName} {ws ws' : List Cond} {rm : Room} {Pc : Array Value → State → Prop} {Qc : Array Value → State → Outcome → State → Prop} {mc ms : Nat} {free : Addr → Prop} {cc : ByteArray} {maxL : Nat} {ret : Option FieldType}
    (hy : plainName y.cls = true) (hw : ws = Cond.code y cc maxL ret :: ws')
    (body : ∀ p e s m args below meth c s₁, BodyLoose p l y (headSpec ws rm) cc maxL ret e s m args below meth c s₁ → c.maxLocals = maxL → Pc args s →
      W p l e (headSpec ws rm).room s m args below meth c s.heap [] 0 0 (MX below Qc args s mc ms free) (entryFrame m args maxL)) : MetX l y ws rm Pc Qc mc ms free := by
  refine MetFree.of_bodyS (code := cc) (maxLocals := maxL) (ret := ret) hy ?_ ?_
  · intro args s m h hn
    obtain ⟨meth, c, h1, h2, h3, h4, h5, h6, -, -⟩ := Cond.code_spec hn (atoms_spec (ws := ws) h _ (by rw [hw]; exact List.mem_cons_self))
    exact ⟨meth, c, h1, h2, h3, h4, h5, h6⟩
  · intro p e s m args below meth c s₁ B hml hP _
    have hh0 : s₁.heap = s.heap := by rw [B.state]; rfl
    obtain ⟨t, a1, o, b1, b2, b3⟩ := body p e s m args below meth c s₁ B hml hP s₁ hh0 (Stand.of_body B)
    exact ⟨t, o, a1, b1, b2, ⟨b3.1, b3.2⟩⟩
/-- the locals at the entry -/
def entL : List Value → List (Option Value)
  | [] => []
  | .long x :: t => some (.long x) :: none :: entL t
  | .double x :: t => some (.double x) :: none :: entL t
  | .int x :: t => some (.int x) :: entL t
  | .float x :: t => some (.float x) :: entL t
  | .null :: t => some .null :: entL t
  | .ref x :: t => some (.ref x) :: entL t
  | .retAddr x :: t => some (.retAddr x) :: entL t
def entryL (vs : List Value) (n : Nat) : List (Option Value) := entL vs ++ List.replicate (n - (entL vs).length) none
theorem entL_one {g : Gm} {v : Value} {t : List Value} (h : v.category ≠ 2) : entL (v :: t) = some v :: entL t := by
  cases v <;> first | rfl | exact absurd rfl h
theorem entL_two {g : Gm} {v : Value} {t : List Value} (h : v.category = 2) : entL (v :: t) = some v :: none :: entL t := by
  cases v <;> first | rfl | cases h
theorem entL_len (g : Gm) : ∀ vs : List Value, (lg_sl (vs.map (tr g))).length = (entL vs).length
  | [] => rfl
  | v :: t => by
    have ih := entL_len g t
    simp only [lg_sl] at ih
    by_cases h : v.category = 2
    · simp only [lg_sl, List.map_cons, List.flatMap_cons, tr_cat, if_pos h, List.length_append, entL_two (g := g) h, List.length_cons, List.length_nil, ih]
      omega
    · simp only [lg_sl, List.map_cons, List.flatMap_cons, tr_cat, if_neg h, List.length_append, entL_one (g := g) h, List.length_cons, List.length_nil, ih]
      omega
theorem entL_mem (g : Gm) : ∀ (vs : List Value) (i0 i : Nat) (v : Value), (entL vs)[i]? = some (some v) → (i0 + i, tr g v) ∈ lv_args i0 (vs.map (tr g))
  | [], _, _, _, h => by simp [entL] at h
  | w :: t, i0, i, v, h => by
    by_cases hc : w.category = 2
    · rw [entL_two (g := g) hc] at h
      simp only [List.map_cons, lv_args, tr_cat, if_pos hc]
      match i, h with
      | 0, h =>
        have hw : w = v := by simpa using h
        subst hw
        exact List.mem_cons_self
      | 1, h => simp at h
      | i + 2, h =>
        have h1 : (entL t)[i]? = some (some v) := by simpa using h
        have h2 := entL_mem g t (i0 + 2) i v h1
        rw [show i0 + 2 + i = i0 + (i + 2) by omega] at h2
        exact List.mem_cons_of_mem _ h2
    · rw [entL_one (g := g) hc] at h
      simp only [List.map_cons, lv_args, tr_cat, if_neg hc]
      match i, h with
      | 0, h =>
        have hw : w = v := by simpa using h
        subst hw
        exact List.mem_cons_self
      | i + 1, h =>
        have h1 : (entL t)[i]? = some (some v) := by simpa using h
        have h2 := entL_mem g t (i0 + 1) i v h1
        rw [show i0 + 1 + i = i0 + (i + 1) by omega] at h2
        exact List.mem_cons_of_mem _ h2
theorem LR.entry {g : Gm} {vs : List Value} {n : Nat} (hn : (entL vs).length ≤ n) : LR g n (entryL vs n) ((lg_sl (vs.map (tr g)) ++ List.replicate (n - (lg_sl (vs.map (tr g))).length) Slot.unset).toArray) := by
  have h := lv_entry (vs.map (tr g)) (n := n) (by rw [entL_len]; exact hn)
  refine ⟨h.1, by simp only [entryL, List.length_append, List.length_replicate]; omega, h.2.1, fun i v hi => ?_⟩
  by_cases hl : i < (entL vs).length
  · rw [entryL, List.getElem?_append_left hl] at hi
    have h1 := h.2.2 _ (entL_mem g vs 0 i v hi)
    rw [Nat.zero_add] at h1
    exact h1
  · rw [entryL, List.getElem?_append_right (by omega), List.getElem?_replicate] at hi
    split at hi <;> cases hi
theorem NW_warm {s U : State} (hW : s.WarmedH U.vm) {w : Cond} (hw : w ∈ NW) (h : va_Nw w s) : va_Nw w U := by
  have h1 := (List.mem_filter.mp hw).2
  cases w <;> first | exact va_Nw.warmM hW h | exact va_Nw.warmD hW h | exact va_Nw.warmC hW h | cases h1
theorem zK.warm {g : Gm} {s U : State} (hW : s.WarmedH U.vm) (h : zK g s) : zK g U :=
  ⟨va_K.moved hW.alike h.1, ⟨va_AO.moved hW.alike h.2.1.1, va_AO.moved hW.alike h.2.1.2.1, va_AO.moved hW.alike h.2.1.2.2⟩, fun w hw => NW_warm hW hw (h.2.2 w hw)⟩
theorem zU.kept {g : Gm} {s U : State} {H H1 : Heap} (hW : s.vm.Alike U.vm) (h : zU g s H) (hz : H.size ≤ H1.size) (hk : ∀ q : Nat, q < H.size → ¬ zA g q → H1[q]? = H[q]?) : zU g U H1 :=
  ⟨va_Z.moved hW (va_Z.kept h.1 hk), va_T.moved hW (va_T.kept h.2.1 hk), va_X.moved hW (va_X.kept h.2.2.1 (hk _ (Nat.lt_of_lt_of_le h.2.2.2.1 h.2.2.2.2.1) (zA_b h))), h.2.2.2.1, Nat.le_trans h.2.2.2.2.1 hz,
    h.2.2.2.2.2.1.elim fun u q => ⟨u, va_Z.moved hW (va_Z.kept q hk)⟩, h.2.2.2.2.2.2.elim fun u q => ⟨u, va_Z.moved hW (va_Z.kept q hk)⟩⟩
/-- what a callee is given -/
def zPc (g : Gm) (h : Hp) (vs : List Value) : Array Value → State → Prop := va_Pc (vs.map (tr g)) (fun U => zK g U ∧ zU g U U.heap ∧ va_P (g_D g) CL (mws g h) U.heap ∧ (h.2.2.2.2 = true → U.heap.size = g_o g + h.2.2.2.1.length))
theorem zPc.blind {g : Gm} {h : Hp} {vs : List Value} : FrameBlind (zPc g h vs) := fun a U gg mk hh =>
  ⟨hh.1, zK.warm (s := U) (U := U.calling gg mk a) (State.WarmedH.refl U) hh.2.1, zU.kept (s := U) (U := U.calling gg mk a) (Vm.Alike.refl U.vm) hh.2.2.1 (Nat.le_refl _) (fun _ _ _ => rfl), hh.2.2.2.1, hh.2.2.2.2⟩
def mWs (M : MI) : List Cond := Cond.code (mY M) (mB M) (mL M) (mR M) :: TT
theorem z_met {g : Gm} {M : MI} {h : Hp} {Q : Rs → Hp → Prop} {vs : List Value} (hX : mX M = []) (hy : plainName (mY M).cls = true) (hM : okM M) (hlen : (entL vs).length ≤ mL M) (hZ : Z g M 0 0 0 (entryL vs (mL M)) [] h Q) :
    MetX (g_l g) (mY M) (mWs M) (mM M) (zPc g h vs) (QX g Q) (mM M).cells (mM M).slots (zA g) := by
  refine MetX.ofW (cc := mB M) (maxL := mL M) (ret := mR M) hy rfl ?_
  intro p e s m args below meth c s₁ B hml hv
  obtain ⟨rfl, hk, hu, hP, hx⟩ := hv
  have hts := atoms_spec (ws := mWs M) B.pre
  have hcx : Cx g M p s m (vs.map (tr g)).toArray meth c := ⟨B.exec, B.bytes, hml, B.returns, B.notSynchronized, (name_of_methodNamed B.named B.method).1, findClass_of_methodNamed B.named, fun w hw => hts w (List.mem_cons_of_mem _ hw), hk, hu, hM, fun _ => B.noHandlers (hts _ List.mem_cons_self)⟩
  rw [lg_entry_eq]
  exact hZ p e s m _ below meth c hcx s.heap [] _ ⟨hP, va_S.rf, LR.entry hlen, fun q => by rw [Nat.add_zero]; exact hx q⟩
/-- a call of a method with such a contract -/
theorem callX {l : Launch} {R : Room} {p : Program} {e : Env} {below : List Frame} {s : State} {sargs : Array Value} {m : MethodId} {meth : Method} {c : Code} {y : MethodName} {ws : List Cond} {rm : Room} {Pc : Array Value → State → Prop} {Qc : Array Value → State → Outcome → State → Prop} {mc ms : Nat} {free : Addr → Prop} {bytes : ByteArray} {maxL : Nat} {ret : Option FieldType}
    (hM : MetX l y ws rm Pc Qc mc ms free) (hblind : FrameBlind Pc) (hrc : rm.cells = mc) (hrs : rm.slots = ms) (hframes : rm.frames + 1 ≤ R.frames) (hlocals : 8 + (maxL + 11) + rm.locals ≤ R.locals)
    (hws : ∀ w ∈ ws, ∀ a' U, s.WarmedH U.vm → w.before a' U = true) (hcode : Cond.code y bytes maxL ret ∈ ws) (hinit : ∀ a' U, s.WarmedH U.vm → (Cond.initialized y.cls).before a' U = true)
    {U : State} {locs : List Loc} {cells slots : Nat} (X : Stand p l e R s m sargs below meth c U locs cells slots) {g : JFrame} {ig : Instr} {len : Nat} (hg : g.method = m) (hsize : g.locals.size = c.maxLocals) (hdg : decode c.code g.pc = .ok (ig, len)) (hW : 2 * g.monitorRoom + (g.stack.map fun v => v.category).sum ≤ 8)
    {mk : MethodId} (hn : U.methodNamed? y = some mk) {a : Array Value} (hcells : cells + mc ≤ R.cells) (hslots : slots + ms ≤ R.slots) (hPc : Pc a U) :
    ∃ (o : Outcome) (t T' : State) (L : List Loc), Stand p l e R s m sargs below meth c T' (locs ++ L) (cells + mc) (slots + ms) ∧ (∀ q ∈ L, free q.base) ∧ T'.heap = t.heap ∧ T'.vm = t.vm ∧ Qc a (U.calling g mk a) o t ∧
      ((∃ v, o = .returned v ∧ Steps p.tables e below (doInvoke e (U.setTop g) [] mk a).1 (T'.setTop { g with pc := g.pc + len, stack := v.toList ++ g.stack })) ∨
        ∃ x, o = .threw x ∧ Steps p.tables e below (doInvoke e (U.setTop g) [] mk a).1 ((T'.setTop g).pushFrame (.throwing x))) := by
  have h1 : (headSpec ws rm).pre.before a U = true := atoms_intro fun w hw => hws w hw a U X.warmed
  obtain ⟨methY, cY, hmY, hcY, -, hlY, -⟩ := Cond.code_spec hn (hws _ hcode a U X.warmed)
  obtain ⟨kY, hkY, -⟩ := className_of_methodNamed hn
  have hinitY : kY.init = .initialized := Cond.initialized_spec (findClass_of_methodNamed hn) hkY (hinit a U X.warmed)
  have h : At U g.method c below := by rw [hg]; exact X.here
  have happ : (headSpec ws rm).appliesLoose y e.platform (U.calling g mk a) = true :=
    Spec.appliesLoose_calling (g := g) h hdg hn hkY hinitY
      (X.room_calling (g := g) (R' := rm) hsize hmY hcY hframes (by rw [hlY]; omega) (by rw [hrc]; exact hcells) (by rw [hrs]; exact hslots)) h1
  obtain ⟨mid, hmid⟩ := h.above
  have hfr : (U.setTop g).frames = (.java g :: mid) ++ below := by rw [State.frames_setTop' g h.top, hmid]; rfl
  obtain ⟨o, s₂, hsteps, -, hend, hq, L, ⟨hW₂, hsame0⟩, hL⟩ := Steps.callFree hM p X.admits X.cas X.clock (acts := []) hfr happ (hblind _ _ _ _ hPc) trivial
  rw [State.frames_setTop' g h.top] at hend
  have hW' : U.WarmedH s₂.vm := hW₂
  cases o with
  | threw x =>
    rw [X.tail] at hend
    obtain ⟨T', X', hWT, hsT, ht⟩ := X.outOfThrown hg hend hW₂ hsame0
    refine ⟨.threw x, s₂, T', L, X', hL, ?_, ?_, hq, Or.inr ⟨x, rfl, ?_⟩⟩
    · rw [ht, Stand.throwing_heap]
    · rw [ht, Stand.throwing_vm]
    · rw [← ht]; exact hsteps
  | returned v =>
    obtain ⟨e2, q2, q3, q4, q5, q6⟩ := id hsame0
    have e3 : s₂ = ({ (U.calling g mk a).setFrames s₂.frames with heap := s₂.heap, slotsUsed := s₂.slotsUsed } : State).setVm s₂.vm := by
      have : s₂ = ({ s₂ with vm := (U.calling g mk a).vm } : State).setVm s₂.vm := rfl
      exact this.trans (congrArg (fun u : State => u.setVm s₂.vm) e2)
    obtain ⟨c₂, i₂, len₂, hc₂, hd₂, hf₂⟩ := hend
    have hcc : c₂ = c := by
      have h1 : s₂.code? g.method = U.code? g.method := by
        rw [State.code?_eq, State.code?_eq, hW'.alike.method?]
      exact Option.some.inj (hc₂.symm.trans (h1.trans h.code))
    subst hcc
    have hlen : len₂ = len := by rw [hdg] at hd₂; cases hd₂; rfl
    subst hlen
    obtain ⟨g₀, hg0⟩ := Option.isSome_iff_exists.mp h.top
    obtain ⟨r, hr⟩ := State.topJava?_eq_some.mp hg0
    have hs₂ : s₂ = (({ U with heap := s₂.heap, slotsUsed := s₂.slotsUsed } : State).setVm s₂.vm).setTop { g with pc := g.pc + len₂, stack := v.toList ++ g.stack } := by
      have hr' : (({ U with heap := s₂.heap, slotsUsed := s₂.slotsUsed } : State).setVm s₂.vm).frames = .java g₀ :: r := hr
      refine e3.trans ?_
      rw [hf₂, State.calling_eq h.top, State.setFrames_setFrames, State.setTop_of_frames _ hr', hr]
      rfl
    have hsame : U.sameButNew ({ U with heap := s₂.heap, slotsUsed := s₂.slotsUsed } : State) L mc ms := by
      refine ⟨?_, q2, q3, q4, q5, q6⟩
      obtain ⟨t, ht, -⟩ := State.frames_cons hr
      show ({ U with heap := s₂.heap, slotsUsed := s₂.slotsUsed } : State) = { U.setFrames U.frames with heap := s₂.heap, slotsUsed := s₂.slotsUsed }
      rw [State.setFrames_self ht]
    subst hg
    refine ⟨.returned v, s₂, (({ U with heap := s₂.heap, slotsUsed := s₂.slotsUsed } : State).setVm s₂.vm), L,
      ⟨X.admits, X.cas, X.clock, X.frames, X.room, X.hears, X.method, X.code, (X.here.setHeapUsed s₂.heap s₂.slotsUsed).setVm hW'.alike, X.tail, State.WarmedH.trans X.warmed hW', X.limits, X.bytes, X.same.trans (hsame.setVm s.vm)⟩,
      hL, rfl, rfl, hq, Or.inl ⟨v, rfl, ?_⟩⟩
    rw [← hs₂]
    exact hsteps
/-- what a method must have to be called -/
def CO (M : MI) : Prop := mX M = [] ∧ plainName (mY M).cls = true ∧ okM M ∧ Cond.code (mY M) (mB M) (mL M) (mR M) ∈ TT ∧ Cond.initialized (mY M).cls ∈ TT ∧ ((mY M).cls ≠ "java/lang/invoke/MethodHandle" ∧ (mY M).cls ≠ "java/lang/invoke/VarHandle")
/-- the room of a call -/
def rmOk (M M' : MI) (c sl : Nat) : Bool := Nat.ble ((mM M').frames + 1) (mM M).frames && (Nat.ble (8 + (mL M' + 11) + (mM M').locals) (mM M).locals && (Nat.ble (c + (mM M').cells) (mM M).cells && Nat.ble (sl + (mM M').slots) (mM M).slots))
theorem TT_at {args a' : Array Value} {s U : State} (hts : ∀ w ∈ TT, w.before args s = true) (hW : s.WarmedH U.vm) : ∀ w ∈ TT, w.before a' U = true := fun w hw => word_at hW (good_of_word (List.mem_filter.mp hw).2) (hts w hw)
theorem mws_size {g : Gm} {h : Hp} {H : Heap} (hP : va_P (g_D g) CL (mws g h) H) (ho : g_o g ≤ H.size) : g_o g + h.2.2.2.1.length ≤ H.size := by
  cases hl : h.2.2.2.1.length with
  | zero => exact ho
  | succ n =>
    have hn : n < h.2.2.2.1.length := by omega
    have h1 := (hP n _ (mws_at (g := g) (List.getElem?_eq_getElem hn))).lt
    simp only at h1
    omega
section ZC
variable {g : Gm} {M : MI} {c sl pc nx tg : Nat} {L : List (Option Value)} {st : List Value} {h : Hp} {Q : Rs → Hp → Prop}
theorem z_callG {M' : MI} {vs : List Value} {R : Rs → Hp → Prop} {ig : Instr} (hO : CO M') (hlen : Nat.ble (entL vs).length (mL M') = true) (hrm : rmOk M M' c sl = true) (hst : Nat.ble (st.map Value.category).sum 8 = true)
    (callee : Z g M' 0 0 0 (entryL vs (mL M')) [] h R) (kx : ∀ r h', R r h' → h'.2.2.2.2 = true → h.2.2.2.2 = true ∧ h'.2.2.2.1.length = h.2.2.2.1.length + (mM M').cells)
    (kr : ∀ v h', R (.inl v) h' → Z g M (c + (mM M').cells) (sl + (mM M').slots) (pc + 3) L (v.toList ++ st) h' Q) (kt : ∀ n h', R (.inr n) h' → mX M = [] ∧ Q (.inr n) h')
    {p : Program} {e : Env} {s : State} {m : MethodId} {args : Array Value} {below : List Frame} {meth : Method} {cd : Code} (hC : Cx g M p s m args meth cd) {locs : List Loc} {ls : Array Slot} {T : State} (hR : Rl g M c h L s T.heap locs ls) (X : Stand p (g_l g) e (mM M) s m args below meth cd T locs c sl)
    {g0 : JFrame} (hdg : decode cd.code pc = .ok (ig, 3))
    (inv : (h.2.2.2.2 = true → T.heap.size = g_o g + h.2.2.2.1.length) → ∃ (vm₁ : Vm) (mk : MethodId), Stand p (g_l g) e (mM M) s m args below meth cd (T.setVm vm₁) locs c sl ∧ s.methodNamed? (mY M') = some mk ∧ ∀ target, (∀ acts, Steps p.tables e below (doInvoke e ((T.setVm vm₁).setTop (F0 m pc ls (st.map (tr g)))) acts mk (vs.map (tr g)).toArray).1 target) → Steps p.tables e below (T.setTop g0) target) :
    ∃ t, Steps p.tables e below (T.setTop g0) t ∧ MX below (QX g Q) args s (mM M).cells (mM M).slots (zA g) t := by
  obtain ⟨hexec, hb, hml, hrt, hlk, hnm, hown, hts, hK, hU, hokM, hnoh⟩ := id hC
  obtain ⟨hP, hS, hL, hx⟩ := hR
  have hbase : g_o g ≤ T.heap.size := Nat.le_trans hU.2.2.2.2.1 hS.1
  have hsz : h.2.2.2.2 = true → T.heap.size = g_o g + h.2.2.2.1.length := fun q => by
    have q1 := hx q
    have q2 := X.heapSize
    have q3 := mws_size hP hbase
    omega
  obtain ⟨vm₁, mk, X₁, hnamed, hstep⟩ := inv hsz
  obtain ⟨hX', hpl, hok', hco, hini, hne⟩ := hO
  simp only [rmOk, Bool.and_eq_true] at hrm
  have hcx := callX (bytes := mB M') (maxL := mL M') (ret := mR M') (z_met hX' hpl hok' (Nat.le_of_ble_eq_true hlen) callee) zPc.blind rfl rfl (Nat.le_of_ble_eq_true hrm.1) (Nat.le_of_ble_eq_true hrm.2.1)
    (fun w hw a' U hW => by
      rcases List.mem_cons.mp hw with rfl | hw
      · exact TT_at hts hW _ hco
      · exact TT_at hts hW w hw)
    List.mem_cons_self (fun a' U hW => TT_at hts hW _ hini) X₁ (g := F0 m pc ls (st.map (tr g))) (ig := ig) (len := 3) rfl (hL.1.trans hml.symm) hdg
    (by
      have q := Nat.le_of_ble_eq_true hst
      have q2 : ((st.map (tr g)).map fun v => v.category) = st.map Value.category := by
        rw [List.map_map]
        exact List.map_congr_left fun v _ => tr_cat g v
      show 2 * 0 + ((st.map (tr g)).map fun v => v.category).sum ≤ 8
      rw [q2]
      omega)
    (X₁.named hnamed) (Nat.le_of_ble_eq_true hrm.2.2.1) (Nat.le_of_ble_eq_true hrm.2.2.2)
    (a := (vs.map (tr g)).toArray) ⟨rfl, zK.warm X₁.warmed hK, zU.kept X₁.warmed.alike hU hS.1 hS.2.1, hP, hsz⟩
  obtain ⟨o, t, T', L', X', hL', eH, eV, ⟨⟨r, h', hRr, hoK, hP'⟩, hF⟩, hout⟩ := hcx
  have hF1 : T.heap.size ≤ T'.heap.size := by rw [eH]; exact hF.1
  have hF2 : ∀ q : Nat, q < T.heap.size → ¬ zA g q → T'.heap[q]? = T.heap[q]? := fun q q1 q2 => by rw [eH]; exact hF.2 q q1 q2
  have hS' : va_S (zA g) s.heap T'.heap (locs ++ L') := ⟨Nat.le_trans hS.1 hF1, fun q q1 q2 => (hF2 q (Nat.lt_of_lt_of_le q1 hS.1) q2).trans (hS.2.1 q q1 q2), fun q hq => by
    rcases List.mem_append.mp hq with q1 | q1
    · exact hS.2.2 q q1
    · exact hL' q q1⟩
  have hx' : h'.2.2.2.2 = true → s.heap.size + (c + (mM M').cells) = g_o g + h'.2.2.2.1.length := fun q => by
    obtain ⟨q0, q1⟩ := kx r h' hRr q
    have q2 := hx q0
    omega
  rcases hout with ⟨v, rfl, hsteps⟩ | ⟨x, rfl, hsteps⟩
  · cases r with
    | inr n => obtain ⟨a, cell, q, -⟩ := hoK; cases q
    | inl v0 =>
      have hv : v = v0.map (tr g) := Outcome.returned.inj hoK
      subst hv
      obtain ⟨tt, hs2, hq2⟩ := kr v0 h' hRr p e s m args below meth cd hC T'.heap (locs ++ L') ls ⟨by rw [eH]; exact hP', hS', hL, hx'⟩ T' rfl X'
      refine ⟨tt, hstep _ (fun acts => by rw [doInvoke_state]; refine hsteps.trans ?_; cases v0 <;> exact hs2), hq2⟩
  · cases r with
    | inl v0 => cases hoK
    | inr n =>
      obtain ⟨a, cell, q, hcell, hst', hcls⟩ := hoK
      cases q
      obtain ⟨hXM, hq⟩ := kt n h' hRr
      have X2 := stand_widen X' (Nat.le_of_ble_eq_true hrm.2.2.1) (Nat.le_of_ble_eq_true hrm.2.2.2)
      have hno := hnoh hXM
      obtain ⟨s1, s2, s3, s4, s5⟩ := X2.leaveThrown x (g := F0 m pc ls (st.map (tr g))) rfl rfl rfl (fun y hy => by
        have : cd.exceptionTable.toList = [] := by simpa using hno
        rw [this] at hy
        cases hy) hlk
      refine ⟨_, hstep _ (fun acts => by rw [doInvoke_state]; exact hsteps.trans s1), .threw x, s2, s3, ⟨⟨.inr n, h', hq, ⟨x, cell, rfl, ?_, hst', ?_⟩, ?_⟩, ?_⟩, locs ++ L', ⟨s4, s5⟩, hS'.2.2⟩
      · show T'.heap[x]? = some cell
        rw [eH]; exact hcell
      · show T'.vm.findClass _ = _
        rw [eV]; exact hcls
      · show va_P _ _ _ T'.heap
        rw [eH]; exact hP'
      · exact hS'.F rfl
theorem z_cv {M' : MI} {ix k ci : Nat} {R : Rs → Hp → Prop} (as : List Value) (hi : fI M pc = some (.invokevirtual ix, 3, nx, tg)) (hl : Cond.methodLink (mY M).cls ix (mY M') ∈ TT) (hO : CO M') (hin : Cond.instanceMethod (mY M') ∈ TT) (hse : Cond.selects (mY M').cls (mY M') (mY M') ∈ TT)
    (hn : (parseMethodDescriptor (mY M').desc).map (fun d => d.parameters.length) = some as.length) (hT : h.2.2.2.1[k]? = some (0, ci)) (hci : ci < 8) (hcc : cC ci = (mY M').cls)
    (hlen : Nat.ble (entL (.ref k :: as)).length (mL M') = true) (hrm : rmOk M M' c sl = true) (hst : Nat.ble (st.map Value.category).sum 8 = true)
    (callee : Z g M' 0 0 0 (entryL (.ref k :: as) (mL M')) [] h R) (kx : ∀ r h', R r h' → h'.2.2.2.2 = true → h.2.2.2.2 = true ∧ h'.2.2.2.1.length = h.2.2.2.1.length + (mM M').cells)
    (kr : ∀ v h', R (.inl v) h' → Z g M (c + (mM M').cells) (sl + (mM M').slots) nx L (v.toList ++ st) h' Q) (kt : ∀ n h', R (.inr n) h' → mX M = [] ∧ Q (.inr n) h') : Z g M c sl pc L (as.reverse ++ .ref k :: st) h Q := by
  intro p e s m args below meth cd hC H locs ls hR T hTH X
  obtain ⟨hd, hnx, -⟩ := fI_ok hC.2.2.2.2.2.2.2.2.2.2.1 hi
  subst hnx
  subst hTH
  obtain ⟨hexec, hb, hml, hrt, hlk, hnm, hown, hts, hK, hU, hokM, hnoh⟩ := id hC
  have hdg : decode cd.code pc = .ok (.invokevirtual ix, 3) := by rw [hb]; exact hd
  refine z_callG hO hlen hrm hst callee kx kr kt hC hR X hdg (fun _ => ?_)
  obtain ⟨cellB, hcB, hoB, hclB⟩ := va_recv hK.1 hR.1 (kc ci hci) (mws_at hT)
  obtain ⟨mk, methM, hnamed, hmethM, hstM, habM⟩ := Cond.instanceMethod_spec (hts _ hin)
  obtain ⟨methM', cM, hmethM', -, -, -, -, -, -, hsigM⟩ := Cond.code_spec hnamed (hts _ hO.2.2.2.1)
  cases hmethM.symm.trans hmethM'
  obtain ⟨c2, r2, m2, q1, q2, q3, q4, kP, hkP, hkPi⟩ := Cond.selects_spec (hts _ hse)
  have hclB' : s.vm.findClass (mY M').cls = some cellB.cls := by rw [← hcc]; exact hclB
  cases hclB'.symm.trans q1
  cases (State.methodFound?_of_named hnamed hO.2.2.2.2.2).symm.trans q2
  cases hnamed.symm.trans q3
  have hselP : selectMethod e.platform s.vm cellB.cls mk = .method mk := by rw [Launch.admits_selectMethod X.admits]; exact q4
  obtain ⟨vm₁, X₁, hstep₁⟩ := X.invokevirtual hexec hown (hts _ hl) hnamed hmethM hstM hkP hkPi hO.2.2.2.2.2 (a := g_o g + k) (cell := cellB) hcB
    (fun z h => by rw [h] at hoB; cases hoB) hselP hmethM habM hkP hkPi (g := F0 m pc ls ((as.reverse ++ .ref k :: st).map (tr g))) rfl (argsL := as.map (tr g)) (rest := st.map (tr g))
    (by rw [hsigM] at hn; rw [List.length_map]; exact (Option.some.inj hn).symm) (by simp [tr]) hdg
  exact ⟨vm₁, mk, X₁, hnamed, hstep₁⟩
theorem z_cs {M' : MI} {ix : Nat} {R : Rs → Hp → Prop} (as : List Value) (hi : fI M pc = some (.invokestatic ix, 3, nx, tg)) (hl : Cond.methodLink (mY M).cls ix (mY M') ∈ TT) (hO : CO M') (hsta : Cond.static (mY M') ∈ TT)
    (hn : (parseMethodDescriptor (mY M').desc).map (fun d => d.parameters.length) = some as.length)
    (hlen : Nat.ble (entL as).length (mL M') = true) (hrm : rmOk M M' c sl = true) (hst : Nat.ble (st.map Value.category).sum 8 = true)
    (callee : Z g M' 0 0 0 (entryL as (mL M')) [] h R) (kx : ∀ r h', R r h' → h'.2.2.2.2 = true → h.2.2.2.2 = true ∧ h'.2.2.2.1.length = h.2.2.2.1.length + (mM M').cells)
    (kr : ∀ v h', R (.inl v) h' → Z g M (c + (mM M').cells) (sl + (mM M').slots) nx L (v.toList ++ st) h' Q) (kt : ∀ n h', R (.inr n) h' → mX M = [] ∧ Q (.inr n) h') : Z g M c sl pc L (as.reverse ++ st) h Q := by
  intro p e s m args below meth cd hC H locs ls hR T hTH X
  obtain ⟨hd, hnx, -⟩ := fI_ok hC.2.2.2.2.2.2.2.2.2.2.1 hi
  subst hnx
  subst hTH
  obtain ⟨hexec, hb, hml, hrt, hlk, hnm, hown, hts, hK, hU, hokM, hnoh⟩ := id hC
  have hdg : decode cd.code pc = .ok (.invokestatic ix, 3) := by rw [hb]; exact hd
  refine z_callG hO hlen hrm hst callee kx kr kt hC hR X hdg (fun _ => ?_)
  obtain ⟨mk, hnamed⟩ := Cond.code_named (hts _ hO.2.2.2.1)
  obtain ⟨methM, cM, hmethM, -, -, -, -, -, -, hsigM⟩ := Cond.code_spec hnamed (hts _ hO.2.2.2.1)
  have hstatic : methM.isStatic = true := Cond.static_spec hnamed hmethM (hts _ hsta)
  obtain ⟨kP, hkP, -⟩ := className_of_methodNamed hnamed
  have hinitP : kP.init = .initialized := Cond.initialized_spec (findClass_of_methodNamed hnamed) hkP (hts _ hO.2.2.2.2.1)
  obtain ⟨vm₁, X₁, hstep₁⟩ := X.invokestatic hexec hown (hts _ hl) hnamed hmethM hstatic hkP hinitP hO.2.2.2.2.2 (g := F0 m pc ls ((as.reverse ++ st).map (tr g))) rfl (argsL := as.map (tr g)) (rest := st.map (tr g))
    (by rw [hsigM] at hn; rw [List.length_map]; exact (Option.some.inj hn).symm) (by simp) hdg
  exact ⟨vm₁, mk, X₁, hnamed, hstep₁⟩
theorem z_ci {M' : MI} {ix k : Nat} {R : Rs → Hp → Prop} (as : List Value) (hi : fI M pc = some (.invokespecial ix, 3, nx, tg)) (hl : Cond.methodLink (mY M).cls ix (mY M') ∈ TT) (hO : CO M') (hin : Cond.instanceMethod (mY M') ∈ TT) (hy1 : (mY M').name = "<init>") (hret : mR M' = none)
    (hn : (parseMethodDescriptor (mY M').desc).map (fun d => d.parameters.length) = some as.length)
    (hlen : Nat.ble (entL (.ref k :: as)).length (mL M') = true) (hrm : rmOk M M' c sl = true) (hst : Nat.ble (st.map Value.category).sum 8 = true)
    (callee : Z g M' 0 0 0 (entryL (.ref k :: as) (mL M')) [] h R) (kx : ∀ r h', R r h' → h'.2.2.2.2 = true → h.2.2.2.2 = true ∧ h'.2.2.2.1.length = h.2.2.2.1.length + (mM M').cells)
    (kr : ∀ v h', R (.inl v) h' → Z g M (c + (mM M').cells) (sl + (mM M').slots) nx L (v.toList ++ st) h' Q) (kt : ∀ n h', R (.inr n) h' → mX M = [] ∧ Q (.inr n) h') : Z g M c sl pc L (as.reverse ++ .ref k :: st) h Q := by
  intro p e s m args below meth cd hC H locs ls hR T hTH X
  obtain ⟨hd, hnx, -⟩ := fI_ok hC.2.2.2.2.2.2.2.2.2.2.1 hi
  subst hnx
  subst hTH
  obtain ⟨hexec, hb, hml, hrt, hlk, hnm, hown, hts, hK, hU, hokM, hnoh⟩ := id hC
  have hdg : decode cd.code pc = .ok (.invokespecial ix, 3) := by rw [hb]; exact hd
  refine z_callG hO hlen hrm hst callee kx kr kt hC hR X hdg (fun _ => ?_)
  have hpl : e.platform.magicAccessors = ({} : Platform).magicAccessors := by rw [X.admits.platform]
  have hco := hts _ hO.2.2.2.1
  rw [hret] at hco
  obtain ⟨mk, methM, cM, kP, vm₁, hnamed, hmethM, hcodeM, -, hlocalsM, -, hkP, -, hW₁, hstep₁⟩ := Steps.initColdArgs (e := e) X.here hexec X.warmed hpl hown hy1 hO.2.2.2.2.2 (hts _ hl) (hts _ hin) hco (f := F0 m pc ls ((as.reverse ++ .ref k :: st).map (tr g))) (a := g_o g + k) (argsL := as.map (tr g)) (rest := st.map (tr g)) rfl
    (fun sig hs => by rw [hs] at hn; rw [List.length_map]; exact (Option.some.inj hn).symm) (by simp [tr]) hdg
  exact ⟨vm₁, mk, X.noted hW₁, hnamed, hstep₁⟩
theorem z_cin {M' : MI} {ix k : Nat} {R : Rs → Hp → Prop} (as : List Value) (hi : fI M pc = some (.invokespecial ix, 3, nx, tg)) {host : String} (hl : ∀ U, zK g U → va_Nw (.methodLinkNest (mY M).cls ix (mY M') host) U) (hO : CO M') (hin : Cond.instanceMethod (mY M') ∈ TT) (hy1 : (mY M').name = "<init>") (hret : mR M' = none)
    (hn : (parseMethodDescriptor (mY M').desc).map (fun d => d.parameters.length) = some as.length)
    (hlen : Nat.ble (entL (.ref k :: as)).length (mL M') = true) (hrm : rmOk M M' c sl = true) (hst : Nat.ble (st.map Value.category).sum 8 = true)
    (callee : Z g M' 0 0 0 (entryL (.ref k :: as) (mL M')) [] h R) (kx : ∀ r h', R r h' → h'.2.2.2.2 = true → h.2.2.2.2 = true ∧ h'.2.2.2.1.length = h.2.2.2.1.length + (mM M').cells)
    (kr : ∀ v h', R (.inl v) h' → Z g M (c + (mM M').cells) (sl + (mM M').slots) nx L (v.toList ++ st) h' Q) (kt : ∀ n h', R (.inr n) h' → mX M = [] ∧ Q (.inr n) h') : Z g M c sl pc L (as.reverse ++ .ref k :: st) h Q := by
  intro p e s m args below meth cd hC H locs ls hR T hTH X
  obtain ⟨hd, hnx, -⟩ := fI_ok hC.2.2.2.2.2.2.2.2.2.2.1 hi
  subst hnx
  subst hTH
  obtain ⟨hexec, hb, hml, hrt, hlk, hnm, hown, hts, hK, hU, hokM, hnoh⟩ := id hC
  have hdg : decode cd.code pc = .ok (.invokespecial ix, 3) := by rw [hb]; exact hd
  refine z_callG hO hlen hrm hst callee kx kr kt hC hR X hdg (fun _ => ?_)
  have hpl : e.platform.magicAccessors = ({} : Platform).magicAccessors := by rw [X.admits.platform]
  have hco := hts _ hO.2.2.2.1
  rw [hret] at hco
  obtain ⟨mk, methM, cM, kP, vm₁, hnamed, hmethM, hcodeM, -, hlocalsM, -, hkP, -, hW₁, hstep₁⟩ := Steps.initColdArgsNest (e := e) X.here hexec X.warmed hpl hown hy1 hO.2.2.2.2.2 (va_Nw.use rfl (hl s hK)) (hts _ hin) hco (f := F0 m pc ls ((as.reverse ++ .ref k :: st).map (tr g))) (a := g_o g + k) (argsL := as.map (tr g)) (rest := st.map (tr g)) rfl
    (fun sig hs => by rw [hs] at hn; rw [List.length_map]; exact (Option.some.inj hn).symm) (by simp [tr]) hdg
  exact ⟨vm₁, mk, X.noted hW₁, hnamed, hstep₁⟩
end ZC
end
section
theorem kc_def : ∀ ci : Nat, ci < 8 → ∀ j, j < cN ci → ∀ o : Nat, defaultValue (cT ci j) = vp_V (mfs o (fun _ => 0) (fun _ => none) 0 (fk ci)) j
  | 0, _ => fun j hj o => by
    have hj : j < 6 := hj
    match j, hj with
    | 0, _ => rfl
    | 1, _ => rfl
    | 2, _ => rfl
    | 3, _ => rfl
    | 4, _ => rfl
    | 5, _ => rfl
    | k + 6, h => exact absurd h (by omega)
  | 1, _ => fun j hj o => by
    have hj : j < 3 := hj
    match j, hj with
    | 0, _ => rfl
    | 1, _ => rfl
    | 2, _ => rfl
    | k + 3, h => exact absurd h (by omega)
  | 2, _ => fun j hj o => by
    have hj : j < 5 := hj
    match j, hj with
    | 0, _ => rfl
    | 1, _ => rfl
    | 2, _ => rfl
    | 3, _ => rfl
    | 4, _ => rfl
    | k + 5, h => exact absurd h (by omega)
  | 3, _ => fun j hj o => by
    have hj : j < 4 := hj
    match j, hj with
    | 0, _ => rfl
    | 1, _ => rfl
    | 2, _ => rfl
    | 3, _ => rfl
    | k + 4, h => exact absurd h (by omega)
  | 4, _ => fun j hj o => by
    have hj : j < 3 := hj
    match j, hj with
    | 0, _ => rfl
    | 1, _ => rfl
    | 2, _ => rfl
    | k + 3, h => exact absurd h (by omega)
  | 5, _ => fun j hj o => by
    have hj : j < 8 := hj
    match j, hj with
    | 0, _ => rfl
    | 1, _ => rfl
    | 2, _ => rfl
    | 3, _ => rfl
    | 4, _ => rfl
    | 5, _ => rfl
    | 6, _ => rfl
    | 7, _ => rfl
    | k + 8, h => exact absurd h (by omega)
  | 6, _ => fun j hj o => by
    have hj : j < 4 := hj
    match j, hj with
    | 0, _ => rfl
    | 1, _ => rfl
    | 2, _ => rfl
    | 3, _ => rfl
    | k + 4, h => exact absurd h (by omega)
  | 7, _ => fun j hj o => by
    have hj : j < 19 := hj
    match j, hj with
    | 0, _ => rfl
    | 1, _ => rfl
    | 2, _ => rfl
    | 3, _ => rfl
    | 4, _ => rfl
    | 5, _ => rfl
    | 6, _ => rfl
    | 7, _ => rfl
    | 8, _ => rfl
    | 9, _ => rfl
    | 10, _ => rfl
    | 11, _ => rfl
    | 12, _ => rfl
    | 13, _ => rfl
    | 14, _ => rfl
    | 15, _ => rfl
    | 16, _ => rfl
    | 17, _ => rfl
    | 18, _ => rfl
    | k + 19, h => exact absurd h (by omega)
  | k + 8, h => absurd h (by omega)
/-! The layer Z: calls into the JDK (max, min, abs, arraycopy, Object's constructor), making objects and arrays -/
section ZM
variable {g : Gm} {M : MI} {c sl pc nx tg : Nat} {L : List (Option Value)} {st : List Value} {h : Hp} {Q : Rs → Hp → Prop}
theorem cats (g : Gm) (st : List Value) : ((st.map (tr g)).map fun v => v.category) = st.map Value.category := by
  rw [List.map_map]
  exact List.map_congr_left fun v _ => tr_cat g v
def libOk (M : MI) (st : List Value) (c sl n : Nat) : Bool := Nat.ble 1 (mM M).frames && (Nat.ble ((st.map Value.category).sum + n) (mM M).locals && (Nat.ble c (mM M).cells && Nat.ble sl (mM M).slots))
theorem z_max {ix : Nat} {x y : Int32} (hi : fI M pc = some (.invokestatic ix, 3, nx, tg)) (hl : Cond.methodLink (mY M).cls ix Lib.Math.max.name ∈ TT) (h1 : Cond.static Lib.Math.max.name ∈ TT) (h2 : Cond.initialized "java/lang/Math" ∈ TT) (h3 : Cond.code Lib.Math.max.name Lib.Math.max.code 2 (some .int) ∈ TT) (hb : libOk M st c sl 13 = true)
    (k : Z g M c sl nx L (.int (if x < y then y else x) :: st) h Q) : Z g M c sl pc L (.int y :: .int x :: st) h Q := by
  intro p e s m args below meth cd hC H locs ls hR
  obtain ⟨hd, hn, ht⟩ := fI_ok hC.2.2.2.2.2.2.2.2.2.2.1 hi
  subst hn
  simp only [libOk, Bool.and_eq_true] at hb
  have hts := hC.2.2.2.2.2.2.2.1
  exact va_mmax hC.1 hC.2.1 (hC.2.2.1.trans hR.2.2.1.1.symm) hC.2.2.2.2.2.2.1 (hts _ hl) (hts _ h1) (hts _ h2) (hts _ h3) (Nat.le_of_ble_eq_true hb.1) (by rw [cats]; exact Nat.le_of_ble_eq_true hb.2.1) (Nat.le_of_ble_eq_true hb.2.2.1) (Nat.le_of_ble_eq_true hb.2.2.2) hd (k p e s m args below meth cd hC H locs ls hR)
theorem z_min {ix : Nat} {x y : Int32} (hi : fI M pc = some (.invokestatic ix, 3, nx, tg)) (hl : Cond.methodLink (mY M).cls ix Lib.Math.min.name ∈ TT) (h1 : Cond.static Lib.Math.min.name ∈ TT) (h2 : Cond.initialized "java/lang/Math" ∈ TT) (h3 : Cond.code Lib.Math.min.name Lib.Math.min.code 2 (some .int) ∈ TT) (hb : libOk M st c sl 13 = true)
    (k : Z g M c sl nx L (.int (if y < x then y else x) :: st) h Q) : Z g M c sl pc L (.int y :: .int x :: st) h Q := by
  intro p e s m args below meth cd hC H locs ls hR
  obtain ⟨hd, hn, ht⟩ := fI_ok hC.2.2.2.2.2.2.2.2.2.2.1 hi
  subst hn
  simp only [libOk, Bool.and_eq_true] at hb
  have hts := hC.2.2.2.2.2.2.2.1
  exact va_mmin hC.1 hC.2.1 (hC.2.2.1.trans hR.2.2.1.1.symm) hC.2.2.2.2.2.2.1 (hts _ hl) (hts _ h1) (hts _ h2) (hts _ h3) (Nat.le_of_ble_eq_true hb.1) (by rw [cats]; exact Nat.le_of_ble_eq_true hb.2.1) (Nat.le_of_ble_eq_true hb.2.2.1) (Nat.le_of_ble_eq_true hb.2.2.2) hd (k p e s m args below meth cd hC H locs ls hR)
theorem z_abs {ix : Nat} {x : Int32} (hi : fI M pc = some (.invokestatic ix, 3, nx, tg)) (hl : Cond.methodLink (mY M).cls ix Lib.Math.abs.name ∈ TT) (h1 : Cond.static Lib.Math.abs.name ∈ TT) (h2 : Cond.initialized "java/lang/Math" ∈ TT) (h3 : Cond.code Lib.Math.abs.name Lib.Math.abs.code 1 (some .int) ∈ TT) (hb : libOk M st c sl 13 = true)
    (k : Z g M c sl nx L (.int (if 0 ≤ x then x else 0 - x) :: st) h Q) : Z g M c sl pc L (.int x :: st) h Q := by
  intro p e s m args below meth cd hC H locs ls hR
  obtain ⟨hd, hn, ht⟩ := fI_ok hC.2.2.2.2.2.2.2.2.2.2.1 hi
  subst hn
  simp only [libOk, Bool.and_eq_true] at hb
  have hts := hC.2.2.2.2.2.2.2.1
  exact va_mabs hC.1 hC.2.1 (hC.2.2.1.trans hR.2.2.1.1.symm) hC.2.2.2.2.2.2.1 (hts _ hl) (hts _ h1) (hts _ h2) (hts _ h3) (Nat.le_of_ble_eq_true hb.1) (by rw [cats]; exact Nat.le_of_ble_eq_true hb.2.1) (Nat.le_of_ble_eq_true hb.2.2.1) (Nat.le_of_ble_eq_true hb.2.2.2) hd (k p e s m args below meth cd hC H locs ls hR)
theorem z_objInit {ix k : Nat} (hi : fI M pc = some (.invokespecial ix, 3, nx, tg)) (hl : Cond.methodLink (mY M).cls ix Lib.objectInit ∈ TT) (h1 : Cond.instanceMethod Lib.objectInit ∈ TT) (h2 : Cond.code Lib.objectInit ⟨#[0xb1]⟩ 1 none ∈ TT) (hb : libOk M st c sl 12 = true)
    (kk : Z g M c sl nx L st h Q) : Z g M c sl pc L (.ref k :: st) h Q := by
  intro p e s m args below meth cd hC H locs ls hR
  obtain ⟨hd, hn, ht⟩ := fI_ok hC.2.2.2.2.2.2.2.2.2.2.1 hi
  subst hn
  simp only [libOk, Bool.and_eq_true] at hb
  have hts := hC.2.2.2.2.2.2.2.1
  refine W.objInit hC.1 hC.2.1 hC.2.2.2.2.2.2.1 (hts _ hl) (hts _ h1) (hts _ h2) rfl (hR.2.2.1.1.trans hC.2.2.1.symm) rfl hd (Nat.le_of_ble_eq_true hb.1) ?_ (kk p e s m args below meth cd hC H locs ls hR)
  show 2 * 0 + ((st.map (tr g)).map fun v => v.category).sum + 12 ≤ _
  rw [cats, Nat.mul_zero, Nat.zero_add]
  exact Nat.le_of_ble_eq_true hb.2.1
theorem z_copyi {ix k0 k1 n0 n1 : Nat} {sp dp n : Int32} (hi : fI M pc = some (.invokestatic ix, 3, nx, tg)) (hl : Cond.methodLink (mY M).cls ix arraycopyName ∈ TT) (w1 : Cond.native arraycopyName ∈ TT) (w2 : Cond.static arraycopyName ∈ TT) (w3 : Cond.initialized "java/lang/System" ∈ TT) (hb : libOk M st c sl (nativeFrameWords "java/lang/System" "arraycopy" 5 + 11) = true)
    (hT0 : h.2.2.2.1[k0]? = some (1, n0)) (hT1 : h.2.2.2.1[k1]? = some (1, n1)) (h1 : ¬ sp < 0) (h2 : ¬ dp < 0) (h3 : ¬ n < 0) (h4 : sp.toNatClampNeg + n.toNatClampNeg ≤ n0) (h5 : dp.toNatClampNeg + n.toNatClampNeg ≤ n1)
    (kk : Z g M c sl nx L st (cpy2 h.1 k0 k1 sp.toNatClampNeg dp.toNatClampNeg n.toNatClampNeg, h.2) Q) : Z g M c sl pc L (.int n :: .int dp :: .ref k1 :: .int sp :: .ref k0 :: st) h Q := by
  intro p e s m args below meth cd hC H locs ls hR
  obtain ⟨hd, hn, ht⟩ := fI_ok hC.2.2.2.2.2.2.2.2.2.2.1 hi
  subst hn
  simp only [libOk, Bool.and_eq_true] at hb
  have hts := hC.2.2.2.2.2.2.2.1
  obtain ⟨hP, hS, hL, hx⟩ := hR
  refine va_copyi hC.1 hC.2.1 (hC.2.2.1.trans hL.1.symm) hC.2.2.2.2.2.2.1 (hts _ hl) (hts _ w1) (hts _ w2) (hts _ w3) hC.2.2.2.2.2.2.2.2.1.1 hP mD hS k0 k1 0 0 (mws_at hT0) (mws_at hT1) rfl rfl rfl h1 h2 h3 h4 h5 (fun i _ => rfl) (Nat.le_of_ble_eq_true hb.1) (by rw [cats]; exact Nat.le_of_ble_eq_true hb.2.1) hd ?_
  intro H1 locs1 hP1 _ hS1
  refine kk p e s m args below meth cd hC H1 locs1 ls ⟨?_, hS1, hL, hx⟩
  rw [mws_set (g := g) (h := h) (h' := (cpy2 h.1 k0 k1 sp.toNatClampNeg dp.toNatClampNeg n.toNatClampNeg, h.2)) rfl hT1 ?_ ?_] at hP1
  · exact hP1
  · show mce g (cpy2 h.1 k0 k1 sp.toNatClampNeg dp.toNatClampNeg n.toNatClampNeg, h.2) k1 (1, n1) = _
    simp only [mce, cpy2_row]
  · intro j' ct' hj'
    refine mce_cg ?_ ?_ ?_ ct' <;> first | rfl | exact cpy2_ne _ _ _ _ _ _ _ hj'
/-! making -/
def rs2 {α : Type} (S : Nat → Nat → α) (k : Nat) (f : Nat → α) : Nat → Nat → α := fun a => if a = k then f else S a
def newH (h : Hp) (ct : Nat × Nat) : Hp := (rs2 h.1 h.2.2.2.1.length (fun _ => 0), rs2 h.2.1 h.2.2.2.1.length (fun _ => 0), rs2 h.2.2.1 h.2.2.2.1.length (fun _ => none), h.2.2.2.1 ++ [ct], h.2.2.2.2)
theorem mws_new (g : Gm) (h : Hp) (ct : Nat × Nat) : mws g (newH h ct) = mws g h ++ [(g_o g + h.2.2.2.1.length, mce g (newH h ct) h.2.2.2.1.length ct)] := by
  apply List.ext_getElem?
  intro i
  by_cases hi : i < h.2.2.2.1.length
  · obtain ⟨ct', hc⟩ : ∃ ct', h.2.2.2.1[i]? = some ct' := ⟨_, List.getElem?_eq_getElem hi⟩
    rw [List.getElem?_append_left (by rw [mws_len]; exact hi), mws_at hc, mws_at (h := newH h ct) (ct := ct') (by show (h.2.2.2.1 ++ [ct])[i]? = _; rw [List.getElem?_append_left hi]; exact hc)]
    have hne : i ≠ h.2.2.2.1.length := Nat.ne_of_lt hi
    rw [mce_cg (h := h) (h' := newH h ct) (by simp [newH, rs2, hne]) (by simp [newH, rs2, hne]) (by simp [newH, rs2, hne])]
  · by_cases he : i = h.2.2.2.1.length
    · subst he
      rw [mws_at (h := newH h ct) (ct := ct) (by show (h.2.2.2.1 ++ [ct])[_]? = _; simp), List.getElem?_append_right (by rw [mws_len]; exact Nat.le_refl _), mws_len, Nat.sub_self]
      rfl
    · rw [List.getElem?_eq_none (by rw [mws_len]; show (h.2.2.2.1 ++ [ct]).length ≤ i; simp; omega), List.getElem?_eq_none (by simp [mws_len]; omega)]
/-- where the next cell comes to lie -/
theorem z_at {p : Program} {e : Env} {s : State} {m : MethodId} {args : Array Value} {below : List Frame} {meth : Method} {cd : Code} (hC : Cx g M p s m args meth cd) {locs : List Loc} {ls : Array Slot} {T : State} (hR : Rl g M c h L s T.heap locs ls) (X : Stand p (g_l g) e (mM M) s m args below meth cd T locs c sl) (hx : h.2.2.2.2 = true) : T.heap.size = g_o g + h.2.2.2.1.length := by
  have q1 := hR.2.2.2 hx
  have q2 := X.heapSize
  have q3 := mws_size hR.1 (Nat.le_trans hC.2.2.2.2.2.2.2.2.2.1.2.2.2.2.1 hR.2.1.1)
  omega
theorem va_P.push1 {D : va_G} {cl : List vw_C} {ws : va_W} {H H1 : Heap} {q : Nat × va_E} (hP : va_P D cl ws H) (o1 : ∀ a : Nat, a < H.size → H1[a]? = H[a]?) (he : va_at D cl q H1) : va_P D cl (ws ++ [q]) H1 := by
  refine (hP.kept fun k x hx => o1 x.1 ((hP k x hx).lt)).app (fun k x hx => ?_)
  have hz : k < 1 := (List.getElem?_eq_some_iff.mp hx).1
  rw [show k = 0 by omega] at hx
  cases hx
  exact he
theorem va_S.grow {A : Nat → Prop} {H0 H H1 : Heap} {locs : List Loc} (hS : va_S A H0 H locs) (z1 : H1.size = H.size + 1) (o1 : ∀ a : Nat, a < H.size → H1[a]? = H[a]?) : va_S A H0 H1 locs :=
  ⟨Nat.le_trans hS.1 (by omega), fun x h1 h2 => (o1 x (Nat.lt_of_lt_of_le h1 hS.1)).trans (hS.2.1 x h1 h2), hS.2.2⟩
theorem z_new {ix ci : Nat} (hi : fI M pc = some (.new ix, 3, nx, tg)) (hci : ci < 8) (hw : Cond.classLink (mY M).cls ix (cC ci) ∈ TT) (h1 : Cond.instantiable (cC ci) (cN ci) ∈ TT) (h2 : Cond.initialized (cC ci) ∈ TT) (hx : h.2.2.2.2 = true) (hc : Nat.ble (c + 1) (mM M).cells = true) (hs : Nat.ble (sl + cN ci) (mM M).slots = true)
    (kk : Z g M (c + 1) (sl + cN ci) nx L (.ref h.2.2.2.1.length :: st) (newH h (0, ci)) Q) : Z g M c sl pc L st h Q := by
  intro p e s m args below meth cd hC H locs ls hR T hTH X
  obtain ⟨hd, hn, -⟩ := fI_ok hC.2.2.2.2.2.2.2.2.2.2.1 hi
  subst hn
  subst hTH
  have hsz := z_at hC hR X hx
  obtain ⟨hP, hS, hL, hxx⟩ := hR
  have hts := hC.2.2.2.2.2.2.2.1
  have hKn := hC.2.2.2.2.2.2.2.2.1.1.1 ci _ (kc ci hci)
  have K : W p (g_l g) e (mM M) s m args below meth cd T.heap locs c sl (MX below (QX g Q) args s (mM M).cells (mM M).slots (zA g)) (F0 m pc ls (st.map (tr g))) := by
    refine W.newcK hC.1 hC.2.1 hC.2.2.2.2.2.2.1 (hts _ hw) (hts _ h1) (hts _ h2) rfl hd (Nat.le_of_ble_eq_true hc) (Nat.le_of_ble_eq_true hs) hKn.2.1 hsz (fun H1 kC hkC e1 z1 o1 => ?_)
    rw [← hsz] at z1 o1
    refine kk p e s m args below meth cd hC H1 locs ls ⟨?_, hS.grow z1 o1, hL, fun q => ?_⟩
    · rw [mws_new]
      refine hP.push1 o1 ⟨_, kc ci hci, ?_⟩
      refine (u_born (cT ci) hts (kc_in ci hci) hKn hkC e1 (kc_ty ci hci)).to (fun j hj => ?_)
      show defaultValue (cT ci j) = vp_V (mfs (g_o g) ((newH h (0, ci)).1 h.2.2.2.1.length) ((newH h (0, ci)).2.2.1 h.2.2.2.1.length) 0 (fk ci)) j
      rw [show (newH h (0, ci)).1 h.2.2.2.1.length = fun _ => 0 by simp [newH, rs2], show (newH h (0, ci)).2.2.1 h.2.2.2.1.length = fun _ => none by simp [newH, rs2]]
      exact kc_def ci hci j hj (g_o g)
    · have q1 := hxx hx
      show s.heap.size + (c + 1) = g_o g + (h.2.2.2.1 ++ [(0, ci)]).length
      rw [List.length_append, List.length_singleton]
      omega
  exact K T rfl X
theorem z_newarr {at0 : ArrayType} {kd N : Nat} {n : Int32} (hi : fI M pc = some (.newarray at0, 2, nx, tg)) (ht0 : (at0, kd) = (.int, 1) ∨ (at0, kd) = (.boolean, 2) ∨ (at0, kd) = (.long, 3)) (hw : Cond.arrayClass (newarray.typeOf at0) ∈ TT) (hx : h.2.2.2.2 = true) (hn0 : ¬ n < 0) (hN : n.toNatClampNeg = N) (hN1 : Nat.ble N 1000 = true) (hc : Nat.ble (c + 1) (mM M).cells = true) (hs : Nat.ble (sl + N) (mM M).slots = true)
    (kk : Z g M (c + 1) (sl + N) nx L (.ref h.2.2.2.1.length :: st) (newH h (kd, N)) Q) : Z g M c sl pc L (.int n :: st) h Q := by
  intro p e s m args below meth cd hC H locs ls hR T hTH X
  obtain ⟨hd, hn, -⟩ := fI_ok hC.2.2.2.2.2.2.2.2.2.2.1 hi
  subst hn
  subst hTH
  have hsz := z_at hC hR X hx
  obtain ⟨hP, hS, hL, hxx⟩ := hR
  have hts := hC.2.2.2.2.2.2.2.1
  have hK := hC.2.2.2.2.2.2.2.2.1.1
  have hN2 := Nat.le_of_ble_eq_true hN1
  have hby : N * componentBytes (newarray.typeOf at0) ≤ 536870912 := by
    rcases ht0 with q | q | q <;> cases q <;> (simp only [newarray.typeOf, componentBytes]; omega)
  have K : W p (g_l g) e (mM M) s m args below meth cd T.heap locs c sl (MX below (QX g Q) args s (mM M).cells (mM M).slots (zA g)) (F0 m pc ls (.int n :: st.map (tr g))) := by
    refine va_newaK hC.1 hC.2.1 (hts _ hw) rfl hd rfl hn0 hN hby (Nat.le_of_ble_eq_true hc) (Nat.le_of_ble_eq_true hs) hsz (fun H1 cA e1 z1 o1 _ hNm => ?_)
    rw [← hsz] at z1 o1
    refine kk p e s m args below meth cd hC H1 locs ls ⟨?_, hS.grow z1 o1, hL, fun q => ?_⟩
    · rw [mws_new]
      refine hP.push1 o1 ?_
      rcases ht0 with q | q | q <;> cases q
      · have hA : cA = g_A g 0 := Option.some.inj (hNm.symm.trans (hK.2 0 _ rfl).2)
        subst hA
        show H1[g_o g + h.2.2.2.1.length]? = some (vp_cell (g_A g 0) (N, .inl ((newH h (1, N)).1 h.2.2.2.1.length)))
        rw [e1, vp_cell_i, show (newH h (1, N)).1 h.2.2.2.1.length = fun _ => 0 by simp [newH, rs2]]
        rfl
      · have hA : cA = g_A g 1 := Option.some.inj (hNm.symm.trans (hK.2 1 _ rfl).2)
        subst hA
        show H1[g_o g + h.2.2.2.1.length]? = some (vp_cell (g_A g 1) (N, .inl ((newH h (2, N)).1 h.2.2.2.1.length)))
        rw [e1, vp_cell_i, show (newH h (2, N)).1 h.2.2.2.1.length = fun _ => 0 by simp [newH, rs2]]
        rfl
      · have hA : cA = g_A g 2 := Option.some.inj (hNm.symm.trans (hK.2 2 _ rfl).2)
        subst hA
        show H1[g_o g + h.2.2.2.1.length]? = some (vp_cell (g_A g 2) (N, .inr (.inl ((newH h (3, N)).2.1 h.2.2.2.1.length))))
        rw [e1, vp_cell_l, show (newH h (3, N)).2.1 h.2.2.2.1.length = fun _ => 0 by simp [newH, rs2]]
        rfl
    · have q1 := hxx hx
      show s.heap.size + (c + 1) = g_o g + (h.2.2.2.1 ++ [(kd, N)]).length
      rw [List.length_append, List.length_singleton]
      omega
  exact K T rfl X
theorem z_anew {ix kd N : Nat} {n : Int32} {C : String} (hi : fI M pc = some (.anewarray ix, 3, nx, tg)) (hk : (kd = 4 ∧ C = R_Action) ∨ (kd = 5 ∧ C = R_Edit) ∨ (kd = 6 ∧ C = R_Item)) (hw : Cond.classLink (mY M).cls ix C ∈ TT) (hx : h.2.2.2.2 = true) (hn0 : ¬ n < 0) (hN : n.toNatClampNeg = N) (hN1 : Nat.ble N 1000 = true) (hc : Nat.ble (c + 1) (mM M).cells = true) (hs : Nat.ble (sl + N) (mM M).slots = true)
    (kk : Z g M (c + 1) (sl + N) nx L (.ref h.2.2.2.1.length :: st) (newH h (kd, N)) Q) : Z g M c sl pc L (.int n :: st) h Q := by
  intro p e s m args below meth cd hC H locs ls hR T hTH X
  obtain ⟨hd, hn, -⟩ := fI_ok hC.2.2.2.2.2.2.2.2.2.2.1 hi
  subst hn
  subst hTH
  subst hN
  have hsz := z_at hC hR X hx
  obtain ⟨hP, hS, hL, hxx⟩ := hR
  have hts := hC.2.2.2.2.2.2.2.1
  have hK := hC.2.2.2.2.2.2.2.2.1.1
  have hAO := hC.2.2.2.2.2.2.2.2.1.2.1
  have hN2 := Nat.le_of_ble_eq_true hN1
  have hov : (Cond.arrayOver (.object C)).before args s = true := by
    rcases hk with ⟨-, rfl⟩ | ⟨-, rfl⟩ | ⟨-, rfl⟩
    · exact va_AO.use hAO.1
    · exact va_AO.use hAO.2.1
    · exact va_AO.use hAO.2.2
  have K : W p (g_l g) e (mM M) s m args below meth cd T.heap locs c sl (MX below (QX g Q) args s (mM M).cells (mM M).slots (zA g)) (F0 m pc ls (.int n :: st.map (tr g))) := by
    refine W.anew hC.1 hC.2.1 hC.2.2.2.2.2.2.1 (hts _ hw) hov rfl hd rfl hn0 (by omega) (Nat.le_of_ble_eq_true hc) (Nat.le_of_ble_eq_true hs) (fun cA kA comp f1 f2 f3 f4 => ?_)
    generalize hH1 : T.heap.push ({ cls := cA, slots := Array.replicate n.toNatClampNeg .null, vm := .none } : Cell) = H1
    have z1 : H1.size = T.heap.size + 1 := by rw [← hH1, Array.size_push]
    have e1 : H1[T.heap.size]? = some (arrV cA n.toNatClampNeg (fun _ => .null)) := by rw [← hH1, Array.getElem?_push_size, ← arrV_new]
    have o1 : ∀ q : Nat, q < T.heap.size → H1[q]? = T.heap[q]? := fun q hq => by rw [← hH1, Array.getElem?_push, if_neg (Nat.ne_of_lt hq)]
    rw [hsz] at e1 ⊢
    refine kk p e s m args below meth cd hC H1 locs ls ⟨?_, hS.grow z1 o1, hL, fun q => ?_⟩
    · rw [mws_new]
      refine hP.push1 o1 ?_
      have hrow : ∀ kd', (newH h (kd', n.toNatClampNeg)).2.2.1 h.2.2.2.1.length = fun _ => none := fun kd' => by simp [newH, rs2]
      rcases hk with ⟨rfl, rfl⟩ | ⟨rfl, rfl⟩ | ⟨rfl, rfl⟩
      · obtain ⟨_, _, _, _, _, hNm⟩ := (hK.2 3 _ rfl).2
        have hA : cA = g_A g 3 := Option.some.inj (f1.symm.trans hNm)
        subst hA
        show H1[g_o g + h.2.2.2.1.length]? = some (vp_cell (g_A g 3) (n.toNatClampNeg, .inr (.inr (.inr (.inr (fun i => ((newH h (4, n.toNatClampNeg)).2.2.1 h.2.2.2.1.length i).map (g_o g + ·)))))))
        rw [e1, vp_cell_q, hrow]
        rfl
      · obtain ⟨_, _, _, _, _, hNm⟩ := (hK.2 4 _ rfl).2
        have hA : cA = g_A g 4 := Option.some.inj (f1.symm.trans hNm)
        subst hA
        show H1[g_o g + h.2.2.2.1.length]? = some (vp_cell (g_A g 4) (n.toNatClampNeg, .inr (.inr (.inr (.inr (fun i => ((newH h (5, n.toNatClampNeg)).2.2.1 h.2.2.2.1.length i).map (g_o g + ·)))))))
        rw [e1, vp_cell_q, hrow]
        rfl
      · obtain ⟨_, _, _, _, _, hNm⟩ := (hK.2 5 _ rfl).2
        have hA : cA = g_A g 5 := Option.some.inj (f1.symm.trans hNm)
        subst hA
        show H1[g_o g + h.2.2.2.1.length]? = some (vp_cell (g_A g 5) (n.toNatClampNeg, .inr (.inr (.inr (.inr (fun i => ((newH h (6, n.toNatClampNeg)).2.2.1 h.2.2.2.1.length i).map (g_o g + ·)))))))
        rw [e1, vp_cell_q, hrow]
        rfl
    · have q1 := hxx hx
      show s.heap.size + (c + 1) = g_o g + (h.2.2.2.1 ++ [(kd, n.toNatClampNeg)]).length
      rw [List.length_append, List.length_singleton]
      omega
  exact K T rfl X
/-- nothing more will be made: the places of new cells need no longer be known -/
theorem z_froz (k : Z g M c sl pc L st (h.1, h.2.1, h.2.2.1, h.2.2.2.1, false) Q) : Z g M c sl pc L st h Q := by
  intro p e s m args below meth cd hC H locs ls hR
  exact k p e s m args below meth cd hC H locs ls ⟨hR.1, hR.2.1, hR.2.2.1, fun q => by cases q⟩
end ZM
/-! calls by kind of answer, where nothing is made: the rest G of the picture stays -/
def Qi (G : Gp) (post : Int32 → Mem → Prop) (ex : Nat → Mem → Prop) : Rs → Hp → Prop := fun r h => (∃ (x : Int32) (S : Mem), r = .inl (some (.int x)) ∧ h = (S, G) ∧ post x S) ∨ ∃ (n : Nat) (S : Mem), r = .inr n ∧ h = (S, G) ∧ ex n S
def Ql (G : Gp) (post : Int64 → Mem → Prop) (ex : Nat → Mem → Prop) : Rs → Hp → Prop := fun r h => (∃ (x : Int64) (S : Mem), r = .inl (some (.long x)) ∧ h = (S, G) ∧ post x S) ∨ ∃ (n : Nat) (S : Mem), r = .inr n ∧ h = (S, G) ∧ ex n S
def Qr (G : Gp) (post : Nat → Mem → Prop) (ex : Nat → Mem → Prop) : Rs → Hp → Prop := fun r h => (∃ (x : Nat) (S : Mem), r = .inl (some (.ref x)) ∧ h = (S, G) ∧ post x S) ∨ ∃ (n : Nat) (S : Mem), r = .inr n ∧ h = (S, G) ∧ ex n S
def Qv (G : Gp) (post : Mem → Prop) (ex : Nat → Mem → Prop) : Rs → Hp → Prop := fun r h => (∃ S : Mem, r = .inl none ∧ h = (S, G) ∧ post S) ∨ ∃ (n : Nat) (S : Mem), r = .inr n ∧ h = (S, G) ∧ ex n S
abbrev noEx : Nat → Mem → Prop := fun _ _ => False
/-- what an instance method, a static method must have to be called -/
def CV (M : MI) (n : Nat) : Prop := CO M ∧ Cond.instanceMethod (mY M) ∈ TT ∧ Cond.selects (mY M).cls (mY M) (mY M) ∈ TT ∧ (parseMethodDescriptor (mY M).desc).map (fun d => d.parameters.length) = some n
def CS (M : MI) (n : Nat) : Prop := CO M ∧ Cond.static (mY M) ∈ TT ∧ (parseMethodDescriptor (mY M).desc).map (fun d => d.parameters.length) = some n
section ZK
variable {g : Gm} {M : MI} {c sl pc nx tg : Nat} {L : List (Option Value)} {st : List Value} {S : Mem} {G : Gp} {Q : Rs → Hp → Prop}
theorem z_cvi {M' : MI} {ix k ci : Nat} {post : Int32 → Mem → Prop} {ex : Nat → Mem → Prop} (as : List Value) (hx : G.2.2.2 = false) (hi : fI M pc = some (.invokevirtual ix, 3, nx, tg)) (hl : Cond.methodLink (mY M).cls ix (mY M') ∈ TT) (hV : CV M' as.length) (hT : G.2.2.1[k]? = some (0, ci)) (hci : ci < 8) (hcc : cC ci = (mY M').cls)
    (hlen : Nat.ble (entL (.ref k :: as)).length (mL M') = true) (hrm : rmOk M M' c sl = true) (hst : Nat.ble (st.map Value.category).sum 8 = true)
    (callee : Z g M' 0 0 0 (entryL (.ref k :: as) (mL M')) [] (S, G) (Qi G post ex)) (kr : ∀ (x : Int32) (S' : Mem), post x S' → Z g M (c + (mM M').cells) (sl + (mM M').slots) nx L (.int x :: st) (S', G) Q) (kt : ∀ (n : Nat) (S' : Mem), ex n S' → mX M = [] ∧ Q (.inr n) (S', G)) : Z g M c sl pc L (as.reverse ++ .ref k :: st) (S, G) Q :=
  z_cv as hi hl hV.1 hV.2.1 hV.2.2.1 hV.2.2.2 hT hci hcc hlen hrm hst callee
    (by
      rintro r h' (⟨x, S', -, rfl, -⟩ | ⟨n, S', -, rfl, -⟩) hq <;> exact absurd (hx.symm.trans hq) (by decide))
    (by
      rintro v h' (⟨x, S', hv, rfl, hp⟩ | ⟨n, S', hv, -, -⟩)
      · cases hv
        exact kr x S' hp
      · cases hv)
    (by
      rintro n h' (⟨x, S', hv, -, -⟩ | ⟨n', S', hv, rfl, hp⟩)
      · cases hv
      · cases hv
        exact kt n S' hp)
theorem z_csi {M' : MI} {ix : Nat} {post : Int32 → Mem → Prop} {ex : Nat → Mem → Prop} (as : List Value) (hx : G.2.2.2 = false) (hi : fI M pc = some (.invokestatic ix, 3, nx, tg)) (hl : Cond.methodLink (mY M).cls ix (mY M') ∈ TT) (hV : CS M' as.length)
    (hlen : Nat.ble (entL as).length (mL M') = true) (hrm : rmOk M M' c sl = true) (hst : Nat.ble (st.map Value.category).sum 8 = true)
    (callee : Z g M' 0 0 0 (entryL as (mL M')) [] (S, G) (Qi G post ex)) (kr : ∀ (x : Int32) (S' : Mem), post x S' → Z g M (c + (mM M').cells) (sl + (mM M').slots) nx L (.int x :: st) (S', G) Q) (kt : ∀ (n : Nat) (S' : Mem), ex n S' → mX M = [] ∧ Q (.inr n) (S', G)) : Z g M c sl pc L (as.reverse ++ st) (S, G) Q :=
  z_cs as hi hl hV.1 hV.2.1 hV.2.2 hlen hrm hst callee
    (by
      rintro r h' (⟨x, S', -, rfl, -⟩ | ⟨n, S', -, rfl, -⟩) hq <;> exact absurd (hx.symm.trans hq) (by decide))
    (by
      rintro v h' (⟨x, S', hv, rfl, hp⟩ | ⟨n, S', hv, -, -⟩)
      · cases hv
        exact kr x S' hp
      · cases hv)
    (by
      rintro n h' (⟨x, S', hv, -, -⟩ | ⟨n', S', hv, rfl, hp⟩)
      · cases hv
      · cases hv
        exact kt n S' hp)
theorem z_cvl {M' : MI} {ix k ci : Nat} {post : Int64 → Mem → Prop} {ex : Nat → Mem → Prop} (as : List Value) (hx : G.2.2.2 = false) (hi : fI M pc = some (.invokevirtual ix, 3, nx, tg)) (hl : Cond.methodLink (mY M).cls ix (mY M') ∈ TT) (hV : CV M' as.length) (hT : G.2.2.1[k]? = some (0, ci)) (hci : ci < 8) (hcc : cC ci = (mY M').cls)
    (hlen : Nat.ble (entL (.ref k :: as)).length (mL M') = true) (hrm : rmOk M M' c sl = true) (hst : Nat.ble (st.map Value.category).sum 8 = true)
    (callee : Z g M' 0 0 0 (entryL (.ref k :: as) (mL M')) [] (S, G) (Ql G post ex)) (kr : ∀ (x : Int64) (S' : Mem), post x S' → Z g M (c + (mM M').cells) (sl + (mM M').slots) nx L (.long x :: st) (S', G) Q) (kt : ∀ (n : Nat) (S' : Mem), ex n S' → mX M = [] ∧ Q (.inr n) (S', G)) : Z g M c sl pc L (as.reverse ++ .ref k :: st) (S, G) Q :=
  z_cv as hi hl hV.1 hV.2.1 hV.2.2.1 hV.2.2.2 hT hci hcc hlen hrm hst callee
    (by
      rintro r h' (⟨x, S', -, rfl, -⟩ | ⟨n, S', -, rfl, -⟩) hq <;> exact absurd (hx.symm.trans hq) (by decide))
    (by
      rintro v h' (⟨x, S', hv, rfl, hp⟩ | ⟨n, S', hv, -, -⟩)
      · cases hv
        exact kr x S' hp
      · cases hv)
    (by
      rintro n h' (⟨x, S', hv, -, -⟩ | ⟨n', S', hv, rfl, hp⟩)
      · cases hv
      · cases hv
        exact kt n S' hp)
theorem z_csl {M' : MI} {ix : Nat} {post : Int64 → Mem → Prop} {ex : Nat → Mem → Prop} (as : List Value) (hx : G.2.2.2 = false) (hi : fI M pc = some (.invokestatic ix, 3, nx, tg)) (hl : Cond.methodLink (mY M).cls ix (mY M') ∈ TT) (hV : CS M' as.length)
    (hlen : Nat.ble (entL as).length (mL M') = true) (hrm : rmOk M M' c sl = true) (hst : Nat.ble (st.map Value.category).sum 8 = true)
    (callee : Z g M' 0 0 0 (entryL as (mL M')) [] (S, G) (Ql G post ex)) (kr : ∀ (x : Int64) (S' : Mem), post x S' → Z g M (c + (mM M').cells) (sl + (mM M').slots) nx L (.long x :: st) (S', G) Q) (kt : ∀ (n : Nat) (S' : Mem), ex n S' → mX M = [] ∧ Q (.inr n) (S', G)) : Z g M c sl pc L (as.reverse ++ st) (S, G) Q :=
  z_cs as hi hl hV.1 hV.2.1 hV.2.2 hlen hrm hst callee
    (by
      rintro r h' (⟨x, S', -, rfl, -⟩ | ⟨n, S', -, rfl, -⟩) hq <;> exact absurd (hx.symm.trans hq) (by decide))
    (by
      rintro v h' (⟨x, S', hv, rfl, hp⟩ | ⟨n, S', hv, -, -⟩)
      · cases hv
        exact kr x S' hp
      · cases hv)
    (by
      rintro n h' (⟨x, S', hv, -, -⟩ | ⟨n', S', hv, rfl, hp⟩)
      · cases hv
      · cases hv
        exact kt n S' hp)
theorem z_cvr {M' : MI} {ix k ci : Nat} {post : Nat → Mem → Prop} {ex : Nat → Mem → Prop} (as : List Value) (hx : G.2.2.2 = false) (hi : fI M pc = some (.invokevirtual ix, 3, nx, tg)) (hl : Cond.methodLink (mY M).cls ix (mY M') ∈ TT) (hV : CV M' as.length) (hT : G.2.2.1[k]? = some (0, ci)) (hci : ci < 8) (hcc : cC ci = (mY M').cls)
    (hlen : Nat.ble (entL (.ref k :: as)).length (mL M') = true) (hrm : rmOk M M' c sl = true) (hst : Nat.ble (st.map Value.category).sum 8 = true)
    (callee : Z g M' 0 0 0 (entryL (.ref k :: as) (mL M')) [] (S, G) (Qr G post ex)) (kr : ∀ (x : Nat) (S' : Mem), post x S' → Z g M (c + (mM M').cells) (sl + (mM M').slots) nx L (.ref x :: st) (S', G) Q) (kt : ∀ (n : Nat) (S' : Mem), ex n S' → mX M = [] ∧ Q (.inr n) (S', G)) : Z g M c sl pc L (as.reverse ++ .ref k :: st) (S, G) Q :=
  z_cv as hi hl hV.1 hV.2.1 hV.2.2.1 hV.2.2.2 hT hci hcc hlen hrm hst callee
    (by
      rintro r h' (⟨x, S', -, rfl, -⟩ | ⟨n, S', -, rfl, -⟩) hq <;> exact absurd (hx.symm.trans hq) (by decide))
    (by
      rintro v h' (⟨x, S', hv, rfl, hp⟩ | ⟨n, S', hv, -, -⟩)
      · cases hv
        exact kr x S' hp
      · cases hv)
    (by
      rintro n h' (⟨x, S', hv, -, -⟩ | ⟨n', S', hv, rfl, hp⟩)
      · cases hv
      · cases hv
        exact kt n S' hp)
theorem z_csr {M' : MI} {ix : Nat} {post : Nat → Mem → Prop} {ex : Nat → Mem → Prop} (as : List Value) (hx : G.2.2.2 = false) (hi : fI M pc = some (.invokestatic ix, 3, nx, tg)) (hl : Cond.methodLink (mY M).cls ix (mY M') ∈ TT) (hV : CS M' as.length)
    (hlen : Nat.ble (entL as).length (mL M') = true) (hrm : rmOk M M' c sl = true) (hst : Nat.ble (st.map Value.category).sum 8 = true)
    (callee : Z g M' 0 0 0 (entryL as (mL M')) [] (S, G) (Qr G post ex)) (kr : ∀ (x : Nat) (S' : Mem), post x S' → Z g M (c + (mM M').cells) (sl + (mM M').slots) nx L (.ref x :: st) (S', G) Q) (kt : ∀ (n : Nat) (S' : Mem), ex n S' → mX M = [] ∧ Q (.inr n) (S', G)) : Z g M c sl pc L (as.reverse ++ st) (S, G) Q :=
  z_cs as hi hl hV.1 hV.2.1 hV.2.2 hlen hrm hst callee
    (by
      rintro r h' (⟨x, S', -, rfl, -⟩ | ⟨n, S', -, rfl, -⟩) hq <;> exact absurd (hx.symm.trans hq) (by decide))
    (by
      rintro v h' (⟨x, S', hv, rfl, hp⟩ | ⟨n, S', hv, -, -⟩)
      · cases hv
        exact kr x S' hp
      · cases hv)
    (by
      rintro n h' (⟨x, S', hv, -, -⟩ | ⟨n', S', hv, rfl, hp⟩)
      · cases hv
      · cases hv
        exact kt n S' hp)
theorem z_cvv {M' : MI} {ix k ci : Nat} {post : Mem → Prop} {ex : Nat → Mem → Prop} (as : List Value) (hx : G.2.2.2 = false) (hi : fI M pc = some (.invokevirtual ix, 3, nx, tg)) (hl : Cond.methodLink (mY M).cls ix (mY M') ∈ TT) (hV : CV M' as.length) (hT : G.2.2.1[k]? = some (0, ci)) (hci : ci < 8) (hcc : cC ci = (mY M').cls)
    (hlen : Nat.ble (entL (.ref k :: as)).length (mL M') = true) (hrm : rmOk M M' c sl = true) (hst : Nat.ble (st.map Value.category).sum 8 = true)
    (callee : Z g M' 0 0 0 (entryL (.ref k :: as) (mL M')) [] (S, G) (Qv G post ex)) (kr : ∀ S' : Mem, post S' → Z g M (c + (mM M').cells) (sl + (mM M').slots) nx L st (S', G) Q) (kt : ∀ (n : Nat) (S' : Mem), ex n S' → mX M = [] ∧ Q (.inr n) (S', G)) : Z g M c sl pc L (as.reverse ++ .ref k :: st) (S, G) Q :=
  z_cv as hi hl hV.1 hV.2.1 hV.2.2.1 hV.2.2.2 hT hci hcc hlen hrm hst callee
    (by
      rintro r h' (⟨S', -, rfl, -⟩ | ⟨n, S', -, rfl, -⟩) hq <;> exact absurd (hx.symm.trans hq) (by decide))
    (by
      rintro v h' (⟨S', hv, rfl, hp⟩ | ⟨n, S', hv, -, -⟩)
      · cases hv
        exact kr S' hp
      · cases hv)
    (by
      rintro n h' (⟨S', hv, -, -⟩ | ⟨n', S', hv, rfl, hp⟩)
      · cases hv
      · cases hv
        exact kt n S' hp)
theorem z_csv {M' : MI} {ix : Nat} {post : Mem → Prop} {ex : Nat → Mem → Prop} (as : List Value) (hx : G.2.2.2 = false) (hi : fI M pc = some (.invokestatic ix, 3, nx, tg)) (hl : Cond.methodLink (mY M).cls ix (mY M') ∈ TT) (hV : CS M' as.length)
    (hlen : Nat.ble (entL as).length (mL M') = true) (hrm : rmOk M M' c sl = true) (hst : Nat.ble (st.map Value.category).sum 8 = true)
    (callee : Z g M' 0 0 0 (entryL as (mL M')) [] (S, G) (Qv G post ex)) (kr : ∀ S' : Mem, post S' → Z g M (c + (mM M').cells) (sl + (mM M').slots) nx L st (S', G) Q) (kt : ∀ (n : Nat) (S' : Mem), ex n S' → mX M = [] ∧ Q (.inr n) (S', G)) : Z g M c sl pc L (as.reverse ++ st) (S, G) Q :=
  z_cs as hi hl hV.1 hV.2.1 hV.2.2 hlen hrm hst callee
    (by
      rintro r h' (⟨S', -, rfl, -⟩ | ⟨n, S', -, rfl, -⟩) hq <;> exact absurd (hx.symm.trans hq) (by decide))
    (by
      rintro v h' (⟨S', hv, rfl, hp⟩ | ⟨n, S', hv, -, -⟩)
      · cases hv
        exact kr S' hp
      · cases hv)
    (by
      rintro n h' (⟨S', hv, -, -⟩ | ⟨n', S', hv, rfl, hp⟩)
      · cases hv
      · cases hv
        exact kt n S' hp)
end ZK
end
