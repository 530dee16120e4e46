set_option maxRecDepth 20000 in
theorem w_0 : (Jvm.Cond.initialized "AmendedDrawingLaw") ∈ TT := tt_mem 0 rfl rfl
set_option maxRecDepth 20000 in
theorem w_239 : (Jvm.Cond.static ({ cls := "AmendedDrawingLaw", name := "commit", desc := "(LAmendedDrawing;IIIII[J)I" } : Jvm.MethodName)) ∈ TT := tt_mem 239 rfl rfl
set_option maxRecDepth 20000 in
theorem w_240 : (Jvm.Cond.codeWith ({ cls := "AmendedDrawingLaw", name := "commit", desc := "(LAmendedDrawing;IIIII[J)I" } : Jvm.MethodName) method_3_code (8 : Nat) (Option.some Jvm.ClassFile.FieldType.int) [((0 : Nat), (16 : Nat), (19 : Nat), (13 : Nat)), ((0 : Nat), (16 : Nat), (23 : Nat), (15 : Nat))]) ∈ TT := tt_mem 240 rfl rfl
set_option maxRecDepth 20000 in
theorem w_241 : (Jvm.Cond.classLink "AmendedDrawingLaw" (13 : Nat) "java/lang/IllegalArgumentException") ∈ TT := tt_mem 241 rfl rfl
set_option maxRecDepth 20000 in
theorem w_242 : (Jvm.Cond.classLink "AmendedDrawingLaw" (15 : Nat) "java/lang/IllegalStateException") ∈ TT := tt_mem 242 rfl rfl
set_option maxRecDepth 20000 in
theorem w_243 : (Jvm.Cond.methodLink "AmendedDrawingLaw" (7 : Nat) ({ cls := "AmendedDrawing", name := "commit", desc := "(IIIII)I" } : Jvm.MethodName)) ∈ TT := tt_mem 243 rfl rfl
set_option maxRecDepth 20000 in
theorem w_504 : (Jvm.Cond.static ({ cls := "AmendedDrawingLaw", name := "withdraw", desc := "(LAmendedDrawing;I[J)I" } : Jvm.MethodName)) ∈ TT := tt_mem 504 rfl rfl
set_option maxRecDepth 20000 in
theorem w_505 : (Jvm.Cond.codeWith ({ cls := "AmendedDrawingLaw", name := "withdraw", desc := "(LAmendedDrawing;I[J)I" } : Jvm.MethodName) method_4_code (4 : Nat) (Option.some Jvm.ClassFile.FieldType.int) [((0 : Nat), (9 : Nat), (12 : Nat), (21 : Nat)), ((0 : Nat), (9 : Nat), (15 : Nat), (15 : Nat))]) ∈ TT := tt_mem 505 rfl rfl
set_option maxRecDepth 20000 in
theorem w_506 : (Jvm.Cond.classLink "AmendedDrawingLaw" (21 : Nat) "java/lang/IndexOutOfBoundsException") ∈ TT := tt_mem 506 rfl rfl
set_option maxRecDepth 20000 in
theorem w_507 : (Jvm.Cond.methodLink "AmendedDrawingLaw" (17 : Nat) ({ cls := "AmendedDrawing", name := "withdraw", desc := "(I)I" } : Jvm.MethodName)) ∈ TT := tt_mem 507 rfl rfl
set_option maxRecDepth 20000 in
theorem w_545 : (Jvm.Cond.static ({ cls := "AmendedDrawingLaw", name := "reinstate", desc := "(LAmendedDrawing;I[J)I" } : Jvm.MethodName)) ∈ TT := tt_mem 545 rfl rfl
set_option maxRecDepth 20000 in
theorem w_546 : (Jvm.Cond.codeWith ({ cls := "AmendedDrawingLaw", name := "reinstate", desc := "(LAmendedDrawing;I[J)I" } : Jvm.MethodName) method_5_code (4 : Nat) (Option.some Jvm.ClassFile.FieldType.int) [((0 : Nat), (9 : Nat), (12 : Nat), (21 : Nat)), ((0 : Nat), (9 : Nat), (15 : Nat), (15 : Nat))]) ∈ TT := tt_mem 546 rfl rfl
set_option maxRecDepth 20000 in
theorem w_547 : (Jvm.Cond.methodLink "AmendedDrawingLaw" (23 : Nat) ({ cls := "AmendedDrawing", name := "reinstate", desc := "(I)I" } : Jvm.MethodName)) ∈ TT := tt_mem 547 rfl rfl
set_option maxRecDepth 20000 in
theorem w_552 : (Jvm.Cond.static ({ cls := "AmendedDrawingLaw", name := "amend", desc := "(LAmendedDrawing;III[J)I" } : Jvm.MethodName)) ∈ TT := tt_mem 552 rfl rfl
set_option maxRecDepth 20000 in
theorem w_553 : (Jvm.Cond.codeWith ({ cls := "AmendedDrawingLaw", name := "amend", desc := "(LAmendedDrawing;III[J)I" } : Jvm.MethodName) method_6_code (6 : Nat) (Option.some Jvm.ClassFile.FieldType.int) [((0 : Nat), (12 : Nat), (15 : Nat), (21 : Nat)), ((0 : Nat), (12 : Nat), (19 : Nat), (13 : Nat))]) ∈ TT := tt_mem 553 rfl rfl
set_option maxRecDepth 20000 in
theorem w_554 : (Jvm.Cond.methodLink "AmendedDrawingLaw" (26 : Nat) ({ cls := "AmendedDrawing", name := "amend", desc := "(III)I" } : Jvm.MethodName)) ∈ TT := tt_mem 554 rfl rfl
set_option maxRecDepth 20000 in
theorem w_560 : (Jvm.Cond.static ({ cls := "AmendedDrawingLaw", name := "undo", desc := "(LAmendedDrawing;[J)I" } : Jvm.MethodName)) ∈ TT := tt_mem 560 rfl rfl
set_option maxRecDepth 20000 in
theorem w_561 : (Jvm.Cond.codeWith ({ cls := "AmendedDrawingLaw", name := "undo", desc := "(LAmendedDrawing;[J)I" } : Jvm.MethodName) method_7_code (3 : Nat) (Option.some Jvm.ClassFile.FieldType.int) [((0 : Nat), (8 : Nat), (11 : Nat), (34 : Nat))]) ∈ TT := tt_mem 561 rfl rfl
set_option maxRecDepth 20000 in
theorem w_562 : (Jvm.Cond.classLink "AmendedDrawingLaw" (34 : Nat) "java/util/NoSuchElementException") ∈ TT := tt_mem 562 rfl rfl
set_option maxRecDepth 20000 in
theorem w_563 : (Jvm.Cond.methodLink "AmendedDrawingLaw" (30 : Nat) ({ cls := "AmendedDrawing", name := "undo", desc := "()I" } : Jvm.MethodName)) ∈ TT := tt_mem 563 rfl rfl
set_option maxRecDepth 20000 in
theorem w_591 : (Jvm.Cond.static ({ cls := "AmendedDrawingLaw", name := "redo", desc := "(LAmendedDrawing;[J)I" } : Jvm.MethodName)) ∈ TT := tt_mem 591 rfl rfl
set_option maxRecDepth 20000 in
theorem w_592 : (Jvm.Cond.codeWith ({ cls := "AmendedDrawingLaw", name := "redo", desc := "(LAmendedDrawing;[J)I" } : Jvm.MethodName) method_8_code (3 : Nat) (Option.some Jvm.ClassFile.FieldType.int) [((0 : Nat), (8 : Nat), (11 : Nat), (34 : Nat))]) ∈ TT := tt_mem 592 rfl rfl
set_option maxRecDepth 20000 in
theorem w_593 : (Jvm.Cond.methodLink "AmendedDrawingLaw" (36 : Nat) ({ cls := "AmendedDrawing", name := "redo", desc := "()I" } : Jvm.MethodName)) ∈ TT := tt_mem 593 rfl rfl
set_option maxRecDepth 20000 in
theorem w_602 : (Jvm.Cond.static ({ cls := "AmendedDrawingLaw", name := "argument", desc := "(LAmendedDrawing;II[J)I" } : Jvm.MethodName)) ∈ TT := tt_mem 602 rfl rfl
set_option maxRecDepth 20000 in
theorem w_603 : (Jvm.Cond.codeWith ({ cls := "AmendedDrawingLaw", name := "argument", desc := "(LAmendedDrawing;II[J)I" } : Jvm.MethodName) method_9_code (5 : Nat) (Option.some Jvm.ClassFile.FieldType.int) [((0 : Nat), (10 : Nat), (13 : Nat), (21 : Nat))]) ∈ TT := tt_mem 603 rfl rfl
set_option maxRecDepth 20000 in
theorem w_604 : (Jvm.Cond.methodLink "AmendedDrawingLaw" (39 : Nat) ({ cls := "AmendedDrawing", name := "argument", desc := "(II)I" } : Jvm.MethodName)) ∈ TT := tt_mem 604 rfl rfl
set_option maxRecDepth 20000 in
theorem w_609 : (Jvm.Cond.static ({ cls := "AmendedDrawingLaw", name := "effect", desc := "(LAmendedDrawing;I[J)I" } : Jvm.MethodName)) ∈ TT := tt_mem 609 rfl rfl
set_option maxRecDepth 20000 in
theorem w_610 : (Jvm.Cond.codeWith ({ cls := "AmendedDrawingLaw", name := "effect", desc := "(LAmendedDrawing;I[J)I" } : Jvm.MethodName) method_10_code (4 : Nat) (Option.some Jvm.ClassFile.FieldType.int) [((0 : Nat), (9 : Nat), (12 : Nat), (21 : Nat))]) ∈ TT := tt_mem 610 rfl rfl
set_option maxRecDepth 20000 in
theorem w_611 : (Jvm.Cond.methodLink "AmendedDrawingLaw" (43 : Nat) ({ cls := "AmendedDrawing", name := "effect", desc := "(I)I" } : Jvm.MethodName)) ∈ TT := tt_mem 611 rfl rfl
set_option maxRecDepth 20000 in
theorem w_616 : (Jvm.Cond.static ({ cls := "AmendedDrawingLaw", name := "needed", desc := "(LAmendedDrawing;II[J)I" } : Jvm.MethodName)) ∈ TT := tt_mem 616 rfl rfl
set_option maxRecDepth 20000 in
theorem w_617 : (Jvm.Cond.codeWith ({ cls := "AmendedDrawingLaw", name := "needed", desc := "(LAmendedDrawing;II[J)I" } : Jvm.MethodName) method_11_code (5 : Nat) (Option.some Jvm.ClassFile.FieldType.int) [((0 : Nat), (10 : Nat), (13 : Nat), (21 : Nat))]) ∈ TT := tt_mem 617 rfl rfl
set_option maxRecDepth 20000 in
theorem w_618 : (Jvm.Cond.methodLink "AmendedDrawingLaw" (46 : Nat) ({ cls := "AmendedDrawing", name := "needed", desc := "(II)I" } : Jvm.MethodName)) ∈ TT := tt_mem 618 rfl rfl
set_option maxRecDepth 20000 in
theorem w_623 : (Jvm.Cond.static ({ cls := "AmendedDrawingLaw", name := "needs", desc := "(LAmendedDrawing;II[J)I" } : Jvm.MethodName)) ∈ TT := tt_mem 623 rfl rfl
set_option maxRecDepth 20000 in
theorem w_624 : (Jvm.Cond.codeWith ({ cls := "AmendedDrawingLaw", name := "needs", desc := "(LAmendedDrawing;II[J)I" } : Jvm.MethodName) method_12_code (5 : Nat) (Option.some Jvm.ClassFile.FieldType.int) [((0 : Nat), (10 : Nat), (13 : Nat), (21 : Nat))]) ∈ TT := tt_mem 624 rfl rfl
set_option maxRecDepth 20000 in
theorem w_625 : (Jvm.Cond.methodLink "AmendedDrawingLaw" (49 : Nat) ({ cls := "AmendedDrawing", name := "needs", desc := "(II)I" } : Jvm.MethodName)) ∈ TT := tt_mem 625 rfl rfl
set_option maxRecDepth 20000 in
theorem w_630 : (Jvm.Cond.static ({ cls := "AmendedDrawingLaw", name := "object", desc := "(LAmendedDrawing;II[J)I" } : Jvm.MethodName)) ∈ TT := tt_mem 630 rfl rfl
set_option maxRecDepth 20000 in
theorem w_631 : (Jvm.Cond.codeWith ({ cls := "AmendedDrawingLaw", name := "object", desc := "(LAmendedDrawing;II[J)I" } : Jvm.MethodName) method_13_code (5 : Nat) (Option.some Jvm.ClassFile.FieldType.int) [((0 : Nat), (10 : Nat), (13 : Nat), (21 : Nat))]) ∈ TT := tt_mem 631 rfl rfl
set_option maxRecDepth 20000 in
theorem w_632 : (Jvm.Cond.methodLink "AmendedDrawingLaw" (52 : Nat) ({ cls := "AmendedDrawing", name := "object", desc := "(II)I" } : Jvm.MethodName)) ∈ TT := tt_mem 632 rfl rfl
set_option maxRecDepth 20000 in
theorem w_641 : (Jvm.Cond.static ({ cls := "AmendedDrawingLaw", name := "shown", desc := "(LAmendedDrawing;IIII[J)I" } : Jvm.MethodName)) ∈ TT := tt_mem 641 rfl rfl
set_option maxRecDepth 20000 in
theorem w_642 : (Jvm.Cond.codeWith ({ cls := "AmendedDrawingLaw", name := "shown", desc := "(LAmendedDrawing;IIII[J)I" } : Jvm.MethodName) method_14_code (7 : Nat) (Option.some Jvm.ClassFile.FieldType.int) [((0 : Nat), (14 : Nat), (17 : Nat), (13 : Nat))]) ∈ TT := tt_mem 642 rfl rfl
set_option maxRecDepth 20000 in
theorem w_643 : (Jvm.Cond.methodLink "AmendedDrawingLaw" (55 : Nat) ({ cls := "AmendedDrawing", name := "shown", desc := "(IIII)I" } : Jvm.MethodName)) ∈ TT := tt_mem 643 rfl rfl
abbrev tMo : List (Nat × Nat) := tM ++ [(3, 1)]
abbrev GJ (J : Nat → Nat → Int64) : Gp := (J, pM, tMo, false)
set_option maxRecDepth 100000 in
theorem t158 : tMo[158]? = some (3, 1) := by decide +kernel
def QW (P : Int32 → Mem → (Nat → Nat → Int64) → Prop) : Rs → Hp → Prop := fun r h => ∃ (k : Int32) (S : Mem) (J : Nat → Nat → Int64), r = .inl (some (.int k)) ∧ h = (S, GJ J) ∧ P k S J
def T_l_commit : List Row := [(0, .aload 6, 2, 2, 0), (2, .iconst 0, 1, 3, 0), (3, .aload_n 0, 1, 4, 0), (4, .iload_n 1, 1, 5, 0), (5, .iload_n 2, 1, 6, 0), (6, .iload_n 3, 1, 7, 0), (7, .iload 4, 2, 9, 0), (9, .iload 5, 2, 11, 0), (11, .invokevirtual 7, 3, 14, 0), (14, .i2l, 1, 15, 0), (15, .lastore, 1, 16, 0), (16, .goto 11, 3, 19, 27), (19, .astore 7, 2, 21, 0), (21, .iconst 1, 1, 22, 0), (22, .ireturn, 1, 23, 0), (23, .astore 7, 2, 25, 0), (25, .iconst 2, 1, 26, 0), (26, .ireturn, 1, 27, 0), (27, .iconst 0, 1, 28, 0), (28, .ireturn, 1, 29, 0)]
abbrev M_l_commit : MI := (⟨"AmendedDrawingLaw", "commit", "(LAmendedDrawing;IIIII[J)I"⟩, method_3_code, 8, some .int, { frames := 7, cells := 1, slots := 6, locals := 159 }, [(0, 16, 19, 13), (0, 16, 23, 15)], T_l_commit)
set_option maxRecDepth 100000 in
theorem ok_l_commit : okM M_l_commit := by unfold okM; decide +kernel
set_option maxRecDepth 100000 in
theorem cow_l_commit : COW M_l_commit := ⟨by decide, by decide +kernel, ok_l_commit, w_240, w_0, by decide⟩
theorem cst_l_commit : Cond.static (mY M_l_commit) ∈ TT := w_239
theorem np_l_commit : (parseMethodDescriptor (mY M_l_commit).desc).map (fun d => d.parameters.length) = some 7 := by decide +kernel
set_option maxRecDepth 100000 in
set_option maxHeartbeats 1000000 in
theorem zl_commit {g : Gm} {S : Mem} {J : Nat → Nat → Int64} {P : Int32 → Mem → (Nat → Nat → Int64) → Prop} {l1 : Int32} {l2 : Int32} {l3 : Int32} {l4 : Int32} {l5 : Int32} (htr : ∀ e, (g_l g).admits e → e.platform.stackTraces = false)
    (hw : cd_commit (fun r S' => P 0 S' (up2 J 158 0 r.toInt64)) (fun n S' => (n = 1 ∧ P 1 S' J) ∨ (n = 2 ∧ P 2 S' J)) S l1 l2 l3 l4 l5) : Z g M_l_commit 0 0 0 (entryL [.ref 0, .int l1, .int l2, .int l3, .int l4, .int l5, .ref 158] (mL M_l_commit)) [] (S, GJ J) (QW P) := by
  have hG : isD (GJ J) := lay_D J false
  show Z g M_l_commit 0 0 0 [some (.ref 0), some (.int l1), some (.int l2), some (.int l3), some (.int l4), some (.int l5), some (.ref 158), none] [] (S, GJ J) (QW P)
  refine z_aload rfl rfl ?_
  refine z_iconst 0 rfl rfl ?_
  refine z_aload_n rfl rfl ?_
  refine z_iload_n rfl rfl ?_
  refine z_iload_n rfl rfl ?_
  refine z_iload_n rfl rfl ?_
  refine z_iload rfl rfl ?_
  refine z_iload rfl rfl ?_
  refine z_cvC (M' := M_d_commit) [.int l1, .int l2, .int l3, .int l4, .int l5] rfl w_243 cv_d_commit.1 cv_d_commit.2.1 cv_d_commit.2.2.1 cv_d_commit.2.2.2 hG.1 (by decide) rfl rfl rfl rfl (zcd_commit (hx := rfl) hG htr hw) ?_ ?_ ?_
  · rintro r h' (⟨x, S', -, rfl, -⟩ | ⟨n, S', -, rfl, -⟩) hq <;> cases hq
  · rintro v h' (⟨x, S', hv, rfl, hp⟩ | ⟨n, S', hv, -, -⟩)
    · cases hv
      refine z_i2l rfl ?_
      refine z_last (n := 1) rfl t158 (vp_lit rfl) ?_
      refine z_goto rfl ?_
      refine z_iconst 0 rfl rfl ?_
      exact z_iret rfl rfl rfl rfl ⟨_, _, _, rfl, rfl, hp⟩
    · cases hv
  · rintro n h' (⟨x, S', hv, -, -⟩ | ⟨n', S', hv, rfl, hp⟩)
    · cases hv
    · cases hv
      rcases hp with ⟨rfl, hp⟩ | ⟨rfl, hp⟩
      · refine ⟨19, 7, 21, ⟨0, 16, 13, _, Or.inl ⟨rfl, by decide, by decide, by decide, w_241⟩⟩, Or.inl ⟨_, rfl⟩, rfl, ?_⟩
        refine z_iconst 1 rfl rfl ?_
        exact z_iret rfl rfl rfl rfl ⟨_, _, _, rfl, rfl, hp⟩
      · refine ⟨23, 7, 25, ⟨0, 16, 13, [], Or.inr ⟨19, 0, 16, 15, [], _, rfl, by decide, by decide, by decide, w_241, by decide, by decide, by decide, by decide, w_242⟩⟩, Or.inl ⟨_, rfl⟩, rfl, ?_⟩
        refine z_iconst 2 rfl rfl ?_
        exact z_iret rfl rfl rfl rfl ⟨_, _, _, rfl, rfl, hp⟩
def T_l_withdraw : List Row := [(0, .aload_n 2, 1, 1, 0), (1, .iconst 0, 1, 2, 0), (2, .aload_n 0, 1, 3, 0), (3, .iload_n 1, 1, 4, 0), (4, .invokevirtual 17, 3, 7, 0), (7, .i2l, 1, 8, 0), (8, .lastore, 1, 9, 0), (9, .goto 9, 3, 12, 18), (12, .astore_n 3, 1, 13, 0), (13, .iconst 1, 1, 14, 0), (14, .ireturn, 1, 15, 0), (15, .astore_n 3, 1, 16, 0), (16, .iconst 2, 1, 17, 0), (17, .ireturn, 1, 18, 0), (18, .iconst 0, 1, 19, 0), (19, .ireturn, 1, 20, 0)]
abbrev M_l_withdraw : MI := (⟨"AmendedDrawingLaw", "withdraw", "(LAmendedDrawing;I[J)I"⟩, method_4_code, 4, some .int, { frames := 8, cells := 2, slots := 12, locals := 179 }, [(0, 9, 12, 21), (0, 9, 15, 15)], T_l_withdraw)
set_option maxRecDepth 100000 in
theorem ok_l_withdraw : okM M_l_withdraw := by unfold okM; decide +kernel
set_option maxRecDepth 100000 in
theorem cow_l_withdraw : COW M_l_withdraw := ⟨by decide, by decide +kernel, ok_l_withdraw, w_505, w_0, by decide⟩
theorem cst_l_withdraw : Cond.static (mY M_l_withdraw) ∈ TT := w_504
theorem np_l_withdraw : (parseMethodDescriptor (mY M_l_withdraw).desc).map (fun d => d.parameters.length) = some 3 := by decide +kernel
set_option maxRecDepth 100000 in
set_option maxHeartbeats 1000000 in
theorem zl_withdraw {g : Gm} {S : Mem} {J : Nat → Nat → Int64} {P : Int32 → Mem → (Nat → Nat → Int64) → Prop} {l1 : Int32} (htr : ∀ e, (g_l g).admits e → e.platform.stackTraces = false)
    (hw : cd_withdraw (fun r S' => P 0 S' (up2 J 158 0 r.toInt64)) (fun n S' => (n = 3 ∧ P 1 S' J) ∨ (n = 2 ∧ P 2 S' J)) S l1) : Z g M_l_withdraw 0 0 0 (entryL [.ref 0, .int l1, .ref 158] (mL M_l_withdraw)) [] (S, GJ J) (QW P) := by
  have hG : isD (GJ J) := lay_D J false
  show Z g M_l_withdraw 0 0 0 [some (.ref 0), some (.int l1), some (.ref 158), none] [] (S, GJ J) (QW P)
  refine z_aload_n rfl rfl ?_
  refine z_iconst 0 rfl rfl ?_
  refine z_aload_n rfl rfl ?_
  refine z_iload_n rfl rfl ?_
  refine z_cvC (M' := M_d_withdraw) [.int l1] rfl w_507 cv_d_withdraw.1 cv_d_withdraw.2.1 cv_d_withdraw.2.2.1 cv_d_withdraw.2.2.2 hG.1 (by decide) rfl rfl rfl rfl (zcd_withdraw (hx := rfl) hG htr hw) ?_ ?_ ?_
  · rintro r h' (⟨x, S', -, rfl, -⟩ | ⟨n, S', -, rfl, -⟩) hq <;> cases hq
  · rintro v h' (⟨x, S', hv, rfl, hp⟩ | ⟨n, S', hv, -, -⟩)
    · cases hv
      refine z_i2l rfl ?_
      refine z_last (n := 1) rfl t158 (vp_lit rfl) ?_
      refine z_goto rfl ?_
      refine z_iconst 0 rfl rfl ?_
      exact z_iret rfl rfl rfl rfl ⟨_, _, _, rfl, rfl, hp⟩
    · cases hv
  · rintro n h' (⟨x, S', hv, -, -⟩ | ⟨n', S', hv, rfl, hp⟩)
    · cases hv
    · cases hv
      rcases hp with ⟨rfl, hp⟩ | ⟨rfl, hp⟩
      · refine ⟨12, 3, 13, ⟨0, 9, 21, _, Or.inl ⟨rfl, by decide, by decide, by decide, w_506⟩⟩, Or.inr ⟨3, _, rfl, rfl⟩, rfl, ?_⟩
        refine z_iconst 1 rfl rfl ?_
        exact z_iret rfl rfl rfl rfl ⟨_, _, _, rfl, rfl, hp⟩
      · refine ⟨15, 3, 16, ⟨0, 9, 21, [], Or.inr ⟨12, 0, 9, 15, [], _, rfl, by decide, by decide, by decide, w_506, by decide, by decide, by decide, by decide, w_242⟩⟩, Or.inr ⟨3, _, rfl, rfl⟩, rfl, ?_⟩
        refine z_iconst 2 rfl rfl ?_
        exact z_iret rfl rfl rfl rfl ⟨_, _, _, rfl, rfl, hp⟩
def T_l_reinstate : List Row := [(0, .aload_n 2, 1, 1, 0), (1, .iconst 0, 1, 2, 0), (2, .aload_n 0, 1, 3, 0), (3, .iload_n 1, 1, 4, 0), (4, .invokevirtual 23, 3, 7, 0), (7, .i2l, 1, 8, 0), (8, .lastore, 1, 9, 0), (9, .goto 9, 3, 12, 18), (12, .astore_n 3, 1, 13, 0), (13, .iconst 1, 1, 14, 0), (14, .ireturn, 1, 15, 0), (15, .astore_n 3, 1, 16, 0), (16, .iconst 2, 1, 17, 0), (17, .ireturn, 1, 18, 0), (18, .iconst 0, 1, 19, 0), (19, .ireturn, 1, 20, 0)]
abbrev M_l_reinstate : MI := (⟨"AmendedDrawingLaw", "reinstate", "(LAmendedDrawing;I[J)I"⟩, method_5_code, 4, some .int, { frames := 8, cells := 2, slots := 12, locals := 179 }, [(0, 9, 12, 21), (0, 9, 15, 15)], T_l_reinstate)
set_option maxRecDepth 100000 in
theorem ok_l_reinstate : okM M_l_reinstate := by unfold okM; decide +kernel
set_option maxRecDepth 100000 in
theorem cow_l_reinstate : COW M_l_reinstate := ⟨by decide, by decide +kernel, ok_l_reinstate, w_546, w_0, by decide⟩
theorem cst_l_reinstate : Cond.static (mY M_l_reinstate) ∈ TT := w_545
theorem np_l_reinstate : (parseMethodDescriptor (mY M_l_reinstate).desc).map (fun d => d.parameters.length) = some 3 := by decide +kernel
set_option maxRecDepth 100000 in
set_option maxHeartbeats 1000000 in
theorem zl_reinstate {g : Gm} {S : Mem} {J : Nat → Nat → Int64} {P : Int32 → Mem → (Nat → Nat → Int64) → Prop} {l1 : Int32} (htr : ∀ e, (g_l g).admits e → e.platform.stackTraces = false)
    (hw : cd_reinstate (fun r S' => P 0 S' (up2 J 158 0 r.toInt64)) (fun n S' => (n = 3 ∧ P 1 S' J) ∨ (n = 2 ∧ P 2 S' J)) S l1) : Z g M_l_reinstate 0 0 0 (entryL [.ref 0, .int l1, .ref 158] (mL M_l_reinstate)) [] (S, GJ J) (QW P) := by
  have hG : isD (GJ J) := lay_D J false
  show Z g M_l_reinstate 0 0 0 [some (.ref 0), some (.int l1), some (.ref 158), none] [] (S, GJ J) (QW P)
  refine z_aload_n rfl rfl ?_
  refine z_iconst 0 rfl rfl ?_
  refine z_aload_n rfl rfl ?_
  refine z_iload_n rfl rfl ?_
  refine z_cvC (M' := M_d_reinstate) [.int l1] rfl w_547 cv_d_reinstate.1 cv_d_reinstate.2.1 cv_d_reinstate.2.2.1 cv_d_reinstate.2.2.2 hG.1 (by decide) rfl rfl rfl rfl (zcd_reinstate (hx := rfl) hG htr hw) ?_ ?_ ?_
  · rintro r h' (⟨x, S', -, rfl, -⟩ | ⟨n, S', -, rfl, -⟩) hq <;> cases hq
  · rintro v h' (⟨x, S', hv, rfl, hp⟩ | ⟨n, S', hv, -, -⟩)
    · cases hv
      refine z_i2l rfl ?_
      refine z_last (n := 1) rfl t158 (vp_lit rfl) ?_
      refine z_goto rfl ?_
      refine z_iconst 0 rfl rfl ?_
      exact z_iret rfl rfl rfl rfl ⟨_, _, _, rfl, rfl, hp⟩
    · cases hv
  · rintro n h' (⟨x, S', hv, -, -⟩ | ⟨n', S', hv, rfl, hp⟩)
    · cases hv
    · cases hv
      rcases hp with ⟨rfl, hp⟩ | ⟨rfl, hp⟩
      · refine ⟨12, 3, 13, ⟨0, 9, 21, _, Or.inl ⟨rfl, by decide, by decide, by decide, w_506⟩⟩, Or.inr ⟨3, _, rfl, rfl⟩, rfl, ?_⟩
        refine z_iconst 1 rfl rfl ?_
        exact z_iret rfl rfl rfl rfl ⟨_, _, _, rfl, rfl, hp⟩
      · refine ⟨15, 3, 16, ⟨0, 9, 21, [], Or.inr ⟨12, 0, 9, 15, [], _, rfl, by decide, by decide, by decide, w_506, by decide, by decide, by decide, by decide, w_242⟩⟩, Or.inr ⟨3, _, rfl, rfl⟩, rfl, ?_⟩
        refine z_iconst 2 rfl rfl ?_
        exact z_iret rfl rfl rfl rfl ⟨_, _, _, rfl, rfl, hp⟩
def T_l_amend : List Row := [(0, .aload 4, 2, 2, 0), (2, .iconst 0, 1, 3, 0), (3, .aload_n 0, 1, 4, 0), (4, .iload_n 1, 1, 5, 0), (5, .iload_n 2, 1, 6, 0), (6, .iload_n 3, 1, 7, 0), (7, .invokevirtual 26, 3, 10, 0), (10, .i2l, 1, 11, 0), (11, .lastore, 1, 12, 0), (12, .goto 11, 3, 15, 23), (15, .astore 5, 2, 17, 0), (17, .iconst 1, 1, 18, 0), (18, .ireturn, 1, 19, 0), (19, .astore 5, 2, 21, 0), (21, .iconst 2, 1, 22, 0), (22, .ireturn, 1, 23, 0), (23, .iconst 0, 1, 24, 0), (24, .ireturn, 1, 25, 0)]
abbrev M_l_amend : MI := (⟨"AmendedDrawingLaw", "amend", "(LAmendedDrawing;III[J)I"⟩, method_6_code, 6, some .int, { frames := 8, cells := 2, slots := 12, locals := 182 }, [(0, 12, 15, 21), (0, 12, 19, 13)], T_l_amend)
set_option maxRecDepth 100000 in
theorem ok_l_amend : okM M_l_amend := by unfold okM; decide +kernel
set_option maxRecDepth 100000 in
theorem cow_l_amend : COW M_l_amend := ⟨by decide, by decide +kernel, ok_l_amend, w_553, w_0, by decide⟩
theorem cst_l_amend : Cond.static (mY M_l_amend) ∈ TT := w_552
theorem np_l_amend : (parseMethodDescriptor (mY M_l_amend).desc).map (fun d => d.parameters.length) = some 5 := by decide +kernel
set_option maxRecDepth 100000 in
set_option maxHeartbeats 1000000 in
theorem zl_amend {g : Gm} {S : Mem} {J : Nat → Nat → Int64} {P : Int32 → Mem → (Nat → Nat → Int64) → Prop} {l1 : Int32} {l2 : Int32} {l3 : Int32} (htr : ∀ e, (g_l g).admits e → e.platform.stackTraces = false)
    (hw : cd_amend (fun r S' => P 0 S' (up2 J 158 0 r.toInt64)) (fun n S' => (n = 3 ∧ P 1 S' J) ∨ (n = 1 ∧ P 2 S' J)) S l1 l2 l3) : Z g M_l_amend 0 0 0 (entryL [.ref 0, .int l1, .int l2, .int l3, .ref 158] (mL M_l_amend)) [] (S, GJ J) (QW P) := by
  have hG : isD (GJ J) := lay_D J false
  show Z g M_l_amend 0 0 0 [some (.ref 0), some (.int l1), some (.int l2), some (.int l3), some (.ref 158), none] [] (S, GJ J) (QW P)
  refine z_aload rfl rfl ?_
  refine z_iconst 0 rfl rfl ?_
  refine z_aload_n rfl rfl ?_
  refine z_iload_n rfl rfl ?_
  refine z_iload_n rfl rfl ?_
  refine z_iload_n rfl rfl ?_
  refine z_cvC (M' := M_d_amend) [.int l1, .int l2, .int l3] rfl w_554 cv_d_amend.1 cv_d_amend.2.1 cv_d_amend.2.2.1 cv_d_amend.2.2.2 hG.1 (by decide) rfl rfl rfl rfl (zcd_amend (hx := rfl) hG htr hw) ?_ ?_ ?_
  · rintro r h' (⟨x, S', -, rfl, -⟩ | ⟨n, S', -, rfl, -⟩) hq <;> cases hq
  · rintro v h' (⟨x, S', hv, rfl, hp⟩ | ⟨n, S', hv, -, -⟩)
    · cases hv
      refine z_i2l rfl ?_
      refine z_last (n := 1) rfl t158 (vp_lit rfl) ?_
      refine z_goto rfl ?_
      refine z_iconst 0 rfl rfl ?_
      exact z_iret rfl rfl rfl rfl ⟨_, _, _, rfl, rfl, hp⟩
    · cases hv
  · rintro n h' (⟨x, S', hv, -, -⟩ | ⟨n', S', hv, rfl, hp⟩)
    · cases hv
    · cases hv
      rcases hp with ⟨rfl, hp⟩ | ⟨rfl, hp⟩
      · refine ⟨15, 5, 17, ⟨0, 12, 21, _, Or.inl ⟨rfl, by decide, by decide, by decide, w_506⟩⟩, Or.inl ⟨_, rfl⟩, rfl, ?_⟩
        refine z_iconst 1 rfl rfl ?_
        exact z_iret rfl rfl rfl rfl ⟨_, _, _, rfl, rfl, hp⟩
      · refine ⟨19, 5, 21, ⟨0, 12, 21, [], Or.inr ⟨15, 0, 12, 13, [], _, rfl, by decide, by decide, by decide, w_506, by decide, by decide, by decide, by decide, w_241⟩⟩, Or.inl ⟨_, rfl⟩, rfl, ?_⟩
        refine z_iconst 2 rfl rfl ?_
        exact z_iret rfl rfl rfl rfl ⟨_, _, _, rfl, rfl, hp⟩
def T_l_undo : List Row := [(0, .aload_n 1, 1, 1, 0), (1, .iconst 0, 1, 2, 0), (2, .aload_n 0, 1, 3, 0), (3, .invokevirtual 30, 3, 6, 0), (6, .i2l, 1, 7, 0), (7, .lastore, 1, 8, 0), (8, .goto 6, 3, 11, 14), (11, .astore_n 2, 1, 12, 0), (12, .iconst 1, 1, 13, 0), (13, .ireturn, 1, 14, 0), (14, .iconst 0, 1, 15, 0), (15, .ireturn, 1, 16, 0)]
abbrev M_l_undo : MI := (⟨"AmendedDrawingLaw", "undo", "(LAmendedDrawing;[J)I"⟩, method_7_code, 3, some .int, { frames := 7, cells := 1, slots := 6, locals := 179 }, [(0, 8, 11, 34)], T_l_undo)
set_option maxRecDepth 100000 in
theorem ok_l_undo : okM M_l_undo := by unfold okM; decide +kernel
set_option maxRecDepth 100000 in
theorem cow_l_undo : COW M_l_undo := ⟨by decide, by decide +kernel, ok_l_undo, w_561, w_0, by decide⟩
theorem cst_l_undo : Cond.static (mY M_l_undo) ∈ TT := w_560
theorem np_l_undo : (parseMethodDescriptor (mY M_l_undo).desc).map (fun d => d.parameters.length) = some 2 := by decide +kernel
set_option maxRecDepth 100000 in
set_option maxHeartbeats 1000000 in
theorem zl_undo {g : Gm} {S : Mem} {J : Nat → Nat → Int64} {P : Int32 → Mem → (Nat → Nat → Int64) → Prop} (htr : ∀ e, (g_l g).admits e → e.platform.stackTraces = false)
    (hw : cd_undo (fun r S' => P 0 S' (up2 J 158 0 r.toInt64)) (fun n S' => (n = 4 ∧ P 1 S' J)) S ) : Z g M_l_undo 0 0 0 (entryL [.ref 0, .ref 158] (mL M_l_undo)) [] (S, GJ J) (QW P) := by
  have hG : isD (GJ J) := lay_D J false
  show Z g M_l_undo 0 0 0 [some (.ref 0), some (.ref 158), none] [] (S, GJ J) (QW P)
  refine z_aload_n rfl rfl ?_
  refine z_iconst 0 rfl rfl ?_
  refine z_aload_n rfl rfl ?_
  refine z_cvC (M' := M_d_undo) [] rfl w_563 cv_d_undo.1 cv_d_undo.2.1 cv_d_undo.2.2.1 cv_d_undo.2.2.2 hG.1 (by decide) rfl rfl rfl rfl (zcd_undo (hx := rfl) hG htr hw) ?_ ?_ ?_
  · rintro r h' (⟨x, S', -, rfl, -⟩ | ⟨n, S', -, rfl, -⟩) hq <;> cases hq
  · rintro v h' (⟨x, S', hv, rfl, hp⟩ | ⟨n, S', hv, -, -⟩)
    · cases hv
      refine z_i2l rfl ?_
      refine z_last (n := 1) rfl t158 (vp_lit rfl) ?_
      refine z_goto rfl ?_
      refine z_iconst 0 rfl rfl ?_
      exact z_iret rfl rfl rfl rfl ⟨_, _, _, rfl, rfl, hp⟩
    · cases hv
  · rintro n h' (⟨x, S', hv, -, -⟩ | ⟨n', S', hv, rfl, hp⟩)
    · cases hv
    · cases hv
      obtain ⟨rfl, hp⟩ := hp
      refine ⟨11, 2, 12, ⟨0, 8, 34, _, Or.inl ⟨rfl, by decide, by decide, by decide, w_562⟩⟩, Or.inr ⟨2, _, rfl, rfl⟩, rfl, ?_⟩
      refine z_iconst 1 rfl rfl ?_
      exact z_iret rfl rfl rfl rfl ⟨_, _, _, rfl, rfl, hp⟩
def T_l_redo : List Row := [(0, .aload_n 1, 1, 1, 0), (1, .iconst 0, 1, 2, 0), (2, .aload_n 0, 1, 3, 0), (3, .invokevirtual 36, 3, 6, 0), (6, .i2l, 1, 7, 0), (7, .lastore, 1, 8, 0), (8, .goto 6, 3, 11, 14), (11, .astore_n 2, 1, 12, 0), (12, .iconst 1, 1, 13, 0), (13, .ireturn, 1, 14, 0), (14, .iconst 0, 1, 15, 0), (15, .ireturn, 1, 16, 0)]
abbrev M_l_redo : MI := (⟨"AmendedDrawingLaw", "redo", "(LAmendedDrawing;[J)I"⟩, method_8_code, 3, some .int, { frames := 7, cells := 1, slots := 6, locals := 179 }, [(0, 8, 11, 34)], T_l_redo)
set_option maxRecDepth 100000 in
theorem ok_l_redo : okM M_l_redo := by unfold okM; decide +kernel
set_option maxRecDepth 100000 in
theorem cow_l_redo : COW M_l_redo := ⟨by decide, by decide +kernel, ok_l_redo, w_592, w_0, by decide⟩
theorem cst_l_redo : Cond.static (mY M_l_redo) ∈ TT := w_591
theorem np_l_redo : (parseMethodDescriptor (mY M_l_redo).desc).map (fun d => d.parameters.length) = some 2 := by decide +kernel
set_option maxRecDepth 100000 in
set_option maxHeartbeats 1000000 in
theorem zl_redo {g : Gm} {S : Mem} {J : Nat → Nat → Int64} {P : Int32 → Mem → (Nat → Nat → Int64) → Prop} (htr : ∀ e, (g_l g).admits e → e.platform.stackTraces = false)
    (hw : cd_redo (fun r S' => P 0 S' (up2 J 158 0 r.toInt64)) (fun n S' => (n = 4 ∧ P 1 S' J)) S ) : Z g M_l_redo 0 0 0 (entryL [.ref 0, .ref 158] (mL M_l_redo)) [] (S, GJ J) (QW P) := by
  have hG : isD (GJ J) := lay_D J false
  show Z g M_l_redo 0 0 0 [some (.ref 0), some (.ref 158), none] [] (S, GJ J) (QW P)
  refine z_aload_n rfl rfl ?_
  refine z_iconst 0 rfl rfl ?_
  refine z_aload_n rfl rfl ?_
  refine z_cvC (M' := M_d_redo) [] rfl w_593 cv_d_redo.1 cv_d_redo.2.1 cv_d_redo.2.2.1 cv_d_redo.2.2.2 hG.1 (by decide) rfl rfl rfl rfl (zcd_redo (hx := rfl) hG htr hw) ?_ ?_ ?_
  · rintro r h' (⟨x, S', -, rfl, -⟩ | ⟨n, S', -, rfl, -⟩) hq <;> cases hq
  · rintro v h' (⟨x, S', hv, rfl, hp⟩ | ⟨n, S', hv, -, -⟩)
    · cases hv
      refine z_i2l rfl ?_
      refine z_last (n := 1) rfl t158 (vp_lit rfl) ?_
      refine z_goto rfl ?_
      refine z_iconst 0 rfl rfl ?_
      exact z_iret rfl rfl rfl rfl ⟨_, _, _, rfl, rfl, hp⟩
    · cases hv
  · rintro n h' (⟨x, S', hv, -, -⟩ | ⟨n', S', hv, rfl, hp⟩)
    · cases hv
    · cases hv
      obtain ⟨rfl, hp⟩ := hp
      refine ⟨11, 2, 12, ⟨0, 8, 34, _, Or.inl ⟨rfl, by decide, by decide, by decide, w_562⟩⟩, Or.inr ⟨2, _, rfl, rfl⟩, rfl, ?_⟩
      refine z_iconst 1 rfl rfl ?_
      exact z_iret rfl rfl rfl rfl ⟨_, _, _, rfl, rfl, hp⟩
def T_l_argument : List Row := [(0, .aload_n 3, 1, 1, 0), (1, .iconst 0, 1, 2, 0), (2, .aload_n 0, 1, 3, 0), (3, .iload_n 1, 1, 4, 0), (4, .iload_n 2, 1, 5, 0), (5, .invokevirtual 39, 3, 8, 0), (8, .i2l, 1, 9, 0), (9, .lastore, 1, 10, 0), (10, .goto 7, 3, 13, 17), (13, .astore 4, 2, 15, 0), (15, .iconst 1, 1, 16, 0), (16, .ireturn, 1, 17, 0), (17, .iconst 0, 1, 18, 0), (18, .ireturn, 1, 19, 0)]
abbrev M_l_argument : MI := (⟨"AmendedDrawingLaw", "argument", "(LAmendedDrawing;II[J)I"⟩, method_9_code, 5, some .int, { frames := 8, cells := 2, slots := 12, locals := 131 }, [(0, 10, 13, 21)], T_l_argument)
set_option maxRecDepth 100000 in
theorem ok_l_argument : okM M_l_argument := by unfold okM; decide +kernel
set_option maxRecDepth 100000 in
theorem cow_l_argument : COW M_l_argument := ⟨by decide, by decide +kernel, ok_l_argument, w_603, w_0, by decide⟩
theorem cst_l_argument : Cond.static (mY M_l_argument) ∈ TT := w_602
theorem np_l_argument : (parseMethodDescriptor (mY M_l_argument).desc).map (fun d => d.parameters.length) = some 4 := by decide +kernel
set_option maxRecDepth 100000 in
set_option maxHeartbeats 1000000 in
theorem zl_argument {g : Gm} {S : Mem} {J : Nat → Nat → Int64} {P : Int32 → Mem → (Nat → Nat → Int64) → Prop} {l1 : Int32} {l2 : Int32} (htr : ∀ e, (g_l g).admits e → e.platform.stackTraces = false)
    (hw : cd_argument (fun r S' => P 0 S' (up2 J 158 0 r.toInt64)) (fun n S' => (n = 3 ∧ P 1 S' J)) S l1 l2) : Z g M_l_argument 0 0 0 (entryL [.ref 0, .int l1, .int l2, .ref 158] (mL M_l_argument)) [] (S, GJ J) (QW P) := by
  have hG : isD (GJ J) := lay_D J false
  show Z g M_l_argument 0 0 0 [some (.ref 0), some (.int l1), some (.int l2), some (.ref 158), none] [] (S, GJ J) (QW P)
  refine z_aload_n rfl rfl ?_
  refine z_iconst 0 rfl rfl ?_
  refine z_aload_n rfl rfl ?_
  refine z_iload_n rfl rfl ?_
  refine z_iload_n rfl rfl ?_
  refine z_cvC (M' := M_d_argument) [.int l1, .int l2] rfl w_604 cv_d_argument.1 cv_d_argument.2.1 cv_d_argument.2.2.1 cv_d_argument.2.2.2 hG.1 (by decide) rfl rfl rfl rfl (zcd_argument (hx := rfl) hG htr hw) ?_ ?_ ?_
  · rintro r h' (⟨x, S', -, rfl, -⟩ | ⟨n, S', -, rfl, -⟩) hq <;> cases hq
  · rintro v h' (⟨x, S', hv, rfl, hp⟩ | ⟨n, S', hv, -, -⟩)
    · cases hv
      refine z_i2l rfl ?_
      refine z_last (n := 1) rfl t158 (vp_lit rfl) ?_
      refine z_goto rfl ?_
      refine z_iconst 0 rfl rfl ?_
      exact z_iret rfl rfl rfl rfl ⟨_, _, _, rfl, rfl, hp⟩
    · cases hv
  · rintro n h' (⟨x, S', hv, -, -⟩ | ⟨n', S', hv, rfl, hp⟩)
    · cases hv
    · cases hv
      obtain ⟨rfl, hp⟩ := hp
      refine ⟨13, 4, 15, ⟨0, 10, 21, _, Or.inl ⟨rfl, by decide, by decide, by decide, w_506⟩⟩, Or.inl ⟨_, rfl⟩, rfl, ?_⟩
      refine z_iconst 1 rfl rfl ?_
      exact z_iret rfl rfl rfl rfl ⟨_, _, _, rfl, rfl, hp⟩
def T_l_effect : List Row := [(0, .aload_n 2, 1, 1, 0), (1, .iconst 0, 1, 2, 0), (2, .aload_n 0, 1, 3, 0), (3, .iload_n 1, 1, 4, 0), (4, .invokevirtual 43, 3, 7, 0), (7, .i2l, 1, 8, 0), (8, .lastore, 1, 9, 0), (9, .goto 6, 3, 12, 15), (12, .astore_n 3, 1, 13, 0), (13, .iconst 1, 1, 14, 0), (14, .ireturn, 1, 15, 0), (15, .iconst 0, 1, 16, 0), (16, .ireturn, 1, 17, 0)]
abbrev M_l_effect : MI := (⟨"AmendedDrawingLaw", "effect", "(LAmendedDrawing;I[J)I"⟩, method_10_code, 4, some .int, { frames := 8, cells := 1, slots := 6, locals := 130 }, [(0, 9, 12, 21)], T_l_effect)
set_option maxRecDepth 100000 in
theorem ok_l_effect : okM M_l_effect := by unfold okM; decide +kernel
set_option maxRecDepth 100000 in
theorem cow_l_effect : COW M_l_effect := ⟨by decide, by decide +kernel, ok_l_effect, w_610, w_0, by decide⟩
theorem cst_l_effect : Cond.static (mY M_l_effect) ∈ TT := w_609
theorem np_l_effect : (parseMethodDescriptor (mY M_l_effect).desc).map (fun d => d.parameters.length) = some 3 := by decide +kernel
set_option maxRecDepth 100000 in
set_option maxHeartbeats 1000000 in
theorem zl_effect {g : Gm} {S : Mem} {J : Nat → Nat → Int64} {P : Int32 → Mem → (Nat → Nat → Int64) → Prop} {l1 : Int32} (htr : ∀ e, (g_l g).admits e → e.platform.stackTraces = false)
    (hw : cd_effect (fun r S' => P 0 S' (up2 J 158 0 r.toInt64)) (fun n S' => (n = 3 ∧ P 1 S' J)) S l1) : Z g M_l_effect 0 0 0 (entryL [.ref 0, .int l1, .ref 158] (mL M_l_effect)) [] (S, GJ J) (QW P) := by
  have hG : isD (GJ J) := lay_D J false
  show Z g M_l_effect 0 0 0 [some (.ref 0), some (.int l1), some (.ref 158), none] [] (S, GJ J) (QW P)
  refine z_aload_n rfl rfl ?_
  refine z_iconst 0 rfl rfl ?_
  refine z_aload_n rfl rfl ?_
  refine z_iload_n rfl rfl ?_
  refine z_cvC (M' := M_d_effect) [.int l1] rfl w_611 cv_d_effect.1 cv_d_effect.2.1 cv_d_effect.2.2.1 cv_d_effect.2.2.2 hG.1 (by decide) rfl rfl rfl rfl (zcd_effect (hx := rfl) hG htr hw) ?_ ?_ ?_
  · rintro r h' (⟨x, S', -, rfl, -⟩ | ⟨n, S', -, rfl, -⟩) hq <;> cases hq
  · rintro v h' (⟨x, S', hv, rfl, hp⟩ | ⟨n, S', hv, -, -⟩)
    · cases hv
      refine z_i2l rfl ?_
      refine z_last (n := 1) rfl t158 (vp_lit rfl) ?_
      refine z_goto rfl ?_
      refine z_iconst 0 rfl rfl ?_
      exact z_iret rfl rfl rfl rfl ⟨_, _, _, rfl, rfl, hp⟩
    · cases hv
  · rintro n h' (⟨x, S', hv, -, -⟩ | ⟨n', S', hv, rfl, hp⟩)
    · cases hv
    · cases hv
      obtain ⟨rfl, hp⟩ := hp
      refine ⟨12, 3, 13, ⟨0, 9, 21, _, Or.inl ⟨rfl, by decide, by decide, by decide, w_506⟩⟩, Or.inr ⟨3, _, rfl, rfl⟩, rfl, ?_⟩
      refine z_iconst 1 rfl rfl ?_
      exact z_iret rfl rfl rfl rfl ⟨_, _, _, rfl, rfl, hp⟩
def T_l_needed : List Row := [(0, .aload_n 3, 1, 1, 0), (1, .iconst 0, 1, 2, 0), (2, .aload_n 0, 1, 3, 0), (3, .iload_n 1, 1, 4, 0), (4, .iload_n 2, 1, 5, 0), (5, .invokevirtual 46, 3, 8, 0), (8, .i2l, 1, 9, 0), (9, .lastore, 1, 10, 0), (10, .goto 7, 3, 13, 17), (13, .astore 4, 2, 15, 0), (15, .iconst 1, 1, 16, 0), (16, .ireturn, 1, 17, 0), (17, .iconst 0, 1, 18, 0), (18, .ireturn, 1, 19, 0)]
abbrev M_l_needed : MI := (⟨"AmendedDrawingLaw", "needed", "(LAmendedDrawing;II[J)I"⟩, method_11_code, 5, some .int, { frames := 8, cells := 1, slots := 6, locals := 182 }, [(0, 10, 13, 21)], T_l_needed)
set_option maxRecDepth 100000 in
theorem ok_l_needed : okM M_l_needed := by unfold okM; decide +kernel
set_option maxRecDepth 100000 in
theorem cow_l_needed : COW M_l_needed := ⟨by decide, by decide +kernel, ok_l_needed, w_617, w_0, by decide⟩
theorem cst_l_needed : Cond.static (mY M_l_needed) ∈ TT := w_616
theorem np_l_needed : (parseMethodDescriptor (mY M_l_needed).desc).map (fun d => d.parameters.length) = some 4 := by decide +kernel
set_option maxRecDepth 100000 in
set_option maxHeartbeats 1000000 in
theorem zl_needed {g : Gm} {S : Mem} {J : Nat → Nat → Int64} {P : Int32 → Mem → (Nat → Nat → Int64) → Prop} {l1 : Int32} {l2 : Int32} (htr : ∀ e, (g_l g).admits e → e.platform.stackTraces = false)
    (hw : cd_needed (fun r S' => P 0 S' (up2 J 158 0 r.toInt64)) (fun n S' => (n = 3 ∧ P 1 S' J)) S l1 l2) : Z g M_l_needed 0 0 0 (entryL [.ref 0, .int l1, .int l2, .ref 158] (mL M_l_needed)) [] (S, GJ J) (QW P) := by
  have hG : isD (GJ J) := lay_D J false
  show Z g M_l_needed 0 0 0 [some (.ref 0), some (.int l1), some (.int l2), some (.ref 158), none] [] (S, GJ J) (QW P)
  refine z_aload_n rfl rfl ?_
  refine z_iconst 0 rfl rfl ?_
  refine z_aload_n rfl rfl ?_
  refine z_iload_n rfl rfl ?_
  refine z_iload_n rfl rfl ?_
  refine z_cvC (M' := M_d_needed) [.int l1, .int l2] rfl w_618 cv_d_needed.1 cv_d_needed.2.1 cv_d_needed.2.2.1 cv_d_needed.2.2.2 hG.1 (by decide) rfl rfl rfl rfl (zcd_needed (hx := rfl) hG htr hw) ?_ ?_ ?_
  · rintro r h' (⟨x, S', -, rfl, -⟩ | ⟨n, S', -, rfl, -⟩) hq <;> cases hq
  · rintro v h' (⟨x, S', hv, rfl, hp⟩ | ⟨n, S', hv, -, -⟩)
    · cases hv
      refine z_i2l rfl ?_
      refine z_last (n := 1) rfl t158 (vp_lit rfl) ?_
      refine z_goto rfl ?_
      refine z_iconst 0 rfl rfl ?_
      exact z_iret rfl rfl rfl rfl ⟨_, _, _, rfl, rfl, hp⟩
    · cases hv
  · rintro n h' (⟨x, S', hv, -, -⟩ | ⟨n', S', hv, rfl, hp⟩)
    · cases hv
    · cases hv
      obtain ⟨rfl, hp⟩ := hp
      refine ⟨13, 4, 15, ⟨0, 10, 21, _, Or.inl ⟨rfl, by decide, by decide, by decide, w_506⟩⟩, Or.inl ⟨_, rfl⟩, rfl, ?_⟩
      refine z_iconst 1 rfl rfl ?_
      exact z_iret rfl rfl rfl rfl ⟨_, _, _, rfl, rfl, hp⟩
def T_l_needs : List Row := [(0, .aload_n 3, 1, 1, 0), (1, .iconst 0, 1, 2, 0), (2, .aload_n 0, 1, 3, 0), (3, .iload_n 1, 1, 4, 0), (4, .iload_n 2, 1, 5, 0), (5, .invokevirtual 49, 3, 8, 0), (8, .i2l, 1, 9, 0), (9, .lastore, 1, 10, 0), (10, .goto 7, 3, 13, 17), (13, .astore 4, 2, 15, 0), (15, .iconst 1, 1, 16, 0), (16, .ireturn, 1, 17, 0), (17, .iconst 0, 1, 18, 0), (18, .ireturn, 1, 19, 0)]
abbrev M_l_needs : MI := (⟨"AmendedDrawingLaw", "needs", "(LAmendedDrawing;II[J)I"⟩, method_12_code, 5, some .int, { frames := 8, cells := 1, slots := 6, locals := 182 }, [(0, 10, 13, 21)], T_l_needs)
set_option maxRecDepth 100000 in
theorem ok_l_needs : okM M_l_needs := by unfold okM; decide +kernel
set_option maxRecDepth 100000 in
theorem cow_l_needs : COW M_l_needs := ⟨by decide, by decide +kernel, ok_l_needs, w_624, w_0, by decide⟩
theorem cst_l_needs : Cond.static (mY M_l_needs) ∈ TT := w_623
theorem np_l_needs : (parseMethodDescriptor (mY M_l_needs).desc).map (fun d => d.parameters.length) = some 4 := by decide +kernel
set_option maxRecDepth 100000 in
set_option maxHeartbeats 1000000 in
theorem zl_needs {g : Gm} {S : Mem} {J : Nat → Nat → Int64} {P : Int32 → Mem → (Nat → Nat → Int64) → Prop} {l1 : Int32} {l2 : Int32} (htr : ∀ e, (g_l g).admits e → e.platform.stackTraces = false)
    (hw : cd_needs (fun r S' => P 0 S' (up2 J 158 0 r.toInt64)) (fun n S' => (n = 3 ∧ P 1 S' J)) S l1 l2) : Z g M_l_needs 0 0 0 (entryL [.ref 0, .int l1, .int l2, .ref 158] (mL M_l_needs)) [] (S, GJ J) (QW P) := by
  have hG : isD (GJ J) := lay_D J false
  show Z g M_l_needs 0 0 0 [some (.ref 0), some (.int l1), some (.int l2), some (.ref 158), none] [] (S, GJ J) (QW P)
  refine z_aload_n rfl rfl ?_
  refine z_iconst 0 rfl rfl ?_
  refine z_aload_n rfl rfl ?_
  refine z_iload_n rfl rfl ?_
  refine z_iload_n rfl rfl ?_
  refine z_cvC (M' := M_d_needs) [.int l1, .int l2] rfl w_625 cv_d_needs.1 cv_d_needs.2.1 cv_d_needs.2.2.1 cv_d_needs.2.2.2 hG.1 (by decide) rfl rfl rfl rfl (zcd_needs (hx := rfl) hG htr hw) ?_ ?_ ?_
  · rintro r h' (⟨x, S', -, rfl, -⟩ | ⟨n, S', -, rfl, -⟩) hq <;> cases hq
  · rintro v h' (⟨x, S', hv, rfl, hp⟩ | ⟨n, S', hv, -, -⟩)
    · cases hv
      refine z_i2l rfl ?_
      refine z_last (n := 1) rfl t158 (vp_lit rfl) ?_
      refine z_goto rfl ?_
      refine z_iconst 0 rfl rfl ?_
      exact z_iret rfl rfl rfl rfl ⟨_, _, _, rfl, rfl, hp⟩
    · cases hv
  · rintro n h' (⟨x, S', hv, -, -⟩ | ⟨n', S', hv, rfl, hp⟩)
    · cases hv
    · cases hv
      obtain ⟨rfl, hp⟩ := hp
      refine ⟨13, 4, 15, ⟨0, 10, 21, _, Or.inl ⟨rfl, by decide, by decide, by decide, w_506⟩⟩, Or.inl ⟨_, rfl⟩, rfl, ?_⟩
      refine z_iconst 1 rfl rfl ?_
      exact z_iret rfl rfl rfl rfl ⟨_, _, _, rfl, rfl, hp⟩
def T_l_object : List Row := [(0, .aload_n 3, 1, 1, 0), (1, .iconst 0, 1, 2, 0), (2, .aload_n 0, 1, 3, 0), (3, .iload_n 1, 1, 4, 0), (4, .iload_n 2, 1, 5, 0), (5, .invokevirtual 52, 3, 8, 0), (8, .i2l, 1, 9, 0), (9, .lastore, 1, 10, 0), (10, .goto 7, 3, 13, 17), (13, .astore 4, 2, 15, 0), (15, .iconst 1, 1, 16, 0), (16, .ireturn, 1, 17, 0), (17, .iconst 0, 1, 18, 0), (18, .ireturn, 1, 19, 0)]
abbrev M_l_object : MI := (⟨"AmendedDrawingLaw", "object", "(LAmendedDrawing;II[J)I"⟩, method_13_code, 5, some .int, { frames := 7, cells := 1, slots := 6, locals := 117 }, [(0, 10, 13, 21)], T_l_object)
set_option maxRecDepth 100000 in
theorem ok_l_object : okM M_l_object := by unfold okM; decide +kernel
set_option maxRecDepth 100000 in
theorem cow_l_object : COW M_l_object := ⟨by decide, by decide +kernel, ok_l_object, w_631, w_0, by decide⟩
theorem cst_l_object : Cond.static (mY M_l_object) ∈ TT := w_630
theorem np_l_object : (parseMethodDescriptor (mY M_l_object).desc).map (fun d => d.parameters.length) = some 4 := by decide +kernel
set_option maxRecDepth 100000 in
set_option maxHeartbeats 1000000 in
theorem zl_object {g : Gm} {S : Mem} {J : Nat → Nat → Int64} {P : Int32 → Mem → (Nat → Nat → Int64) → Prop} {l1 : Int32} {l2 : Int32} (htr : ∀ e, (g_l g).admits e → e.platform.stackTraces = false)
    (hw : cd_object (fun r S' => P 0 S' (up2 J 158 0 r.toInt64)) (fun n S' => (n = 3 ∧ P 1 S' J)) S l1 l2) : Z g M_l_object 0 0 0 (entryL [.ref 0, .int l1, .int l2, .ref 158] (mL M_l_object)) [] (S, GJ J) (QW P) := by
  have hG : isD (GJ J) := lay_D J false
  show Z g M_l_object 0 0 0 [some (.ref 0), some (.int l1), some (.int l2), some (.ref 158), none] [] (S, GJ J) (QW P)
  refine z_aload_n rfl rfl ?_
  refine z_iconst 0 rfl rfl ?_
  refine z_aload_n rfl rfl ?_
  refine z_iload_n rfl rfl ?_
  refine z_iload_n rfl rfl ?_
  refine z_cvC (M' := M_d_object) [.int l1, .int l2] rfl w_632 cv_d_object.1 cv_d_object.2.1 cv_d_object.2.2.1 cv_d_object.2.2.2 hG.1 (by decide) rfl rfl rfl rfl (zcd_object (hx := rfl) hG htr hw) ?_ ?_ ?_
  · rintro r h' (⟨x, S', -, rfl, -⟩ | ⟨n, S', -, rfl, -⟩) hq <;> cases hq
  · rintro v h' (⟨x, S', hv, rfl, hp⟩ | ⟨n, S', hv, -, -⟩)
    · cases hv
      refine z_i2l rfl ?_
      refine z_last (n := 1) rfl t158 (vp_lit rfl) ?_
      refine z_goto rfl ?_
      refine z_iconst 0 rfl rfl ?_
      exact z_iret rfl rfl rfl rfl ⟨_, _, _, rfl, rfl, hp⟩
    · cases hv
  · rintro n h' (⟨x, S', hv, -, -⟩ | ⟨n', S', hv, rfl, hp⟩)
    · cases hv
    · cases hv
      obtain ⟨rfl, hp⟩ := hp
      refine ⟨13, 4, 15, ⟨0, 10, 21, _, Or.inl ⟨rfl, by decide, by decide, by decide, w_506⟩⟩, Or.inl ⟨_, rfl⟩, rfl, ?_⟩
      refine z_iconst 1 rfl rfl ?_
      exact z_iret rfl rfl rfl rfl ⟨_, _, _, rfl, rfl, hp⟩
def T_l_shown : List Row := [(0, .aload 5, 2, 2, 0), (2, .iconst 0, 1, 3, 0), (3, .aload_n 0, 1, 4, 0), (4, .iload_n 1, 1, 5, 0), (5, .iload_n 2, 1, 6, 0), (6, .iload_n 3, 1, 7, 0), (7, .iload 4, 2, 9, 0), (9, .invokevirtual 55, 3, 12, 0), (12, .i2l, 1, 13, 0), (13, .lastore, 1, 14, 0), (14, .goto 7, 3, 17, 21), (17, .astore 6, 2, 19, 0), (19, .iconst 1, 1, 20, 0), (20, .ireturn, 1, 21, 0), (21, .iconst 0, 1, 22, 0), (22, .ireturn, 1, 23, 0)]
abbrev M_l_shown : MI := (⟨"AmendedDrawingLaw", "shown", "(LAmendedDrawing;IIII[J)I"⟩, method_14_code, 7, some .int, { frames := 7, cells := 1, slots := 6, locals := 125 }, [(0, 14, 17, 13)], T_l_shown)
set_option maxRecDepth 100000 in
theorem ok_l_shown : okM M_l_shown := by unfold okM; decide +kernel
set_option maxRecDepth 100000 in
theorem cow_l_shown : COW M_l_shown := ⟨by decide, by decide +kernel, ok_l_shown, w_642, w_0, by decide⟩
theorem cst_l_shown : Cond.static (mY M_l_shown) ∈ TT := w_641
theorem np_l_shown : (parseMethodDescriptor (mY M_l_shown).desc).map (fun d => d.parameters.length) = some 6 := by decide +kernel
set_option maxRecDepth 100000 in
set_option maxHeartbeats 1000000 in
theorem zl_shown {g : Gm} {S : Mem} {J : Nat → Nat → Int64} {P : Int32 → Mem → (Nat → Nat → Int64) → Prop} {l1 : Int32} {l2 : Int32} {l3 : Int32} {l4 : Int32} (htr : ∀ e, (g_l g).admits e → e.platform.stackTraces = false)
    (hw : cd_shown (fun r S' => P 0 S' (up2 J 158 0 r.toInt64)) (fun n S' => (n = 1 ∧ P 1 S' J)) S l1 l2 l3 l4) : Z g M_l_shown 0 0 0 (entryL [.ref 0, .int l1, .int l2, .int l3, .int l4, .ref 158] (mL M_l_shown)) [] (S, GJ J) (QW P) := by
  have hG : isD (GJ J) := lay_D J false
  show Z g M_l_shown 0 0 0 [some (.ref 0), some (.int l1), some (.int l2), some (.int l3), some (.int l4), some (.ref 158), none] [] (S, GJ J) (QW P)
  refine z_aload rfl rfl ?_
  refine z_iconst 0 rfl rfl ?_
  refine z_aload_n rfl rfl ?_
  refine z_iload_n rfl rfl ?_
  refine z_iload_n rfl rfl ?_
  refine z_iload_n rfl rfl ?_
  refine z_iload rfl rfl ?_
  refine z_cvC (M' := M_d_shown) [.int l1, .int l2, .int l3, .int l4] rfl w_643 cv_d_shown.1 cv_d_shown.2.1 cv_d_shown.2.2.1 cv_d_shown.2.2.2 hG.1 (by decide) rfl rfl rfl rfl (zcd_shown (hx := rfl) hG htr hw) ?_ ?_ ?_
  · rintro r h' (⟨x, S', -, rfl, -⟩ | ⟨n, S', -, rfl, -⟩) hq <;> cases hq
  · rintro v h' (⟨x, S', hv, rfl, hp⟩ | ⟨n, S', hv, -, -⟩)
    · cases hv
      refine z_i2l rfl ?_
      refine z_last (n := 1) rfl t158 (vp_lit rfl) ?_
      refine z_goto rfl ?_
      refine z_iconst 0 rfl rfl ?_
      exact z_iret rfl rfl rfl rfl ⟨_, _, _, rfl, rfl, hp⟩
    · cases hv
  · rintro n h' (⟨x, S', hv, -, -⟩ | ⟨n', S', hv, rfl, hp⟩)
    · cases hv
    · cases hv
      obtain ⟨rfl, hp⟩ := hp
      refine ⟨17, 6, 19, ⟨0, 14, 13, _, Or.inl ⟨rfl, by decide, by decide, by decide, w_241⟩⟩, Or.inl ⟨_, rfl⟩, rfl, ?_⟩
      refine z_iconst 1 rfl rfl ?_
      exact z_iret rfl rfl rfl rfl ⟨_, _, _, rfl, rfl, hp⟩
