set_option maxRecDepth 20000 in
theorem w_21 : (Jvm.Cond.instanceMethod ({ cls := "AmendedDrawing", name := "<init>", desc := "()V" } : Jvm.MethodName)) ∈ TT := tt_mem 21 rfl rfl
set_option maxRecDepth 20000 in
theorem w_22 : (Jvm.Cond.code ({ cls := "AmendedDrawing", name := "<init>", desc := "()V" } : Jvm.MethodName) prog_1_method_1_code (2 : Nat) (Option.none : Option Jvm.ClassFile.FieldType)) ∈ TT := tt_mem 22 rfl rfl
set_option maxRecDepth 20000 in
theorem w_23 : (Jvm.Cond.methodLink "AmendedDrawing" (1 : Nat) ({ cls := "java/lang/Object", name := "<init>", desc := "()V" } : Jvm.MethodName)) ∈ TT := tt_mem 23 rfl rfl
set_option maxRecDepth 20000 in
theorem w_24 : (Jvm.Cond.instanceMethod ({ cls := "java/lang/Object", name := "<init>", desc := "()V" } : Jvm.MethodName)) ∈ TT := tt_mem 24 rfl rfl
set_option maxRecDepth 20000 in
theorem w_25 : (Jvm.Cond.code ({ cls := "java/lang/Object", name := "<init>", desc := "()V" } : Jvm.MethodName) object_method_1_code (1 : Nat) (Option.none : Option Jvm.ClassFile.FieldType)) ∈ TT := tt_mem 25 rfl rfl
set_option maxRecDepth 20000 in
theorem w_26 : (Jvm.Cond.classLink "AmendedDrawing" (9 : Nat) "AmendedDrawing$Action") ∈ TT := tt_mem 26 rfl rfl
set_option maxRecDepth 20000 in
theorem w_28 : (Jvm.Cond.instantiable "AmendedDrawing$Action" (3 : Nat)) ∈ TT := tt_mem 28 rfl rfl
set_option maxRecDepth 20000 in
theorem w_29 : (Jvm.Cond.methodLink "AmendedDrawing" (15 : Nat) ({ cls := "AmendedDrawing$Action", name := "<init>", desc := "()V" } : Jvm.MethodName)) ∈ TT := tt_mem 29 rfl rfl
set_option maxRecDepth 20000 in
theorem w_30 : (Jvm.Cond.instanceMethod ({ cls := "AmendedDrawing$Action", name := "<init>", desc := "()V" } : Jvm.MethodName)) ∈ TT := tt_mem 30 rfl rfl
set_option maxRecDepth 20000 in
theorem w_31 : (Jvm.Cond.code ({ cls := "AmendedDrawing$Action", name := "<init>", desc := "()V" } : Jvm.MethodName) prog_2_method_1_code (1 : Nat) (Option.none : Option Jvm.ClassFile.FieldType)) ∈ TT := tt_mem 31 rfl rfl
set_option maxRecDepth 20000 in
theorem w_32 : (Jvm.Cond.methodLink "AmendedDrawing$Action" (3 : Nat) ({ cls := "java/lang/Object", name := "<init>", desc := "()V" } : Jvm.MethodName)) ∈ TT := tt_mem 32 rfl rfl
set_option maxRecDepth 20000 in
theorem w_49 : (Jvm.Cond.arrayClass Jvm.ClassFile.FieldType.int) ∈ TT := tt_mem 49 rfl rfl
set_option maxRecDepth 20000 in
theorem w_50 : (Jvm.Cond.classLink "AmendedDrawing" (20 : Nat) "AmendedDrawing$History") ∈ TT := tt_mem 50 rfl rfl
set_option maxRecDepth 20000 in
theorem w_51 : (Jvm.Cond.instantiable "AmendedDrawing$History" (4 : Nat)) ∈ TT := tt_mem 51 rfl rfl
set_option maxRecDepth 20000 in
theorem w_52 : (Jvm.Cond.methodLink "AmendedDrawing" (22 : Nat) ({ cls := "AmendedDrawing$History", name := "<init>", desc := "()V" } : Jvm.MethodName)) ∈ TT := tt_mem 52 rfl rfl
set_option maxRecDepth 20000 in
theorem w_53 : (Jvm.Cond.instanceMethod ({ cls := "AmendedDrawing$History", name := "<init>", desc := "()V" } : Jvm.MethodName)) ∈ TT := tt_mem 53 rfl rfl
set_option maxRecDepth 20000 in
theorem w_54 : (Jvm.Cond.code ({ cls := "AmendedDrawing$History", name := "<init>", desc := "()V" } : Jvm.MethodName) prog_5_method_1_code (2 : Nat) (Option.none : Option Jvm.ClassFile.FieldType)) ∈ TT := tt_mem 54 rfl rfl
set_option maxRecDepth 20000 in
theorem w_55 : (Jvm.Cond.methodLink "AmendedDrawing$History" (3 : Nat) ({ cls := "java/lang/Object", name := "<init>", desc := "()V" } : Jvm.MethodName)) ∈ TT := tt_mem 55 rfl rfl
set_option maxRecDepth 20000 in
theorem w_56 : (Jvm.Cond.classLink "AmendedDrawing$History" (9 : Nat) "AmendedDrawing$Edit") ∈ TT := tt_mem 56 rfl rfl
set_option maxRecDepth 20000 in
theorem w_58 : (Jvm.Cond.instantiable "AmendedDrawing$Edit" (5 : Nat)) ∈ TT := tt_mem 58 rfl rfl
set_option maxRecDepth 20000 in
theorem w_60 : (Jvm.Cond.instanceMethod ({ cls := "AmendedDrawing$Edit", name := "<init>", desc := "()V" } : Jvm.MethodName)) ∈ TT := tt_mem 60 rfl rfl
set_option maxRecDepth 20000 in
theorem w_61 : (Jvm.Cond.code ({ cls := "AmendedDrawing$Edit", name := "<init>", desc := "()V" } : Jvm.MethodName) prog_4_method_1_code (1 : Nat) (Option.none : Option Jvm.ClassFile.FieldType)) ∈ TT := tt_mem 61 rfl rfl
set_option maxRecDepth 20000 in
theorem w_62 : (Jvm.Cond.methodLink "AmendedDrawing$Edit" (1 : Nat) ({ cls := "java/lang/Object", name := "<init>", desc := "()V" } : Jvm.MethodName)) ∈ TT := tt_mem 62 rfl rfl
set_option maxRecDepth 20000 in
theorem w_99 : (Jvm.Cond.classLink "AmendedDrawing" (27 : Nat) "AmendedDrawing$Outcome") ∈ TT := tt_mem 99 rfl rfl
set_option maxRecDepth 20000 in
theorem w_100 : (Jvm.Cond.instantiable "AmendedDrawing$Outcome" (3 : Nat)) ∈ TT := tt_mem 100 rfl rfl
set_option maxRecDepth 20000 in
theorem w_101 : (Jvm.Cond.methodLink "AmendedDrawing" (29 : Nat) ({ cls := "AmendedDrawing$Outcome", name := "<init>", desc := "()V" } : Jvm.MethodName)) ∈ TT := tt_mem 101 rfl rfl
set_option maxRecDepth 20000 in
theorem w_102 : (Jvm.Cond.instanceMethod ({ cls := "AmendedDrawing$Outcome", name := "<init>", desc := "()V" } : Jvm.MethodName)) ∈ TT := tt_mem 102 rfl rfl
set_option maxRecDepth 20000 in
theorem w_103 : (Jvm.Cond.code ({ cls := "AmendedDrawing$Outcome", name := "<init>", desc := "()V" } : Jvm.MethodName) prog_7_method_1_code (1 : Nat) (Option.none : Option Jvm.ClassFile.FieldType)) ∈ TT := tt_mem 103 rfl rfl
set_option maxRecDepth 20000 in
theorem w_104 : (Jvm.Cond.methodLink "AmendedDrawing$Outcome" (3 : Nat) ({ cls := "java/lang/Object", name := "<init>", desc := "()V" } : Jvm.MethodName)) ∈ TT := tt_mem 104 rfl rfl
set_option maxRecDepth 20000 in
theorem w_105 : (Jvm.Cond.classLink "AmendedDrawing$Outcome" (9 : Nat) "AmendedDrawing$Drawing") ∈ TT := tt_mem 105 rfl rfl
set_option maxRecDepth 20000 in
theorem w_106 : (Jvm.Cond.instantiable "AmendedDrawing$Drawing" (4 : Nat)) ∈ TT := tt_mem 106 rfl rfl
set_option maxRecDepth 20000 in
theorem w_107 : (Jvm.Cond.methodLink "AmendedDrawing$Outcome" (11 : Nat) ({ cls := "AmendedDrawing$Drawing", name := "<init>", desc := "()V" } : Jvm.MethodName)) ∈ TT := tt_mem 107 rfl rfl
set_option maxRecDepth 20000 in
theorem w_108 : (Jvm.Cond.instanceMethod ({ cls := "AmendedDrawing$Drawing", name := "<init>", desc := "()V" } : Jvm.MethodName)) ∈ TT := tt_mem 108 rfl rfl
set_option maxRecDepth 20000 in
theorem w_109 : (Jvm.Cond.code ({ cls := "AmendedDrawing$Drawing", name := "<init>", desc := "()V" } : Jvm.MethodName) prog_3_method_1_code (2 : Nat) (Option.none : Option Jvm.ClassFile.FieldType)) ∈ TT := tt_mem 109 rfl rfl
set_option maxRecDepth 20000 in
theorem w_110 : (Jvm.Cond.methodLink "AmendedDrawing$Drawing" (3 : Nat) ({ cls := "java/lang/Object", name := "<init>", desc := "()V" } : Jvm.MethodName)) ∈ TT := tt_mem 110 rfl rfl
set_option maxRecDepth 20000 in
theorem w_111 : (Jvm.Cond.classLink "AmendedDrawing$Drawing" (9 : Nat) "AmendedDrawing$Item") ∈ TT := tt_mem 111 rfl rfl
set_option maxRecDepth 20000 in
theorem w_113 : (Jvm.Cond.instantiable "AmendedDrawing$Item" (8 : Nat)) ∈ TT := tt_mem 113 rfl rfl
set_option maxRecDepth 20000 in
theorem w_115 : (Jvm.Cond.instanceMethod ({ cls := "AmendedDrawing$Item", name := "<init>", desc := "()V" } : Jvm.MethodName)) ∈ TT := tt_mem 115 rfl rfl
set_option maxRecDepth 20000 in
theorem w_116 : (Jvm.Cond.code ({ cls := "AmendedDrawing$Item", name := "<init>", desc := "()V" } : Jvm.MethodName) prog_6_method_1_code (1 : Nat) (Option.none : Option Jvm.ClassFile.FieldType)) ∈ TT := tt_mem 116 rfl rfl
set_option maxRecDepth 20000 in
theorem w_117 : (Jvm.Cond.methodLink "AmendedDrawing$Item" (3 : Nat) ({ cls := "java/lang/Object", name := "<init>", desc := "()V" } : Jvm.MethodName)) ∈ TT := tt_mem 117 rfl rfl
set_option maxRecDepth 20000 in
theorem w_655 : (Jvm.Cond.instanceMethod ({ cls := "AmendedDrawingModel", name := "<init>", desc := "()V" } : Jvm.MethodName)) ∈ TT := tt_mem 655 rfl rfl
set_option maxRecDepth 20000 in
theorem w_656 : (Jvm.Cond.code ({ cls := "AmendedDrawingModel", name := "<init>", desc := "()V" } : Jvm.MethodName) prog_9_method_1_code (1 : Nat) (Option.none : Option Jvm.ClassFile.FieldType)) ∈ TT := tt_mem 656 rfl rfl
set_option maxRecDepth 20000 in
theorem w_657 : (Jvm.Cond.methodLink "AmendedDrawingModel" (1 : Nat) ({ cls := "java/lang/Object", name := "<init>", desc := "()V" } : Jvm.MethodName)) ∈ TT := tt_mem 657 rfl rfl
set_option maxRecDepth 20000 in
theorem w_716 : (Jvm.Cond.arrayClass Jvm.ClassFile.FieldType.boolean) ∈ TT := tt_mem 716 rfl rfl
/-! The constructors: all ints stay 0; cells come to lie in the order in which they are made -/
abbrev S0 : Mem := fun _ _ => 0
abbrev J0 : Nat → Nat → Int64 := fun _ _ => 0
theorem up2_0 (k i : Nat) : up2 S0 k i 0 = S0 := by
  funext a b
  simp [up2]
theorem rs2_0 (n : Nat) : rs2 S0 n (fun _ => 0) = S0 := by
  funext a b
  simp only [rs2]
  split <;> rfl
theorem rs2_J (n : Nat) : rs2 J0 n (fun _ => 0) = J0 := by
  funext a b
  simp only [rs2]
  split <;> rfl
def frs (P : Nat → Nat → Option Nat) (n : Nat) : Prop := ∀ a, n ≤ a → P a = fun _ => none
theorem rs2_P {P : Nat → Nat → Option Nat} {n : Nat} (h : frs P n) : rs2 P n (fun _ => none) = P := by
  funext a b
  simp only [rs2]
  split
  · rename_i q
    subst q
    rw [h a (Nat.le_refl _)]
  · rfl
theorem newH_0 {P : Nat → Nat → Option Nat} {T : List (Nat × Nat)} (hP : frs P T.length) (ct : Nat × Nat) : newH (S0, J0, P, T, true) ct = (S0, J0, P, T ++ [ct], true) := by
  simp only [newH, rs2_0, rs2_J, rs2_P hP]
theorem frs.up {P : Nat → Nat → Option Nat} {n k i : Nat} {v : Option Nat} (h : frs P n) (hk : k < n) : frs (up2 P k i v) n := fun a ha => by
  rw [up2_ne P k i v a (by omega)]
  exact h a ha
theorem frs.le {P : Nat → Nat → Option Nat} {n m : Nat} (h : frs P n) (hm : n ≤ m) : frs P m := fun a ha => h a (Nat.le_trans hm ha)
section ZI
variable {g : Gm} {M : MI} {c sl pc nx tg : Nat} {L : List (Option Value)} {st : List Value} {Q : Rs → Hp → Prop} {P : Nat → Nat → Option Nat} {T : List (Nat × Nat)} {n : Nat}
theorem z_new0 {ix ci : Nat} (hn : T.length = n) (hP : frs P n) (hi : fI M pc = some (.new ix, 3, nx, tg)) (hci : ci < 8) (hw : Cond.classLink (mY M).cls ix (cC ci) ∈ TT) (h1 : Cond.instantiable (cC ci) (cN ci) ∈ TT) (h2 : Cond.initialized (cC ci) ∈ TT) (hc : Nat.ble (c + 1) (mM M).cells = true) (hs : Nat.ble (sl + cN ci) (mM M).slots = true)
    (kk : Z g M (c + 1) (sl + cN ci) nx L (.ref n :: st) (S0, J0, P, T ++ [(0, ci)], true) Q) : Z g M c sl pc L st (S0, J0, P, T, true) Q := by
  subst hn
  exact z_new hi hci hw h1 h2 rfl hc hs (by rw [newH_0 hP]; exact kk)
theorem z_newarr0 {at0 : ArrayType} {v : Int32} (kd N : Nat) (hn : T.length = n) (hP : frs P n) (hi : fI M pc = some (.newarray at0, 2, nx, tg)) (ht0 : (at0, kd) = (.int, 1) ∨ (at0, kd) = (.boolean, 2) ∨ (at0, kd) = (.long, 3)) (hw : Cond.arrayClass (newarray.typeOf at0) ∈ TT) (hn0 : ¬ v < 0) (hN : v.toNatClampNeg = N) (hN1 : Nat.ble N 1000 = true) (hc : Nat.ble (c + 1) (mM M).cells = true) (hs : Nat.ble (sl + N) (mM M).slots = true)
    (kk : Z g M (c + 1) (sl + N) nx L (.ref n :: st) (S0, J0, P, T ++ [(kd, N)], true) Q) : Z g M c sl pc L (.int v :: st) (S0, J0, P, T, true) Q := by
  subst hn
  exact z_newarr hi ht0 hw rfl hn0 hN hN1 hc hs (by rw [newH_0 hP]; exact kk)
theorem z_anew0 {ix : Nat} {v : Int32} {C : String} (kd N : Nat) (hn : T.length = n) (hP : frs P n) (hi : fI M pc = some (.anewarray ix, 3, nx, tg)) (hk : (kd = 4 ∧ C = R_Action) ∨ (kd = 5 ∧ C = R_Edit) ∨ (kd = 6 ∧ C = R_Item)) (hw : Cond.classLink (mY M).cls ix C ∈ TT) (hn0 : ¬ v < 0) (hN : v.toNatClampNeg = N) (hN1 : Nat.ble N 1000 = true) (hc : Nat.ble (c + 1) (mM M).cells = true) (hs : Nat.ble (sl + N) (mM M).slots = true)
    (kk : Z g M (c + 1) (sl + N) nx L (.ref n :: st) (S0, J0, P, T ++ [(kd, N)], true) Q) : Z g M c sl pc L (.int v :: st) (S0, J0, P, T, true) Q := by
  subst hn
  exact z_anew hi hk hw rfl hn0 hN hN1 hc hs (by rw [newH_0 hP]; exact kk)
theorem z_put0 {ix k ci : Nat} (i : Nat) (hi : fI M pc = some (.putfield ix, 3, nx, tg)) (hT : T[k]? = some (0, ci)) (hf : (fk ci)[i]? = some false) (hw : Cond.fieldLink (mY M).cls ix (cF ci i).1 (cF ci i).2.1 (cF ci i).2.2.1 ∈ TT) (hfin : (cF ci i).2.2.2 = false) (hx : narrow (cT ci i) (.int 0) = .int 0) (hb : fits (cT ci i) (.int 0) = true)
    (kk : Z g M c sl nx L st (S0, J0, P, T, true) Q) : Z g M c sl pc L (.int 0 :: .ref k :: st) (S0, J0, P, T, true) Q := z_puti (ci := ci) i hi hT hf hw hfin hx hb (by rw [up2_0]; exact kk)
theorem z_putr0 {ix k ci j : Nat} (i : Nat) (hi : fI M pc = some (.putfield ix, 3, nx, tg)) (hT : T[k]? = some (0, ci)) (hf : (fk ci)[i]? = some true) (hw : Cond.fieldLink (mY M).cls ix (cF ci i).1 (cF ci i).2.1 (cF ci i).2.2.1 ∈ TT) (hfin : (cF ci i).2.2.2 = true) (hm : (mY M).name = "<init>") (ho : (cF ci i).1 = (mY M).cls) (hr : refKind (cT ci i) = true)
    (kk : Z g M c sl nx L st (S0, J0, up2 P k i (some j), T, true) Q) : Z g M c sl pc L (.ref j :: .ref k :: st) (S0, J0, P, T, true) Q := z_putrF (ci := ci) i hi hT hf hw hfin hm ho hr kk
abbrev QI (P : Nat → Nat → Option Nat) (T : List (Nat × Nat)) : Rs → Hp → Prop := fun r h => r = .inl none ∧ h = (S0, J0, P, T, true)
def CI (M : MI) : Prop := CO M ∧ Cond.instanceMethod (mY M) ∈ TT ∧ (mY M).name = "<init>" ∧ mR M = none ∧ (parseMethodDescriptor (mY M).desc).map (fun d => d.parameters.length) = some 0
theorem z_ci0 {M' : MI} {ix k : Nat} {P' : Nat → Nat → Option Nat} {T' : List (Nat × Nat)} (hi : fI M pc = some (.invokespecial ix, 3, nx, tg)) (hl : Cond.methodLink (mY M).cls ix (mY M') ∈ TT) (hI : CI M') (hlen : Nat.ble 1 (mL M') = true) (hrm : rmOk M M' c sl = true) (hst : Nat.ble (st.map Value.category).sum 8 = true)
    (callee : Z g M' 0 0 0 (entryL [.ref k] (mL M')) [] (S0, J0, P, T, true) (QI P' T')) (hT' : T'.length = T.length + (mM M').cells)
    (kr : Z g M (c + (mM M').cells) (sl + (mM M').slots) nx L st (S0, J0, P', T', true) Q) : Z g M c sl pc L (.ref k :: st) (S0, J0, P, T, true) Q :=
  z_ci [] hi hl hI.1 hI.2.1 hI.2.2.1 hI.2.2.2.1 hI.2.2.2.2 hlen hrm hst callee (by rintro r h' ⟨-, rfl⟩ -; exact ⟨rfl, hT'⟩) (by rintro v h' ⟨hv, rfl⟩; cases hv; exact kr) (by rintro m h' ⟨hv, -⟩; cases hv)
theorem z_cin0 {M' : MI} {ix k : Nat} {host : String} {P' : Nat → Nat → Option Nat} {T' : List (Nat × Nat)} (hi : fI M pc = some (.invokespecial ix, 3, nx, tg)) (hl : Cond.methodLinkNest (mY M).cls ix (mY M') host ∈ NW) (hI : CI M') (hlen : Nat.ble 1 (mL M') = true) (hrm : rmOk M M' c sl = true) (hst : Nat.ble (st.map Value.category).sum 8 = true)
    (callee : Z g M' 0 0 0 (entryL [.ref k] (mL M')) [] (S0, J0, P, T, true) (QI P' T')) (hT' : T'.length = T.length + (mM M').cells)
    (kr : Z g M (c + (mM M').cells) (sl + (mM M').slots) nx L st (S0, J0, P', T', true) Q) : Z g M c sl pc L (.ref k :: st) (S0, J0, P, T, true) Q :=
  z_cin [] hi (fun U hU => hU.2.2.1 _ hl) hI.1 hI.2.1 hI.2.2.1 hI.2.2.2.1 hI.2.2.2.2 hlen hrm hst callee (by rintro r h' ⟨-, rfl⟩ -; exact ⟨rfl, hT'⟩) (by rintro v h' ⟨hv, rfl⟩; cases hv; exact kr) (by rintro m h' ⟨hv, -⟩; cases hv)
end ZI
def T_e_init : List Row := [(0, .aload_n 0, 1, 1, 0), (1, .invokespecial 1, 3, 4, 0), (4, .return_, 1, 5, 0)]
abbrev M_e_init : MI := (⟨"AmendedDrawing$Edit", "<init>", "()V"⟩, prog_4_method_1_code, 1, none, { frames := 1, cells := 0, slots := 0, locals := 21 }, [], T_e_init)
set_option maxRecDepth 100000 in
theorem ok_e_init : okM M_e_init := by unfold okM; decide +kernel
set_option maxRecDepth 100000 in
theorem co_e_init : CO M_e_init := ⟨rfl, by decide +kernel, ok_e_init, w_61, w_4, by decide⟩
theorem ci_e_init : CI M_e_init := ⟨co_e_init, w_60, rfl, rfl, by decide +kernel⟩
def T_i_init : List Row := [(0, .aload_n 0, 1, 1, 0), (1, .invokespecial 3, 3, 4, 0), (4, .return_, 1, 5, 0)]
abbrev M_i_init : MI := (⟨"AmendedDrawing$Item", "<init>", "()V"⟩, prog_6_method_1_code, 1, none, { frames := 1, cells := 0, slots := 0, locals := 21 }, [], T_i_init)
set_option maxRecDepth 100000 in
theorem ok_i_init : okM M_i_init := by unfold okM; decide +kernel
set_option maxRecDepth 100000 in
theorem co_i_init : CO M_i_init := ⟨rfl, by decide +kernel, ok_i_init, w_116, w_7, by decide⟩
theorem ci_i_init : CI M_i_init := ⟨co_i_init, w_115, rfl, rfl, by decide +kernel⟩
def T_a_init : List Row := [(0, .aload_n 0, 1, 1, 0), (1, .invokespecial 3, 3, 4, 0), (4, .aload_n 0, 1, 5, 0), (5, .iconst 0, 1, 6, 0), (6, .putfield 9, 3, 9, 0), (9, .aload_n 0, 1, 10, 0), (10, .iconst 0, 1, 11, 0), (11, .putfield 15, 3, 14, 0), (14, .aload_n 0, 1, 15, 0), (15, .iconst 4, 1, 16, 0), (16, .newarray .int, 2, 18, 0), (18, .putfield 19, 3, 21, 0), (21, .return_, 1, 22, 0)]
abbrev M_a_init : MI := (⟨"AmendedDrawing$Action", "<init>", "()V"⟩, prog_2_method_1_code, 1, none, { frames := 1, cells := 1, slots := 4, locals := 21 }, [], T_a_init)
set_option maxRecDepth 100000 in
theorem ok_a_init : okM M_a_init := by unfold okM; decide +kernel
set_option maxRecDepth 100000 in
theorem co_a_init : CO M_a_init := ⟨rfl, by decide +kernel, ok_a_init, w_31, w_2, by decide⟩
theorem ci_a_init : CI M_a_init := ⟨co_a_init, w_30, rfl, rfl, by decide +kernel⟩
def T_h_init : List Row := [(0, .aload_n 0, 1, 1, 0), (1, .invokespecial 3, 3, 4, 0), (4, .aload_n 0, 1, 5, 0), (5, .bipush 32, 2, 7, 0), (7, .anewarray 9, 3, 10, 0), (10, .putfield 11, 3, 13, 0), (13, .iconst 0, 1, 14, 0), (14, .istore_n 1, 1, 15, 0), (15, .iload_n 1, 1, 16, 0), (16, .bipush 32, 2, 18, 0), (18, .if_icmp .ge 22, 3, 21, 40), (21, .aload_n 0, 1, 22, 0), (22, .getfield 11, 3, 25, 0), (25, .iload_n 1, 1, 26, 0), (26, .new 9, 3, 29, 0), (29, .dup, 1, 30, 0), (30, .invokespecial 17, 3, 33, 0), (33, .aastore, 1, 34, 0), (34, .iinc 1 1, 3, 37, 0), (37, .goto (-22), 3, 40, 15), (40, .aload_n 0, 1, 41, 0), (41, .iconst 0, 1, 42, 0), (42, .putfield 18, 3, 45, 0), (45, .aload_n 0, 1, 46, 0), (46, .iconst 0, 1, 47, 0), (47, .putfield 22, 3, 50, 0), (50, .aload_n 0, 1, 51, 0), (51, .iconst 0, 1, 52, 0), (52, .putfield 25, 3, 55, 0), (55, .return_, 1, 56, 0)]
abbrev M_h_init : MI := (⟨"AmendedDrawing$History", "<init>", "()V"⟩, prog_5_method_1_code, 2, none, { frames := 2, cells := 33, slots := 192, locals := 41 }, [], T_h_init)
set_option maxRecDepth 100000 in
theorem ok_h_init : okM M_h_init := by unfold okM; decide +kernel
set_option maxRecDepth 100000 in
theorem co_h_init : CO M_h_init := ⟨rfl, by decide +kernel, ok_h_init, w_54, w_3, by decide⟩
theorem ci_h_init : CI M_h_init := ⟨co_h_init, w_53, rfl, rfl, by decide +kernel⟩
def T_w_init : List Row := [(0, .aload_n 0, 1, 1, 0), (1, .invokespecial 3, 3, 4, 0), (4, .aload_n 0, 1, 5, 0), (5, .bipush 24, 2, 7, 0), (7, .anewarray 9, 3, 10, 0), (10, .putfield 11, 3, 13, 0), (13, .iconst 0, 1, 14, 0), (14, .istore_n 1, 1, 15, 0), (15, .iload_n 1, 1, 16, 0), (16, .bipush 24, 2, 18, 0), (18, .if_icmp .ge 22, 3, 21, 40), (21, .aload_n 0, 1, 22, 0), (22, .getfield 11, 3, 25, 0), (25, .iload_n 1, 1, 26, 0), (26, .new 9, 3, 29, 0), (29, .dup, 1, 30, 0), (30, .invokespecial 17, 3, 33, 0), (33, .aastore, 1, 34, 0), (34, .iinc 1 1, 3, 37, 0), (37, .goto (-22), 3, 40, 15), (40, .aload_n 0, 1, 41, 0), (41, .bipush 12, 2, 43, 0), (43, .newarray .int, 2, 45, 0), (45, .putfield 18, 3, 48, 0), (48, .aload_n 0, 1, 49, 0), (49, .bipush 12, 2, 51, 0), (51, .newarray .int, 2, 53, 0), (53, .putfield 22, 3, 56, 0), (56, .aload_n 0, 1, 57, 0), (57, .iconst 0, 1, 58, 0), (58, .putfield 25, 3, 61, 0), (61, .return_, 1, 62, 0)]
abbrev M_w_init : MI := (⟨"AmendedDrawing$Drawing", "<init>", "()V"⟩, prog_3_method_1_code, 2, none, { frames := 2, cells := 27, slots := 240, locals := 41 }, [], T_w_init)
set_option maxRecDepth 100000 in
theorem ok_w_init : okM M_w_init := by unfold okM; decide +kernel
set_option maxRecDepth 100000 in
theorem co_w_init : CO M_w_init := ⟨rfl, by decide +kernel, ok_w_init, w_109, w_6, by decide⟩
theorem ci_w_init : CI M_w_init := ⟨co_w_init, w_108, rfl, rfl, by decide +kernel⟩
def T_o_init : List Row := [(0, .aload_n 0, 1, 1, 0), (1, .invokespecial 3, 3, 4, 0), (4, .aload_n 0, 1, 5, 0), (5, .new 9, 3, 8, 0), (8, .dup, 1, 9, 0), (9, .invokespecial 11, 3, 12, 0), (12, .putfield 12, 3, 15, 0), (15, .aload_n 0, 1, 16, 0), (16, .bipush 24, 2, 18, 0), (18, .newarray .int, 2, 20, 0), (20, .putfield 18, 3, 23, 0), (23, .aload_n 0, 1, 24, 0), (24, .bipush 24, 2, 26, 0), (26, .newarray .int, 2, 28, 0), (28, .putfield 22, 3, 31, 0), (31, .return_, 1, 32, 0)]
abbrev M_o_init : MI := (⟨"AmendedDrawing$Outcome", "<init>", "()V"⟩, prog_7_method_1_code, 1, none, { frames := 3, cells := 30, slots := 292, locals := 62 }, [], T_o_init)
set_option maxRecDepth 100000 in
theorem ok_o_init : okM M_o_init := by unfold okM; decide +kernel
set_option maxRecDepth 100000 in
theorem co_o_init : CO M_o_init := ⟨rfl, by decide +kernel, ok_o_init, w_103, w_5, by decide⟩
theorem ci_o_init : CI M_o_init := ⟨co_o_init, w_102, rfl, rfl, by decide +kernel⟩
def T_d_init : List Row := [(0, .aload_n 0, 1, 1, 0), (1, .invokespecial 1, 3, 4, 0), (4, .aload_n 0, 1, 5, 0), (5, .bipush 24, 2, 7, 0), (7, .anewarray 9, 3, 10, 0), (10, .putfield 11, 3, 13, 0), (13, .iconst 0, 1, 14, 0), (14, .istore_n 1, 1, 15, 0), (15, .iload_n 1, 1, 16, 0), (16, .bipush 24, 2, 18, 0), (18, .if_icmp .ge 22, 3, 21, 40), (21, .aload_n 0, 1, 22, 0), (22, .getfield 11, 3, 25, 0), (25, .iload_n 1, 1, 26, 0), (26, .new 9, 3, 29, 0), (29, .dup, 1, 30, 0), (30, .invokespecial 15, 3, 33, 0), (33, .aastore, 1, 34, 0), (34, .iinc 1 1, 3, 37, 0), (37, .goto (-22), 3, 40, 15), (40, .aload_n 0, 1, 41, 0), (41, .new 9, 3, 44, 0), (44, .dup, 1, 45, 0), (45, .invokespecial 15, 3, 48, 0), (48, .putfield 16, 3, 51, 0), (51, .aload_n 0, 1, 52, 0), (52, .new 20, 3, 55, 0), (55, .dup, 1, 56, 0), (56, .invokespecial 22, 3, 59, 0), (59, .putfield 23, 3, 62, 0), (62, .aload_n 0, 1, 63, 0), (63, .new 27, 3, 66, 0), (66, .dup, 1, 67, 0), (67, .invokespecial 29, 3, 70, 0), (70, .putfield 30, 3, 73, 0), (73, .aload_n 0, 1, 74, 0), (74, .new 27, 3, 77, 0), (77, .dup, 1, 78, 0), (78, .invokespecial 29, 3, 81, 0), (81, .putfield 34, 3, 84, 0), (84, .aload_n 0, 1, 85, 0), (85, .iconst 0, 1, 86, 0), (86, .putfield 37, 3, 89, 0), (89, .return_, 1, 90, 0)]
abbrev M_d_init : MI := (⟨"AmendedDrawing", "<init>", "()V"⟩, prog_1_method_1_code, 2, none, { frames := 4, cells := 147, slots := 985, locals := 82 }, [], T_d_init)
set_option maxRecDepth 100000 in
theorem ok_d_init : okM M_d_init := by unfold okM; decide +kernel
set_option maxRecDepth 100000 in
theorem co_d_init : CO M_d_init := ⟨rfl, by decide +kernel, ok_d_init, w_22, w_1, by decide⟩
theorem ci_d_init : CI M_d_init := ⟨co_d_init, w_21, rfl, rfl, by decide +kernel⟩
def T_r_init : List Row := [(0, .aload_n 0, 1, 1, 0), (1, .invokespecial 1, 3, 4, 0), (4, .aload_n 0, 1, 5, 0), (5, .bipush 24, 2, 7, 0), (7, .newarray .int, 2, 9, 0), (9, .putfield 7, 3, 12, 0), (12, .aload_n 0, 1, 13, 0), (13, .bipush 96, 2, 15, 0), (15, .newarray .int, 2, 17, 0), (17, .putfield 13, 3, 20, 0), (20, .aload_n 0, 1, 21, 0), (21, .bipush 24, 2, 23, 0), (23, .newarray .boolean, 2, 25, 0), (25, .putfield 16, 3, 28, 0), (28, .aload_n 0, 1, 29, 0), (29, .bipush 24, 2, 31, 0), (31, .newarray .int, 2, 33, 0), (33, .putfield 20, 3, 36, 0), (36, .aload_n 0, 1, 37, 0), (37, .bipush 24, 2, 39, 0), (39, .newarray .int, 2, 41, 0), (41, .putfield 23, 3, 44, 0), (44, .aload_n 0, 1, 45, 0), (45, .bipush 112, 2, 47, 0), (47, .newarray .int, 2, 49, 0), (49, .putfield 26, 3, 52, 0), (52, .aload_n 0, 1, 53, 0), (53, .bipush 112, 2, 55, 0), (55, .newarray .int, 2, 57, 0), (57, .putfield 29, 3, 60, 0), (60, .aload_n 0, 1, 61, 0), (61, .bipush 112, 2, 63, 0), (63, .newarray .int, 2, 65, 0), (65, .putfield 32, 3, 68, 0), (68, .aload_n 0, 1, 69, 0), (69, .sipush 160, 3, 72, 0), (72, .newarray .int, 2, 74, 0), (74, .putfield 35, 3, 77, 0), (77, .aload_n 0, 1, 78, 0), (78, .iconst 0, 1, 79, 0), (79, .putfield 38, 3, 82, 0), (82, .return_, 1, 83, 0)]
abbrev M_r_init : MI := (⟨"AmendedDrawingModel", "<init>", "()V"⟩, prog_9_method_1_code, 1, none, { frames := 1, cells := 9, slots := 688, locals := 21 }, [], T_r_init)
set_option maxRecDepth 100000 in
theorem ok_r_init : okM M_r_init := by unfold okM; decide +kernel
set_option maxRecDepth 100000 in
theorem co_r_init : CO M_r_init := ⟨rfl, by decide +kernel, ok_r_init, w_656, w_8, by decide⟩
theorem ci_r_init : CI M_r_init := ⟨co_r_init, w_655, rfl, rfl, by decide +kernel⟩
theorem ga {α : Type} {T l : List α} {k : Nat} {v : α} (h : T[k]? = some v) : (T ++ l)[k]? = some v := by
  rw [List.getElem?_append_left (List.getElem?_eq_some_iff.mp h).1]; exact h
theorem glt {α : Type} {T : List α} {k : Nat} {v : α} (h : T[k]? = some v) : k < T.length := (List.getElem?_eq_some_iff.mp h).1
theorem gn {α : Type} {T l : List α} {n : Nat} {v : α} (hn : T.length = n) : (T ++ v :: l)[n]? = some v := by
  subst hn
  simp
theorem bleo {a b : Nat} (h : a ≤ b) : Nat.ble a b = true := Nat.ble_eq_true_of_le h
theorem Z.cast {g : Gm} {M : MI} {c sl c' sl' pc : Nat} {L : List (Option Value)} {st : List Value} {h h' : Hp} {Q : Rs → Hp → Prop} (h1 : c' = c) (h2 : sl' = sl) (h3 : h' = h) (k : Z g M c' sl' pc L st h' Q) : Z g M c sl pc L st h Q := by
  subst h1; subst h2; subst h3; exact k
/-- an array of m objects at n, each right behind, held by field f of k -/
def pArr (P : Nat → Nat → Option Nat) (k f n m : Nat) : Nat → Nat → Option Nat := fun a b => if a = n ∧ b < m then some (n + 1 + b) else up2 P k f (some n) a b
theorem pArr_0 (P : Nat → Nat → Option Nat) (k f n : Nat) : up2 P k f (some n) = pArr P k f n 0 := by
  funext a b
  simp [pArr]
theorem pArr_succ (P : Nat → Nat → Option Nat) (k f n j : Nat) : up2 (pArr P k f n j) n j (some (n + 1 + j)) = pArr P k f n (j + 1) := by
  funext a b
  simp only [up2, pArr]
  by_cases h1 : a = n ∧ b = j
  · rw [if_pos h1, if_pos (show a = n ∧ b < j + 1 by omega), h1.2]
  · rw [if_neg h1]
    by_cases h2 : a = n ∧ b < j
    · rw [if_pos h2, if_pos (show a = n ∧ b < j + 1 by omega)]
    · rw [if_neg h2, if_neg (show ¬ (a = n ∧ b < j + 1) by omega)]
theorem pArr_fr {P : Nat → Nat → Option Nat} {k f n m : Nat} (h : frs P n) (hk : k < n) : frs (pArr P k f n m) (n + 1) := fun a ha => by
  funext b
  simp only [pArr]
  rw [if_neg (by omega), up2_ne _ _ _ _ _ (by omega), h a (by omega)]
theorem pArr_at {P : Nat → Nat → Option Nat} {k f n m : Nat} (hk : k < n) : pArr P k f n m k f = some n := by
  simp only [pArr]
  rw [if_neg (by omega)]
  simp [up2]
/-- the row of actions: each with its arguments right behind it -/
def pRow (P : Nat → Nat → Option Nat) (k f n m : Nat) : Nat → Nat → Option Nat := fun a b => if a = n ∧ b < m then some (n + 1 + 2 * b) else if n < a ∧ a < n + 1 + 2 * m ∧ (a - n) % 2 = 1 ∧ b = 2 then some (a + 1) else up2 P k f (some n) a b
theorem pRow_0 (P : Nat → Nat → Option Nat) (k f n : Nat) : up2 P k f (some n) = pRow P k f n 0 := by
  funext a b
  simp only [pRow]
  rw [if_neg (by omega), if_neg (by omega)]
theorem pRow_succ {P : Nat → Nat → Option Nat} {k f n j : Nat} (hk : k < n) : up2 (up2 (pRow P k f n j) (n + 1 + 2 * j) 2 (some (n + 1 + 2 * j + 1))) n j (some (n + 1 + 2 * j)) = pRow P k f n (j + 1) := by
  funext a b
  simp only [up2, pRow]
  by_cases h1 : a = n ∧ b = j
  · rw [if_pos h1, if_pos (by omega)]
    rw [h1.2]
  · rw [if_neg h1]
    by_cases h2 : a = n + 1 + 2 * j ∧ b = 2
    · rw [if_pos h2, if_neg (by omega), if_pos (by omega)]
      rw [h2.1]
    · rw [if_neg h2]
      by_cases h3 : a = n ∧ b < j
      · rw [if_pos h3, if_pos (by omega)]
      · rw [if_neg h3, if_neg (show ¬ (a = n ∧ b < j + 1) by omega)]
        by_cases h4 : n < a ∧ a < n + 1 + 2 * j ∧ (a - n) % 2 = 1 ∧ b = 2
        · rw [if_pos h4, if_pos (by omega)]
        · rw [if_neg h4, if_neg (show ¬ (n < a ∧ a < n + 1 + 2 * (j + 1) ∧ (a - n) % 2 = 1 ∧ b = 2) by omega)]
theorem pRow_fr {P : Nat → Nat → Option Nat} {k f n m : Nat} (h : frs P n) (hk : k < n) : frs (pRow P k f n m) (n + 1 + 2 * m) := fun a ha => by
  funext b
  simp only [pRow]
  rw [if_neg (by omega), if_neg (by omega), up2_ne _ _ _ _ _ (by omega), h a (by omega)]
theorem pRow_at {P : Nat → Nat → Option Nat} {k f n m : Nat} (hk : k < n) : pRow P k f n m k f = some n := by
  simp only [pRow]
  rw [if_neg (by omega), if_neg (by omega)]
  simp [up2]
section CT
variable {g : Gm} {P : Nat → Nat → Option Nat} {T : List (Nat × Nat)} {k n : Nat}
theorem zi_e : Z g M_e_init 0 0 0 (entryL [.ref k] (mL M_e_init)) [] (S0, J0, P, T, true) (QI P T) := by
  refine z_aload_n rfl rfl ?_
  refine z_objInit rfl w_62 w_24 w_25 rfl ?_
  exact z_vret rfl rfl rfl rfl ⟨rfl, rfl⟩
theorem zi_i : Z g M_i_init 0 0 0 (entryL [.ref k] (mL M_i_init)) [] (S0, J0, P, T, true) (QI P T) := by
  refine z_aload_n rfl rfl ?_
  refine z_objInit rfl w_117 w_24 w_25 rfl ?_
  exact z_vret rfl rfl rfl rfl ⟨rfl, rfl⟩
theorem zi_a (hT : T[k]? = some (0, 1)) (hn : T.length = n) (hP : frs P n) : Z g M_a_init 0 0 0 (entryL [.ref k] (mL M_a_init)) [] (S0, J0, P, T, true) (QI (up2 P k 2 (some n)) (T ++ [(1, 4)])) := by
  refine z_aload_n rfl rfl ?_
  refine z_objInit rfl w_32 w_24 w_25 rfl ?_
  refine z_aload_n rfl rfl ?_
  refine z_iconst 0 rfl rfl ?_
  refine z_put0 (ci := 1) 0 rfl hT rfl w_33 rfl rfl rfl ?_
  refine z_aload_n rfl rfl ?_
  refine z_iconst 0 rfl rfl ?_
  refine z_put0 (ci := 1) 1 rfl hT rfl w_36 rfl rfl rfl ?_
  refine z_aload_n rfl rfl ?_
  refine z_iconst 4 rfl rfl ?_
  refine z_newarr0 1 4 hn hP rfl (Or.inl rfl) w_49 (by decide) rfl rfl rfl rfl ?_
  refine z_putr0 (ci := 1) 2 rfl (ga hT) rfl w_39 rfl rfl rfl rfl ?_
  exact z_vret rfl rfl rfl rfl ⟨rfl, rfl⟩
theorem zl_h {Q : Rs → Hp → Prop} (hT : T[k]? = some (0, 3)) (hn : T.length = n) (hP : frs P n) (hend : Z g M_h_init 33 192 40 [some (.ref k), some (.int (nI 32))] [] (S0, J0, pArr P k 0 n 32, T ++ (5, 32) :: List.replicate 32 (0, 2), true) Q) :
    ∀ i j : Nat, i + j = 32 → Z g M_h_init (1 + j) (32 + 5 * j) 15 [some (.ref k), some (.int (nI j))] [] (S0, J0, pArr P k 0 n j, T ++ (5, 32) :: List.replicate j (0, 2), true) Q := by
  have hk : k < n := by rw [← hn]; exact glt hT
  intro i
  induction i with
  | zero =>
    intro j hj
    have hj : j = 32 := by omega
    subst hj
    refine z_iload_n rfl rfl ?_
    refine z_bipush 32 rfl rfl ?_
    exact z_icmp_ge rfl (fun _ => hend) (fun hq => absurd (nI_le (Nat.le_refl 32) (by decide)) hq)
  | succ i ih =>
    intro j hj
    have hj' : j < 32 := by omega
    have rmo : ∀ {c sl : Nat}, Nat.ble (c + 0) 33 = true → Nat.ble (sl + 0) 192 = true → rmOk M_h_init M_e_init c sl = true := fun h1 h2 => by
      simp only [rmOk, Bool.and_eq_true]
      exact ⟨rfl, rfl, h1, h2⟩
    refine z_iload_n rfl rfl ?_
    refine z_bipush 32 rfl rfl ?_
    refine z_icmp_ge rfl (fun hq => absurd hq (nI_ge hj' (by decide))) (fun _ => ?_)
    refine z_aload_n rfl rfl ?_
    refine z_getr (ci := 3) 0 rfl (ga hT) rfl w_84 (pArr_at hk) ?_
    refine z_iload_n rfl rfl ?_
    refine z_new0 (ci := 2) (n := n + 1 + j) (by simp [hn]; omega) ((pArr_fr hP hk).le (by omega)) rfl (by decide) w_56 w_58 w_4 (bleo (show 1 + j + 1 ≤ 33 by omega)) (bleo (show 32 + 5 * j + 5 ≤ 192 by omega)) ?_
    refine z_dup rfl rfl ?_
    refine z_cin0 rfl (nw_mem 59 rfl rfl) ci_e_init rfl (rmo (bleo (show 1 + j + 1 + 0 ≤ 33 by omega)) (bleo (show 32 + 5 * j + 5 + 0 ≤ 192 by omega))) rfl zi_e rfl ?_
    refine z_aastE (j := n + 1 + j) rfl (ga (gn hn)) (nI_in hj' (by decide)) (gn (by simp [hn]; omega)) ?_
    refine z_iinc 1 [some (.ref k), some (.int (nI (j + 1)))] rfl rfl rfl (by rw [nI_succ]; rfl) ?_
    refine z_goto rfl ?_
    refine Z.cast (by show 1 + (j + 1) = 1 + j + 1 + 0; omega) (by show 32 + 5 * (j + 1) = 32 + 5 * j + 5 + 0; omega) ?_ (ih (j + 1) (by omega))
    rw [nI_clamp (by omega), pArr_succ, List.append_assoc, List.cons_append, ← List.replicate_succ']
theorem zl_w {Q : Rs → Hp → Prop} (hT : T[k]? = some (0, 6)) (hn : T.length = n) (hP : frs P n) (hend : Z g M_w_init 25 216 40 [some (.ref k), some (.int (nI 24))] [] (S0, J0, pArr P k 0 n 24, T ++ (6, 24) :: List.replicate 24 (0, 5), true) Q) :
    ∀ i j : Nat, i + j = 24 → Z g M_w_init (1 + j) (24 + 8 * j) 15 [some (.ref k), some (.int (nI j))] [] (S0, J0, pArr P k 0 n j, T ++ (6, 24) :: List.replicate j (0, 5), true) Q := by
  have hk : k < n := by rw [← hn]; exact glt hT
  intro i
  induction i with
  | zero =>
    intro j hj
    have hj : j = 24 := by omega
    subst hj
    refine z_iload_n rfl rfl ?_
    refine z_bipush 24 rfl rfl ?_
    exact z_icmp_ge rfl (fun _ => hend) (fun hq => absurd (nI_le (Nat.le_refl 24) (by decide)) hq)
  | succ i ih =>
    intro j hj
    have hj' : j < 24 := by omega
    have rmo : ∀ {c sl : Nat}, Nat.ble (c + 0) 27 = true → Nat.ble (sl + 0) 240 = true → rmOk M_w_init M_i_init c sl = true := fun h1 h2 => by
      simp only [rmOk, Bool.and_eq_true]
      exact ⟨rfl, rfl, h1, h2⟩
    refine z_iload_n rfl rfl ?_
    refine z_bipush 24 rfl rfl ?_
    refine z_icmp_ge rfl (fun hq => absurd hq (nI_ge hj' (by decide))) (fun _ => ?_)
    refine z_aload_n rfl rfl ?_
    refine z_getr (ci := 6) 0 rfl (ga hT) rfl w_151 (pArr_at hk) ?_
    refine z_iload_n rfl rfl ?_
    refine z_new0 (ci := 5) (n := n + 1 + j) (by simp [hn]; omega) ((pArr_fr hP hk).le (by omega)) rfl (by decide) w_111 w_113 w_7 (bleo (show 1 + j + 1 ≤ 27 by omega)) (bleo (show 24 + 8 * j + 8 ≤ 240 by omega)) ?_
    refine z_dup rfl rfl ?_
    refine z_cin0 rfl (nw_mem 114 rfl rfl) ci_i_init rfl (rmo (bleo (show 1 + j + 1 + 0 ≤ 27 by omega)) (bleo (show 24 + 8 * j + 8 + 0 ≤ 240 by omega))) rfl zi_i rfl ?_
    refine z_aastI (j := n + 1 + j) rfl (ga (gn hn)) (nI_in hj' (by decide)) (gn (by simp [hn]; omega)) ?_
    refine z_iinc 1 [some (.ref k), some (.int (nI (j + 1)))] rfl rfl rfl (by rw [nI_succ]; rfl) ?_
    refine z_goto rfl ?_
    refine Z.cast (by show 1 + (j + 1) = 1 + j + 1 + 0; omega) (by show 24 + 8 * (j + 1) = 24 + 8 * j + 8 + 0; omega) ?_ (ih (j + 1) (by omega))
    rw [nI_clamp (by omega), pArr_succ, List.append_assoc, List.cons_append, ← List.replicate_succ']
theorem zi_h (hT : T[k]? = some (0, 3)) (hn : T.length = n) (hP : frs P n) : Z g M_h_init 0 0 0 (entryL [.ref k] (mL M_h_init)) [] (S0, J0, P, T, true) (QI (pArr P k 0 n 32) (T ++ (5, 32) :: List.replicate 32 (0, 2))) := by
  have hk : k < n := by rw [← hn]; exact glt hT
  show Z g M_h_init 0 0 0 [some (.ref k), none] [] (S0, J0, P, T, true) _
  refine z_aload_n rfl rfl ?_
  refine z_objInit rfl w_55 w_24 w_25 rfl ?_
  refine z_aload_n rfl rfl ?_
  refine z_bipush 32 rfl rfl ?_
  refine z_anew0 5 32 hn hP rfl (Or.inr (Or.inl ⟨rfl, rfl⟩)) w_56 (by decide) rfl rfl rfl rfl ?_
  refine z_putr0 (ci := 3) 0 rfl (ga hT) rfl w_84 rfl rfl rfl rfl ?_
  refine z_iconst 0 rfl rfl ?_
  refine z_istore_n [some (.ref k), some (.int (nI 0))] rfl rfl rfl ?_
  rw [pArr_0]
  refine zl_h hT hn hP ?_ 32 0 rfl
  refine z_aload_n rfl rfl ?_
  refine z_iconst 0 rfl rfl ?_
  refine z_put0 (ci := 3) 1 rfl (ga hT) rfl w_85 rfl rfl rfl ?_
  refine z_aload_n rfl rfl ?_
  refine z_iconst 0 rfl rfl ?_
  refine z_put0 (ci := 3) 2 rfl (ga hT) rfl w_86 rfl rfl rfl ?_
  refine z_aload_n rfl rfl ?_
  refine z_iconst 0 rfl rfl ?_
  refine z_put0 (ci := 3) 3 rfl (ga hT) rfl w_88 rfl rfl rfl ?_
  exact z_vret rfl rfl rfl rfl ⟨rfl, rfl⟩
abbrev pW (P : Nat → Nat → Option Nat) (k n : Nat) : Nat → Nat → Option Nat := up2 (up2 (pArr P k 0 n 24) k 1 (some (n + 25))) k 3 (some (n + 26))
abbrev tW : List (Nat × Nat) := (6, 24) :: List.replicate 24 (0, 5) ++ [(1, 12), (1, 12)]
theorem zi_w (hT : T[k]? = some (0, 6)) (hn : T.length = n) (hP : frs P n) : Z g M_w_init 0 0 0 (entryL [.ref k] (mL M_w_init)) [] (S0, J0, P, T, true) (QI (pW P k n) (T ++ tW)) := by
  have hk : k < n := by rw [← hn]; exact glt hT
  show Z g M_w_init 0 0 0 [some (.ref k), none] [] (S0, J0, P, T, true) _
  refine z_aload_n rfl rfl ?_
  refine z_objInit rfl w_110 w_24 w_25 rfl ?_
  refine z_aload_n rfl rfl ?_
  refine z_bipush 24 rfl rfl ?_
  refine z_anew0 6 24 hn hP rfl (Or.inr (Or.inr ⟨rfl, rfl⟩)) w_111 (by decide) rfl rfl rfl rfl ?_
  refine z_putr0 (ci := 6) 0 rfl (ga hT) rfl w_151 rfl rfl rfl rfl ?_
  refine z_iconst 0 rfl rfl ?_
  refine z_istore_n [some (.ref k), some (.int (nI 0))] rfl rfl rfl ?_
  rw [pArr_0]
  refine zl_w hT hn hP ?_ 24 0 rfl
  refine z_aload_n rfl rfl ?_
  refine z_bipush 12 rfl rfl ?_
  refine z_newarr0 (n := n + 25) 1 12 (by simp [hn]) ((pArr_fr hP hk).le (by omega)) rfl (Or.inl rfl) w_49 (by decide) rfl rfl rfl rfl ?_
  refine z_putr0 (ci := 6) 1 rfl (ga (ga hT)) rfl w_153 rfl rfl rfl rfl ?_
  refine z_aload_n rfl rfl ?_
  refine z_bipush 12 rfl rfl ?_
  refine z_newarr0 (n := n + 26) 1 12 (by simp [hn]) (((pArr_fr hP hk).up (by omega)).le (by omega)) rfl (Or.inl rfl) w_49 (by decide) rfl rfl rfl rfl ?_
  refine z_putr0 (ci := 6) 3 rfl (ga (ga (ga hT))) rfl w_157 rfl rfl rfl rfl ?_
  refine z_aload_n rfl rfl ?_
  refine z_iconst 0 rfl rfl ?_
  refine z_put0 (ci := 6) 2 rfl (ga (ga (ga hT))) rfl w_155 rfl rfl rfl ?_
  exact z_vret rfl rfl rfl rfl ⟨rfl, by simp only [List.append_assoc]; rfl⟩
abbrev pO (P : Nat → Nat → Option Nat) (k n : Nat) : Nat → Nat → Option Nat := up2 (up2 (up2 (pW P n (n + 1)) k 0 (some n)) k 1 (some (n + 28))) k 2 (some (n + 29))
abbrev tO : List (Nat × Nat) := (0, 6) :: tW ++ [(1, 24), (1, 24)]
theorem pW_fr (hP : frs P (n + 1)) : frs (pW P n (n + 1)) (n + 28) := fun a ha => by
  funext b
  rw [show pW P n (n + 1) = up2 (up2 (pArr P n 0 (n + 1) 24) n 1 (some (n + 1 + 25))) n 3 (some (n + 1 + 26)) from rfl, up2_ne _ _ _ _ _ (by omega), up2_ne _ _ _ _ _ (by omega), (pArr_fr hP (by omega)) a (by omega)]
theorem zi_o (hT : T[k]? = some (0, 4)) (hn : T.length = n) (hP : frs P n) : Z g M_o_init 0 0 0 (entryL [.ref k] (mL M_o_init)) [] (S0, J0, P, T, true) (QI (pO P k n) (T ++ tO)) := by
  have hk : k < n := by rw [← hn]; exact glt hT
  have hW := pW_fr (n := n) (hP.le (Nat.le_succ n))
  refine z_aload_n rfl rfl ?_
  refine z_objInit rfl w_104 w_24 w_25 rfl ?_
  refine z_aload_n rfl rfl ?_
  refine z_new0 (ci := 6) hn hP rfl (by decide) w_105 w_106 w_6 rfl rfl ?_
  refine z_dup rfl rfl ?_
  refine z_ci0 rfl w_107 ci_w_init rfl rfl rfl (zi_w (n := n + 1) (gn hn) (by simp [hn]) (hP.le (Nat.le_succ n))) (by simp) ?_
  refine z_putr0 (ci := 4) 0 rfl (ga (ga hT)) rfl w_167 rfl rfl rfl rfl ?_
  refine z_aload_n rfl rfl ?_
  refine z_bipush 24 rfl rfl ?_
  refine z_newarr0 (n := n + 28) 1 24 (by simp [hn]) (hW.up (by omega)) rfl (Or.inl rfl) w_49 (by decide) rfl rfl rfl rfl ?_
  refine z_putr0 (ci := 4) 1 rfl (ga (ga (ga hT))) rfl w_169 rfl rfl rfl rfl ?_
  refine z_aload_n rfl rfl ?_
  refine z_bipush 24 rfl rfl ?_
  refine z_newarr0 (n := n + 29) 1 24 (by simp [hn]) (((hW.up (by omega)).up (by omega)).le (by omega)) rfl (Or.inl rfl) w_49 (by decide) rfl rfl rfl rfl ?_
  refine z_putr0 (ci := 4) 2 rfl (ga (ga (ga (ga hT)))) rfl w_171 rfl rfl rfl rfl ?_
  exact z_vret rfl rfl rfl rfl ⟨rfl, by simp only [List.append_assoc]; rfl⟩
end CT
def tA : Nat → List (Nat × Nat)
  | 0 => []
  | j + 1 => tA j ++ [(0, 1), (1, 4)]
theorem tA_len : ∀ j : Nat, (tA j).length = 2 * j
  | 0 => rfl
  | j + 1 => by simp [tA, tA_len j]; omega
abbrev pN : Nat → Nat → Option Nat := fun _ _ => none
theorem pN_fr (n : Nat) : frs pN n := fun _ _ => rfl
section CD
variable {g : Gm}
theorem zl_d {Q : Rs → Hp → Prop} (hend : Z g M_d_init 49 192 40 [some (.ref 0), some (.int (nI 24))] [] (S0, J0, pRow pN 0 0 1 24, [(0, 0)] ++ (4, 24) :: tA 24, true) Q) :
    ∀ i j : Nat, i + j = 24 → Z g M_d_init (1 + 2 * j) (24 + 7 * j) 15 [some (.ref 0), some (.int (nI j))] [] (S0, J0, pRow pN 0 0 1 j, [(0, 0)] ++ (4, 24) :: tA j, true) Q := by
  intro i
  induction i with
  | zero =>
    intro j hj
    have hj : j = 24 := by omega
    subst hj
    refine z_iload_n rfl rfl ?_
    refine z_bipush 24 rfl rfl ?_
    exact z_icmp_ge rfl (fun _ => hend) (fun hq => absurd (nI_le (Nat.le_refl 24) (by decide)) hq)
  | succ i ih =>
    intro j hj
    have hj' : j < 24 := by omega
    have hfr : frs (pRow pN 0 0 1 j) (1 + 1 + 2 * j) := pRow_fr (pN_fr 1) (by decide)
    have hlen : ([((0, 0) : Nat × Nat)] ++ (4, 24) :: tA j).length = 1 + 1 + 2 * j := by simp [tA_len]; omega
    refine z_iload_n rfl rfl ?_
    refine z_bipush 24 rfl rfl ?_
    refine z_icmp_ge rfl (fun hq => absurd hq (nI_ge hj' (by decide))) (fun _ => ?_)
    refine z_aload_n rfl rfl ?_
    refine z_getr (ci := 0) 0 rfl rfl rfl w_180 (pRow_at (P := pN) (k := 0) (f := 0) (n := 1) (m := j) (by decide)) ?_
    refine z_iload_n rfl rfl ?_
    refine z_new0 (ci := 1) hlen hfr rfl (by decide) w_26 w_28 w_2 (bleo (show 1 + 2 * j + 1 ≤ 147 by omega)) (bleo (show 24 + 7 * j + 3 ≤ 985 by omega)) ?_
    refine z_dup rfl rfl ?_
    refine z_ci0 rfl w_29 ci_a_init rfl ?_ rfl (zi_a (n := 1 + 1 + 2 * j + 1) (gn hlen) (by rw [List.length_append, hlen]; rfl) (hfr.le (Nat.le_succ _))) (by simp) ?_
    · simp only [rmOk, Bool.and_eq_true]
      exact ⟨rfl, rfl, bleo (show 1 + 2 * j + 1 + 1 ≤ 147 by omega), bleo (show 24 + 7 * j + 3 + 4 ≤ 985 by omega)⟩
    refine z_aastA (j := 1 + 1 + 2 * j) rfl rfl (nI_in hj' (by decide)) (ga (gn hlen)) ?_
    refine z_iinc 1 [some (.ref 0), some (.int (nI (j + 1)))] rfl rfl rfl (by rw [nI_succ]; rfl) ?_
    refine z_goto rfl ?_
    refine Z.cast (by show 1 + 2 * (j + 1) = 1 + 2 * j + 1 + 1; omega) (by show 24 + 7 * (j + 1) = 24 + 7 * j + 3 + 4; omega) ?_ (ih (j + 1) (by omega))
    rw [nI_clamp (by omega), pRow_succ (by decide), tA]
    simp only [List.append_assoc, List.cons_append, List.nil_append]
abbrev pD1 : Nat → Nat → Option Nat := up2 (up2 (pRow pN 0 0 1 24) 50 2 (some 51)) 0 1 (some 50)
abbrev pD2 : Nat → Nat → Option Nat := up2 (pArr pD1 52 0 53 32) 0 2 (some 52)
abbrev pD3 : Nat → Nat → Option Nat := up2 (pO pD2 86 87) 0 3 (some 86)
abbrev pD : Nat → Nat → Option Nat := up2 (pO pD3 117 118) 0 4 (some 117)
abbrev tD0 : List (Nat × Nat) := [(0, 0)] ++ (4, 24) :: tA 24
abbrev tD1 : List (Nat × Nat) := (tD0 ++ [(0, 1)]) ++ [(1, 4)]
abbrev tD2 : List (Nat × Nat) := (tD1 ++ [(0, 3)]) ++ (5, 32) :: List.replicate 32 (0, 2)
abbrev tD3 : List (Nat × Nat) := (tD2 ++ [(0, 4)]) ++ tO
abbrev tD : List (Nat × Nat) := (tD3 ++ [(0, 4)]) ++ tO
theorem frs_of {P : Nat → Nat → Option Nat} {n : Nat} (h : ∀ a, n ≤ a → ∀ b, P a b = none) : frs P n := fun a ha => funext (h a ha)
theorem pD1_fr : frs pD1 52 := ((pRow_fr (n := 1) (m := 24) (k := 0) (f := 0) (pN_fr 1) (by decide)).le (show 1 + 1 + 2 * 24 ≤ 52 by decide)).up (by decide) |>.up (by decide)
theorem pD2_fr : frs pD2 86 := ((pArr_fr (n := 53) (k := 52) (m := 32) (f := 0) (pD1_fr.le (by decide)) (by decide)).le (by decide)).up (by decide)
theorem pO_fr {P : Nat → Nat → Option Nat} {k n : Nat} (hP : frs P n) (hk : k < n) : frs (pO P k n) (n + 30) := by
  have hW := pW_fr (n := n) (hP.le (Nat.le_succ n))
  exact (((hW.up (by omega)).up (by omega)).up (by omega)).le (by omega)
theorem pD3_fr : frs pD3 117 := (pO_fr (n := 87) (pD2_fr.le (by decide)) (by decide)).up (by decide)
theorem pD_fr : frs pD 148 := (pO_fr (n := 118) (pD3_fr.le (by decide)) (by decide)).up (by decide)
set_option maxRecDepth 100000 in
theorem zi_d : Z g M_d_init 0 0 0 (entryL [.ref 0] (mL M_d_init)) [] (S0, J0, pN, [(0, 0)], true) (QI pD tD) := by
  show Z g M_d_init 0 0 0 [some (.ref 0), none] [] (S0, J0, pN, [(0, 0)], true) _
  refine z_aload_n rfl rfl ?_
  refine z_objInit rfl w_23 w_24 w_25 rfl ?_
  refine z_aload_n rfl rfl ?_
  refine z_bipush 24 rfl rfl ?_
  refine z_anew0 (n := 1) 4 24 rfl (pN_fr 1) rfl (Or.inl ⟨rfl, rfl⟩) w_26 (by decide) rfl rfl rfl rfl ?_
  refine z_putr0 (ci := 0) 0 rfl rfl rfl w_180 rfl rfl rfl rfl ?_
  refine z_iconst 0 rfl rfl ?_
  refine z_istore_n [some (.ref 0), some (.int (nI 0))] rfl rfl rfl ?_
  rw [pRow_0]
  refine zl_d ?_ 24 0 rfl
  refine z_aload_n rfl rfl ?_
  refine z_new0 (n := 50) (ci := 1) (by decide +kernel) ((pRow_fr (n := 1) (m := 24) (k := 0) (f := 0) (pN_fr 1) (by decide)).le (by decide)) rfl (by decide) w_26 w_28 w_2 rfl rfl ?_
  refine z_dup rfl rfl ?_
  refine z_ci0 rfl w_29 ci_a_init rfl rfl rfl (zi_a (n := 51) (by decide +kernel) (by decide +kernel) ((pRow_fr (n := 1) (m := 24) (k := 0) (f := 0) (pN_fr 1) (by decide)).le (by decide))) (by decide +kernel) ?_
  refine z_putr0 (ci := 0) 1 rfl (by decide +kernel) rfl w_181 rfl rfl rfl rfl ?_
  refine z_aload_n rfl rfl ?_
  refine z_new0 (n := 52) (ci := 3) (by decide +kernel) pD1_fr rfl (by decide) w_50 w_51 w_3 rfl rfl ?_
  refine z_dup rfl rfl ?_
  refine z_ci0 rfl w_52 ci_h_init rfl rfl rfl (zi_h (n := 53) (by decide +kernel) (by decide +kernel) (pD1_fr.le (by decide))) (by decide +kernel) ?_
  refine z_putr0 (ci := 0) 2 rfl (by decide +kernel) rfl w_182 rfl rfl rfl rfl ?_
  refine z_aload_n rfl rfl ?_
  refine z_new0 (n := 86) (ci := 4) (by decide +kernel) pD2_fr rfl (by decide) w_99 w_100 w_5 rfl rfl ?_
  refine z_dup rfl rfl ?_
  refine z_ci0 rfl w_101 ci_o_init rfl rfl rfl (zi_o (n := 87) (by decide +kernel) (by decide +kernel) (pD2_fr.le (by decide))) (by decide +kernel) ?_
  refine z_putr0 (ci := 0) 3 rfl (by decide +kernel) rfl w_183 rfl rfl rfl rfl ?_
  refine z_aload_n rfl rfl ?_
  refine z_new0 (n := 117) (ci := 4) (by decide +kernel) pD3_fr rfl (by decide) w_99 w_100 w_5 rfl rfl ?_
  refine z_dup rfl rfl ?_
  refine z_ci0 rfl w_101 ci_o_init rfl rfl rfl (zi_o (n := 118) (by decide +kernel) (by decide +kernel) (pD3_fr.le (by decide))) (by decide +kernel) ?_
  refine z_putr0 (ci := 0) 4 rfl (by decide +kernel) rfl w_184 rfl rfl rfl rfl ?_
  refine z_aload_n rfl rfl ?_
  refine z_iconst 0 rfl rfl ?_
  refine z_put0 (ci := 0) 5 rfl (by decide +kernel) rfl w_185 rfl rfl rfl ?_
  exact z_vret rfl rfl rfl rfl ⟨rfl, rfl⟩
abbrev pM : Nat → Nat → Option Nat := (up2 (up2 (up2 (up2 (up2 (up2 (up2 (up2 (up2 pD 148 2 (some 149)) 148 3 (some 150)) 148 4 (some 151)) 148 5 (some 152)) 148 6 (some 153)) 148 8 (some 154)) 148 10 (some 155)) 148 11 (some 156)) 148 16 (some 157))
abbrev tM : List (Nat × Nat) := ((((((((((tD ++ [(0, 7)]) ++ [(1, 24)]) ++ [(1, 96)]) ++ [(2, 24)]) ++ [(1, 24)]) ++ [(1, 24)]) ++ [(1, 112)]) ++ [(1, 112)]) ++ [(1, 112)]) ++ [(1, 160)])
theorem pM_fr : frs pM 158 := (((((((((((((((((((pD_fr.le (show 148 ≤ 149 by decide)).up (by decide)).le (show 149 ≤ 150 by decide)).up (by decide)).le (show 150 ≤ 151 by decide)).up (by decide)).le (show 151 ≤ 152 by decide)).up (by decide)).le (show 152 ≤ 153 by decide)).up (by decide)).le (show 153 ≤ 154 by decide)).up (by decide)).le (show 154 ≤ 155 by decide)).up (by decide)).le (show 155 ≤ 156 by decide)).up (by decide)).le (show 156 ≤ 157 by decide)).up (by decide)).le (show 157 ≤ 158 by decide))
set_option maxRecDepth 100000 in
theorem zi_r : Z g M_r_init 0 0 0 (entryL [.ref 148] (mL M_r_init)) [] (S0, J0, pD, tD ++ [(0, 7)], true) (QI pM tM) := by
  refine z_aload_n rfl rfl ?_
  refine z_objInit rfl w_657 w_24 w_25 rfl ?_
  refine z_aload_n rfl rfl ?_
  refine z_bipush 24 rfl rfl ?_
  refine z_newarr0 (n := 149) 1 24 (by decide +kernel) (pD_fr.le (show 148 ≤ 149 by decide)) rfl (Or.inl rfl) w_49 (by decide) rfl rfl rfl rfl ?_
  refine z_putr0 (ci := 7) 2 rfl (by decide +kernel) rfl w_660 rfl rfl rfl rfl ?_
  refine z_aload_n rfl rfl ?_
  refine z_bipush 96 rfl rfl ?_
  refine z_newarr0 (n := 150) 1 96 (by decide +kernel) (((pD_fr.le (show 148 ≤ 149 by decide)).up (by decide)).le (show 149 ≤ 150 by decide)) rfl (Or.inl rfl) w_49 (by decide) rfl rfl rfl rfl ?_
  refine z_putr0 (ci := 7) 3 rfl (by decide +kernel) rfl w_661 rfl rfl rfl rfl ?_
  refine z_aload_n rfl rfl ?_
  refine z_bipush 24 rfl rfl ?_
  refine z_newarr0 (n := 151) 2 24 (by decide +kernel) (((((pD_fr.le (show 148 ≤ 149 by decide)).up (by decide)).le (show 149 ≤ 150 by decide)).up (by decide)).le (show 150 ≤ 151 by decide)) rfl (Or.inr (Or.inl rfl)) w_716 (by decide) rfl rfl rfl rfl ?_
  refine z_putr0 (ci := 7) 4 rfl (by decide +kernel) rfl w_662 rfl rfl rfl rfl ?_
  refine z_aload_n rfl rfl ?_
  refine z_bipush 24 rfl rfl ?_
  refine z_newarr0 (n := 152) 1 24 (by decide +kernel) (((((((pD_fr.le (show 148 ≤ 149 by decide)).up (by decide)).le (show 149 ≤ 150 by decide)).up (by decide)).le (show 150 ≤ 151 by decide)).up (by decide)).le (show 151 ≤ 152 by decide)) rfl (Or.inl rfl) w_49 (by decide) rfl rfl rfl rfl ?_
  refine z_putr0 (ci := 7) 5 rfl (by decide +kernel) rfl w_663 rfl rfl rfl rfl ?_
  refine z_aload_n rfl rfl ?_
  refine z_bipush 24 rfl rfl ?_
  refine z_newarr0 (n := 153) 1 24 (by decide +kernel) (((((((((pD_fr.le (show 148 ≤ 149 by decide)).up (by decide)).le (show 149 ≤ 150 by decide)).up (by decide)).le (show 150 ≤ 151 by decide)).up (by decide)).le (show 151 ≤ 152 by decide)).up (by decide)).le (show 152 ≤ 153 by decide)) rfl (Or.inl rfl) w_49 (by decide) rfl rfl rfl rfl ?_
  refine z_putr0 (ci := 7) 6 rfl (by decide +kernel) rfl w_664 rfl rfl rfl rfl ?_
  refine z_aload_n rfl rfl ?_
  refine z_bipush 112 rfl rfl ?_
  refine z_newarr0 (n := 154) 1 112 (by decide +kernel) (((((((((((pD_fr.le (show 148 ≤ 149 by decide)).up (by decide)).le (show 149 ≤ 150 by decide)).up (by decide)).le (show 150 ≤ 151 by decide)).up (by decide)).le (show 151 ≤ 152 by decide)).up (by decide)).le (show 152 ≤ 153 by decide)).up (by decide)).le (show 153 ≤ 154 by decide)) rfl (Or.inl rfl) w_49 (by decide) rfl rfl rfl rfl ?_
  refine z_putr0 (ci := 7) 8 rfl (by decide +kernel) rfl w_666 rfl rfl rfl rfl ?_
  refine z_aload_n rfl rfl ?_
  refine z_bipush 112 rfl rfl ?_
  refine z_newarr0 (n := 155) 1 112 (by decide +kernel) (((((((((((((pD_fr.le (show 148 ≤ 149 by decide)).up (by decide)).le (show 149 ≤ 150 by decide)).up (by decide)).le (show 150 ≤ 151 by decide)).up (by decide)).le (show 151 ≤ 152 by decide)).up (by decide)).le (show 152 ≤ 153 by decide)).up (by decide)).le (show 153 ≤ 154 by decide)).up (by decide)).le (show 154 ≤ 155 by decide)) rfl (Or.inl rfl) w_49 (by decide) rfl rfl rfl rfl ?_
  refine z_putr0 (ci := 7) 10 rfl (by decide +kernel) rfl w_668 rfl rfl rfl rfl ?_
  refine z_aload_n rfl rfl ?_
  refine z_bipush 112 rfl rfl ?_
  refine z_newarr0 (n := 156) 1 112 (by decide +kernel) (((((((((((((((pD_fr.le (show 148 ≤ 149 by decide)).up (by decide)).le (show 149 ≤ 150 by decide)).up (by decide)).le (show 150 ≤ 151 by decide)).up (by decide)).le (show 151 ≤ 152 by decide)).up (by decide)).le (show 152 ≤ 153 by decide)).up (by decide)).le (show 153 ≤ 154 by decide)).up (by decide)).le (show 154 ≤ 155 by decide)).up (by decide)).le (show 155 ≤ 156 by decide)) rfl (Or.inl rfl) w_49 (by decide) rfl rfl rfl rfl ?_
  refine z_putr0 (ci := 7) 11 rfl (by decide +kernel) rfl w_669 rfl rfl rfl rfl ?_
  refine z_aload_n rfl rfl ?_
  refine z_sipush 160 rfl rfl ?_
  refine z_newarr0 (n := 157) 1 160 (by decide +kernel) (((((((((((((((((pD_fr.le (show 148 ≤ 149 by decide)).up (by decide)).le (show 149 ≤ 150 by decide)).up (by decide)).le (show 150 ≤ 151 by decide)).up (by decide)).le (show 151 ≤ 152 by decide)).up (by decide)).le (show 152 ≤ 153 by decide)).up (by decide)).le (show 153 ≤ 154 by decide)).up (by decide)).le (show 154 ≤ 155 by decide)).up (by decide)).le (show 155 ≤ 156 by decide)).up (by decide)).le (show 156 ≤ 157 by decide)) rfl (Or.inl rfl) w_49 (by decide) rfl rfl rfl rfl ?_
  refine z_putr0 (ci := 7) 16 rfl (by decide +kernel) rfl w_674 rfl rfl rfl rfl ?_
  refine z_aload_n rfl rfl ?_
  refine z_iconst 0 rfl rfl ?_
  refine z_put0 (ci := 7) 1 rfl (by decide +kernel) rfl w_659 rfl rfl rfl ?_
  exact z_vret rfl rfl rfl rfl ⟨rfl, rfl⟩
set_option maxRecDepth 100000 in
set_option maxHeartbeats 4000000 in
theorem lay_D (J : Nat → Nat → Int64) (x : Bool) : isD (J, pM, tM ++ [(3, 1)], x) := by
  unfold isD isRow isA isH isRing isE isO isW isIs isI
  dsimp only
  exact ⟨by decide +kernel, by decide +kernel, ⟨by decide +kernel, by decide +kernel⟩, by decide +kernel, ⟨by decide +kernel, by decide +kernel, by decide +kernel⟩, by decide +kernel, ⟨by decide +kernel, by decide +kernel, ⟨by decide +kernel, by decide +kernel⟩⟩, by decide +kernel, ⟨by decide +kernel, by decide +kernel, ⟨by decide +kernel, by decide +kernel, ⟨by decide +kernel, by decide +kernel⟩, by decide +kernel, by decide +kernel, by decide +kernel, by decide +kernel⟩, by decide +kernel, by decide +kernel, by decide +kernel, by decide +kernel⟩, by decide +kernel, ⟨by decide +kernel, by decide +kernel, ⟨by decide +kernel, by decide +kernel, ⟨by decide +kernel, by decide +kernel⟩, by decide +kernel, by decide +kernel, by decide +kernel, by decide +kernel⟩, by decide +kernel, by decide +kernel, by decide +kernel, by decide +kernel⟩⟩
set_option maxRecDepth 100000 in
set_option maxHeartbeats 4000000 in
theorem lay_R (J : Nat → Nat → Int64) (x : Bool) : isR (J, pM, tM ++ [(3, 1)], x) := by
  unfold isR
  dsimp only
  exact ⟨by decide +kernel, by decide +kernel, by decide +kernel, by decide +kernel, by decide +kernel, by decide +kernel, by decide +kernel, by decide +kernel, by decide +kernel, by decide +kernel, by decide +kernel, by decide +kernel, by decide +kernel, by decide +kernel, by decide +kernel, by decide +kernel, by decide +kernel, by decide +kernel, by decide +kernel⟩
end CD
