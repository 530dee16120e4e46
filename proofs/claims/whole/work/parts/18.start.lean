set_option maxRecDepth 20000 in
theorem w_18 : (Jvm.Cond.classLink "AmendedDrawingLaw" (8 : Nat) "AmendedDrawing") ∈ TT := tt_mem 18 rfl rfl
set_option maxRecDepth 20000 in
theorem w_19 : (Jvm.Cond.instantiable "AmendedDrawing" (6 : Nat)) ∈ TT := tt_mem 19 rfl rfl
set_option maxRecDepth 20000 in
theorem w_20 : (Jvm.Cond.methodLink "AmendedDrawingLaw" (59 : Nat) ({ cls := "AmendedDrawing", name := "<init>", desc := "()V" } : Jvm.MethodName)) ∈ TT := tt_mem 20 rfl rfl
set_option maxRecDepth 20000 in
theorem w_652 : (Jvm.Cond.classLink "AmendedDrawingLaw" (60 : Nat) "AmendedDrawingModel") ∈ TT := tt_mem 652 rfl rfl
set_option maxRecDepth 20000 in
theorem w_653 : (Jvm.Cond.instantiable "AmendedDrawingModel" (19 : Nat)) ∈ TT := tt_mem 653 rfl rfl
set_option maxRecDepth 20000 in
theorem w_654 : (Jvm.Cond.methodLink "AmendedDrawingLaw" (62 : Nat) ({ cls := "AmendedDrawingModel", name := "<init>", desc := "()V" } : Jvm.MethodName)) ∈ TT := tt_mem 654 rfl rfl
set_option maxRecDepth 20000 in
theorem w_943 : (Jvm.Cond.arrayClass Jvm.ClassFile.FieldType.long) ∈ TT := tt_mem 943 rfl rfl
theorem ki : ∀ ci : Nat, ci < 8 → Cond.instantiable (cC ci) (cN ci) ∈ TT
  | 0, _ => w_19
  | 1, _ => w_28
  | 2, _ => w_58
  | 3, _ => w_51
  | 4, _ => w_100
  | 5, _ => w_113
  | 6, _ => w_106
  | 7, _ => w_653
  | k + 8, h => absurd h (by omega)
set_option maxRecDepth 100000 in
theorem law_entry {g : Gm} (htr : ∀ e, (g_l g).admits e → e.platform.stackTraces = false) (hn : g_n g ≤ 3072) {Inv : Mem → Prop} (h0 : Inv S0) (ok_commit : OK_commit Inv) (ok_withdraw : OK_withdraw Inv) (ok_reinstate : OK_reinstate Inv) (ok_amend : OK_amend Inv) (ok_undo : OK_undo Inv) (ok_redo : OK_redo Inv) (ok_actions : OK_actions Inv) (ok_argument : OK_argument Inv) (ok_effect : OK_effect Inv) (ok_needed : OK_needed Inv) (ok_needs : OK_needs Inv) (ok_objects : OK_objects Inv) (ok_object : OK_object Inv) (ok_hit : OK_hit Inv) (ok_shown : OK_shown Inv) (ok_inside : OK_inside Inv) : Z g M_l_law 0 0 0 (entryL [.retAddr 1] 7) [] (S0, J0, pN, [], true) (fun r _ => r = .inl (some (.int 1))) := by
  show Z g M_l_law 0 0 0 [some (.retAddr 1), none, none, none, none, none, none] [] (S0, J0, pN, [], true) _
  refine z_new0 (n := 0) (ci := 0) rfl (pN_fr 0) rfl (by decide) w_18 w_19 w_1 rfl rfl ?_
  refine z_dup rfl rfl ?_
  refine z_ci0 rfl w_20 ci_d_init rfl rfl rfl zi_d (by decide +kernel) ?_
  refine z_astore_n [some (.retAddr 1), some (.ref 0), none, none, none, none, none] rfl rfl rfl ?_
  refine z_new0 (n := 148) (ci := 7) (by decide +kernel) pD_fr rfl (by decide) w_652 w_653 w_8 rfl rfl ?_
  refine z_dup rfl rfl ?_
  refine z_ci0 rfl w_654 ci_r_init rfl rfl rfl zi_r (by decide +kernel) ?_
  refine z_astore_n [some (.retAddr 1), some (.ref 0), some (.ref 148), none, none, none, none] rfl rfl rfl ?_
  refine z_iconst 1 rfl rfl ?_
  refine z_newarr0 (n := 158) 3 1 (by decide +kernel) pM_fr rfl (Or.inr (Or.inr rfl)) w_943 (by decide) rfl rfl rfl rfl ?_
  refine z_astore_n [some (.retAddr 1), some (.ref 0), some (.ref 148), some (.ref 158), none, none, none] rfl rfl rfl ?_
  refine z_iconst 0 rfl rfl ?_
  refine z_istore [some (.retAddr 1), some (.ref 0), some (.ref 148), some (.ref 158), some (.int (nI 0)), none, none] rfl rfl rfl ?_
  refine z_froz ?_
  exact law_loop htr hn ok_commit ok_withdraw ok_reinstate ok_amend ok_undo ok_redo ok_actions ok_argument ok_effect ok_needed ok_needs ok_objects ok_object ok_hit ok_shown ok_inside (g_n g + 1) 0 159 1699 S0 J0 none none (by omega) (by omega) (by omega) (by omega) h0
theorem zN_of {X Y : String} {args : Array Value} {s : State} (h : (Cond.not (.castable X Y)).before args s = true) : zN X Y s := by
  simp only [Cond.before, Cond.holds, Cond.value] at h
  cases hc : s.vm.findClass X with
  | none => simp [hc] at h
  | some c =>
    cases ht : s.vm.findClass Y with
    | none => simp [hc, ht] at h
    | some t => exact ⟨c, t, hc, ht, by simpa [hc, ht] using h⟩
theorem zL_of {n d : String} {A : Nat → Prop} {args : Array Value} {s : State} (h : (Cond.laysStatic "java/lang/Throwable" n d).before args s = true) (hA : ∀ a : Nat, a < s.heap.size → ¬ A a) : zL n d A s s.heap := by
  obtain ⟨c, k, i, f, a, cell, h0, h1, h2, h3, h4, h5, h6, h7, h8⟩ := Cond.laysStatic_spec h
  exact ⟨c, k, i, f, a, cell, h0, h1, h2, h3, h4, h5, h6, h7, h8, hA a (Array.getElem?_eq_some_iff.mp h4).1⟩
theorem arr_of {ty : FieldType} {args : Array Value} {s : State} (h : (Cond.arrayClass ty).before args s = true) : ∃ cA, ArrOfT s cA ty ∧ s.vm.findClass ("[" ++ ty.toString) = some cA := by
  obtain ⟨c, k, comp, h1, h2, h3⟩ := Cond.arrayClass_spec h
  exact ⟨c, fun N z => ⟨(fun k h => by cases h), k, h2, comp, h3⟩, h1⟩
theorem aro_of {C : String} {args : Array Value} {s : State} (h : (Cond.arrayOver (.object C)).before args s = true) : ∃ cA, ArrOfT s cA (.object C) ∧ va_RA s cA (.object C) := by
  obtain ⟨comp, c, k, h1, -, h2, h3, h4⟩ := Cond.arrayOver_spec h
  exact ⟨c, fun N z => ⟨(fun k h => by cases h), k, h2, comp, h3⟩, k, comp, h2, h3, h1, h4⟩
set_option maxRecDepth 100000 in
set_option maxHeartbeats 4000000 in
theorem law_cx {p : Program} {s : State} {m : MethodId} {meth : Method} {c : Code} {l : Launch} {b L : Nat} {xs : Nat → Int32} (hx : p.tables.exec = Jvm.exec) (hb : c.code = code) (hr : meth.sig.returnType = ret) (hml : c.maxLocals = 7) (hown : s.vm.findClass "AmendedDrawingLaw" = some m.cls)
    (hts : ∀ w ∈ lw_tbl, w.before #[Value.ref b] s = true) (hX : va_X b L xs s s.heap) (hbl : b < s.heap.size) (hlk : meth.locks = false) (hgv : (Jvm.Cond.and given_1 narrow_1).before #[Value.ref b] s = true) (hnm : meth.name = "law") (hex : c.exceptionTable.toList = []) :
    ∃ (D : va_G) (cA : Nat → ClassId) (t : Nat), Cx (l, D, cA, s.heap.size, t, b, L, xs) M_l_law p s m #[Value.ref b] meth c := by
  have hs := flat_of_before _ hgv
  have hT : ∀ w ∈ TT, w.before #[Value.ref b] s = true := fun w hw => hts w (List.mem_filter.mp hw).1
  have hk : ∀ ci : Nat, ∃ q : ClassId × (Nat → Nat), ci < 8 → u_Kn s (cC ci) (cF ci) (cN ci) q.1 q.2 := fun ci => by
    by_cases h : ci < 8
    · obtain ⟨c1, i1, h1⟩ := u_known hT (kc_in ci h) (hT _ (ki ci h))
      exact ⟨(c1, i1), fun _ => h1⟩
    · exact ⟨(0, fun _ => 0), fun q => absurd q h⟩
  obtain ⟨f, hf⟩ := Classical.axiomOfChoice hk
  obtain ⟨a0, b0, n0⟩ := arr_of (ty := .int) (hts _ (List.mem_append_right _ (List.mem_of_getElem? (i := 49) rfl)))
  obtain ⟨a1, b1, n1⟩ := arr_of (ty := .boolean) (hts _ (List.mem_append_right _ (List.mem_of_getElem? (i := 716) rfl)))
  obtain ⟨a2, b2, n2⟩ := arr_of (ty := .long) (hts _ (List.mem_append_right _ (List.mem_of_getElem? (i := 943) rfl)))
  have ho3 : (Cond.arrayOver (.object R_Action)).before #[Value.ref b] s = true := (hts _ (List.mem_append_right _ (List.mem_of_getElem? (i := 27) rfl)))
  have ho4 : (Cond.arrayOver (.object R_Edit)).before #[Value.ref b] s = true := (hts _ (List.mem_append_right _ (List.mem_of_getElem? (i := 57) rfl)))
  have ho5 : (Cond.arrayOver (.object R_Item)).before #[Value.ref b] s = true := (hts _ (List.mem_append_right _ (List.mem_of_getElem? (i := 112) rfl)))
  obtain ⟨a3, b3, n3⟩ := aro_of ho3
  obtain ⟨a4, b4, n4⟩ := aro_of ho4
  obtain ⟨a5, b5, n5⟩ := aro_of ho5
  have hA : ∀ a : Nat, a < s.heap.size → ¬ (s.heap.size ≤ a) := fun a h => Nat.not_le_of_lt h
  have hel : ∀ j : Nat, j < 40 → (Term.elem (.static "AmendedDrawing$Action" "SORTS" "[I") (.int (Int32.ofNat j))).eval #[Value.ref b] s none [] s = some (.int (sortsF j)) := fun j hj => by
    match j, hj with
    | 0, _ => exact va_eqt (hs _ (List.mem_of_getElem? (i := 7) rfl))
    | 1, _ => exact va_eqt (hs _ (List.mem_of_getElem? (i := 8) rfl))
    | 2, _ => exact va_eqt (hs _ (List.mem_of_getElem? (i := 9) rfl))
    | 3, _ => exact va_eqt (hs _ (List.mem_of_getElem? (i := 10) rfl))
    | 4, _ => exact va_eqt (hs _ (List.mem_of_getElem? (i := 11) rfl))
    | 5, _ => exact va_eqt (hs _ (List.mem_of_getElem? (i := 12) rfl))
    | 6, _ => exact va_eqt (hs _ (List.mem_of_getElem? (i := 13) rfl))
    | 7, _ => exact va_eqt (hs _ (List.mem_of_getElem? (i := 14) rfl))
    | 8, _ => exact va_eqt (hs _ (List.mem_of_getElem? (i := 15) rfl))
    | 9, _ => exact va_eqt (hs _ (List.mem_of_getElem? (i := 16) rfl))
    | 10, _ => exact va_eqt (hs _ (List.mem_of_getElem? (i := 17) rfl))
    | 11, _ => exact va_eqt (hs _ (List.mem_of_getElem? (i := 18) rfl))
    | 12, _ => exact va_eqt (hs _ (List.mem_of_getElem? (i := 19) rfl))
    | 13, _ => exact va_eqt (hs _ (List.mem_of_getElem? (i := 20) rfl))
    | 14, _ => exact va_eqt (hs _ (List.mem_of_getElem? (i := 21) rfl))
    | 15, _ => exact va_eqt (hs _ (List.mem_of_getElem? (i := 22) rfl))
    | 16, _ => exact va_eqt (hs _ (List.mem_of_getElem? (i := 23) rfl))
    | 17, _ => exact va_eqt (hs _ (List.mem_of_getElem? (i := 24) rfl))
    | 18, _ => exact va_eqt (hs _ (List.mem_of_getElem? (i := 25) rfl))
    | 19, _ => exact va_eqt (hs _ (List.mem_of_getElem? (i := 26) rfl))
    | 20, _ => exact va_eqt (hs _ (List.mem_of_getElem? (i := 27) rfl))
    | 21, _ => exact va_eqt (hs _ (List.mem_of_getElem? (i := 28) rfl))
    | 22, _ => exact va_eqt (hs _ (List.mem_of_getElem? (i := 29) rfl))
    | 23, _ => exact va_eqt (hs _ (List.mem_of_getElem? (i := 30) rfl))
    | 24, _ => exact va_eqt (hs _ (List.mem_of_getElem? (i := 31) rfl))
    | 25, _ => exact va_eqt (hs _ (List.mem_of_getElem? (i := 32) rfl))
    | 26, _ => exact va_eqt (hs _ (List.mem_of_getElem? (i := 33) rfl))
    | 27, _ => exact va_eqt (hs _ (List.mem_of_getElem? (i := 34) rfl))
    | 28, _ => exact va_eqt (hs _ (List.mem_of_getElem? (i := 35) rfl))
    | 29, _ => exact va_eqt (hs _ (List.mem_of_getElem? (i := 36) rfl))
    | 30, _ => exact va_eqt (hs _ (List.mem_of_getElem? (i := 37) rfl))
    | 31, _ => exact va_eqt (hs _ (List.mem_of_getElem? (i := 38) rfl))
    | 32, _ => exact va_eqt (hs _ (List.mem_of_getElem? (i := 39) rfl))
    | 33, _ => exact va_eqt (hs _ (List.mem_of_getElem? (i := 40) rfl))
    | 34, _ => exact va_eqt (hs _ (List.mem_of_getElem? (i := 41) rfl))
    | 35, _ => exact va_eqt (hs _ (List.mem_of_getElem? (i := 42) rfl))
    | 36, _ => exact va_eqt (hs _ (List.mem_of_getElem? (i := 43) rfl))
    | 37, _ => exact va_eqt (hs _ (List.mem_of_getElem? (i := 44) rfl))
    | 38, _ => exact va_eqt (hs _ (List.mem_of_getElem? (i := 45) rfl))
    | 39, _ => exact va_eqt (hs _ (List.mem_of_getElem? (i := 46) rfl))
    | j + 40, h => exact absurd h (by omega)
  obtain ⟨t, ht, hT40⟩ := va_Tof (tm := .static "AmendedDrawing$Action" "SORTS" "[I") (ty := .int) (N := 40) (f := fun j => .int (sortsF j)) (A := fun q => s.heap.size ≤ q) (by decide) (hs _ (List.mem_of_getElem? (i := 5) rfl)) (va_eqt (hs _ (List.mem_of_getElem? (i := 6) rfl))) hel hA
  have hZ0 := va_Zof (A := fun q => s.heap.size ≤ q) (hts _ (List.mem_append_right _ (List.mem_of_getElem? (i := 256) rfl))) (hts _ (List.mem_append_right _ (List.mem_of_getElem? (i := 2) rfl))) ht hA
  obtain ⟨v1, hv1, hr1⟩ := Cond.isRef_spec (hs _ (List.mem_of_getElem? (i := 47) rfl))
  obtain ⟨v2, hv2, hr2⟩ := Cond.isRef_spec (hs _ (List.mem_of_getElem? (i := 48) rfl))
  have hini := (hts _ (List.mem_append_right _ (List.mem_of_getElem? (i := 9) rfl)))
  have hl1 := (hts _ (List.mem_append_right _ (List.mem_of_getElem? (i := 301) rfl)))
  have hl2 := (hts _ (List.mem_append_right _ (List.mem_of_getElem? (i := 303) rfl)))
  refine ⟨(fun ci => (f ci).1, fun ci => (f ci).2), fun k => match k with
    | 0 => a0
    | 1 => a1
    | 2 => a2
    | 3 => a3
    | 4 => a4
    | _ => a5, t, hx, hb, hml, hr, hlk, hnm, hown, hT, ⟨⟨?_, ?_⟩, ⟨va_AO.of ho3, va_AO.of ho4, va_AO.of ho5⟩, ?_, ?_⟩, ⟨hZ0, hT40, hX, hbl, Nat.le_refl _, ⟨⟨v1, hr1⟩, va_Zof hl1 hini hv1 hA⟩, ⟨⟨v2, hr2⟩, va_Zof hl2 hini hv2 hA⟩, zL_of hl1 hA, zL_of hl2 hA⟩, ok_l_law, by rw [hex]; rfl⟩
  · intro ci q hq
    have h8 : ci < 8 := (List.getElem?_eq_some_iff.mp hq).1
    cases Option.some.inj ((kc ci h8).symm.trans hq)
    exact hf ci h8
  · intro k q hq
    match k, hq with
    | 0, hq => cases hq; exact ⟨b0, n0⟩
    | 1, hq => cases hq; exact ⟨b1, n1⟩
    | 2, hq => cases hq; exact ⟨b2, n2⟩
    | 3, hq => cases hq; exact ⟨b3, n3⟩
    | 4, hq => cases hq; exact ⟨b4, n4⟩
    | 5, hq => cases hq; exact ⟨b5, n5⟩
    | k + 6, hq => cases hq
  · intro w hw
    have h1 := List.mem_filter.mp hw
    exact va_Nw.of (by
      have h2 := h1.2
      cases w <;> first | rfl | cases h2) (hts w h1.1)
  · intro q hq
    simp only [NC, List.mem_cons, List.not_mem_nil, or_false] at hq
    rcases hq with rfl | rfl | rfl
    · exact zN_of (hs _ (List.mem_of_getElem? (i := 57) rfl))
    · exact zN_of (hs _ (List.mem_of_getElem? (i := 80) rfl))
    · exact zN_of (hs _ (List.mem_of_getElem? (i := 79) rfl))
/-! THE CLAIM OUT OF ONE WALK OF THE LAW'S BODY. Your part is whole_start (and what it stands on); all else here is the same for every law, but numbers. -/
def R_law : String := "AmendedDrawingLaw"
def lw_P (b : Addr) (xs : List Int32) (args : Array Value) (s : State) : Prop := args = #[.ref b] ∧ s.IntsAt b xs ∧ xs.length ≤ 3072 ∧ (Jvm.Cond.and given_1 narrow_1).before args s = true
def lw_Q (_ : Array Value) (s : State) (o : Outcome) (t : State) : Prop := o = .returned (some (.int 1)) ∧ Framed s o t [] 630482 7204658
def lw_Z (below : List Frame) (a : Array Value) (s : State) : State → Prop := fun t => ∃ o, t.status = .running ∧ Ended t below o ∧ lw_Q a s o t
/-- what holds at the law's entry: the machine, the code, the tables' words (any of lw_tbl by 'hts w (by decide +kernel)'), the script of L ints xs at the cell b, what the Statement gives of the start (any of its parts by flat_of_before) -/
def lw_At (p : Program) (s : State) (m : MethodId) (meth : Method) (c : Code) (b L : Nat) (xs : Nat → Int32) : Prop :=
  p.tables.exec = Jvm.exec ∧ c.code = code ∧ meth.sig.returnType = ret ∧ c.maxLocals = 7 ∧ s.vm.findClass R_law = some m.cls ∧ (∀ w ∈ lw_tbl, w.before #[Value.ref b] s = true) ∧ va_X b L xs s s.heap ∧ b < s.heap.size ∧ meth.locks = false ∧ (Jvm.Cond.and given_1 narrow_1).before #[Value.ref b] s = true
/-- from the entry, for every script of at most 3072 ints, the law comes to its end with true, if the sixteen obligations hold of an invariant that holds at the start -/
theorem whole_start {Inv : Mem → Prop} (h0 : Inv S0) (ok_commit : OK_commit Inv) (ok_withdraw : OK_withdraw Inv) (ok_reinstate : OK_reinstate Inv) (ok_amend : OK_amend Inv) (ok_undo : OK_undo Inv) (ok_redo : OK_redo Inv) (ok_actions : OK_actions Inv) (ok_argument : OK_argument Inv) (ok_effect : OK_effect Inv) (ok_needed : OK_needed Inv) (ok_needs : OK_needs Inv) (ok_objects : OK_objects Inv) (ok_object : OK_object Inv) (ok_hit : OK_hit Inv) (ok_shown : OK_shown Inv) (ok_inside : OK_inside Inv) {p : Program} {e : Env} {s : State} {m : MethodId} {below : List Frame} {meth : Method} {c : Code} (l : Launch) (hfl : l.flags = flags0) {b L : Nat} {xs : Nat → Int32} (hL : L ≤ 3072) (C0 : lw_At p s m meth c b L xs) (hnm : meth.name = "law") (hex : c.exceptionTable.toList = []) : W p l e room_1 s m #[Value.ref b] below meth c s.heap [] 0 0 (lw_Z below #[Value.ref b] s) (entryFrame m ([Value.ref b] : List Value).toArray 7) := by
  obtain ⟨hx, hb, hr, hml, hown, hts, hX, hbl, hlk, hgv⟩ := C0
  obtain ⟨D, cA, t, hC⟩ := law_cx (l := l) (L := L) (xs := xs) hx hb hr hml hown hts hX hbl hlk hgv hnm hex
  have hP : va_P (g_D (l, D, cA, s.heap.size, t, b, L, xs)) CL (mws (l, D, cA, s.heap.size, t, b, L, xs) (S0, J0, pN, [], true)) s.heap := fun k q hq => by
    have h9 : mws (l, D, cA, s.heap.size, t, b, L, xs) (S0, J0, pN, [], true) = [] := rfl
    rw [h9] at hq
    exact absurd hq (by simp)
  have hLR := LR.entry (g := (l, D, cA, s.heap.size, t, b, L, xs)) (vs := [.retAddr 1]) (n := 7) (by decide)
  have hZ := law_entry (g := (l, D, cA, s.heap.size, t, b, L, xs)) (fun e he => Launch.traces_off hfl he) hL h0 ok_commit ok_withdraw ok_reinstate ok_amend ok_undo ok_redo ok_actions ok_argument ok_effect ok_needed ok_needs ok_objects ok_object ok_hit ok_shown ok_inside p e s m #[Value.ref b] below meth c hC s.heap [] _ ⟨hP, va_S.rf, hLR, fun _ => rfl⟩
  rw [lg_entry_eq]
  refine W.mono ?_ hZ
  rintro u ⟨o, h1, h2, ⟨⟨r, h', hr', hoK, -⟩, -⟩, Ls, ⟨h3, h4⟩, h5⟩
  subst hr'
  have ho : o = .returned (some (.int 1)) := hoK
  refine ⟨o, h1, h2, ho, ⟨_, ho⟩, h3, ?_⟩
  exact h4.weaken (fun x hx hlt => absurd (h5 x hx) (Nat.not_le_of_lt hlt)) (Nat.le_refl _) (Nat.le_refl _)
set_option maxHeartbeats 4000000 in
theorem lw_walk {Inv : Mem → Prop} (h0 : Inv S0) (ok_commit : OK_commit Inv) (ok_withdraw : OK_withdraw Inv) (ok_reinstate : OK_reinstate Inv) (ok_amend : OK_amend Inv) (ok_undo : OK_undo Inv) (ok_redo : OK_redo Inv) (ok_actions : OK_actions Inv) (ok_argument : OK_argument Inv) (ok_effect : OK_effect Inv) (ok_needed : OK_needed Inv) (ok_needs : OK_needs Inv) (ok_objects : OK_objects Inv) (ok_object : OK_object Inv) (ok_hit : OK_hit Inv) (ok_shown : OK_shown Inv) (ok_inside : OK_inside Inv) (l : Launch) (hfl : l.flags = flags0) (b : Addr) (xs : List Int32) : MetFree l x (headSpec (Jvm.Cond.code x code maxLocals ret :: tables_1) room_1) (lw_P b xs) (fun _ _ _ _ _ => True) lw_Q := by
  refine MetFree.of_bodyS (code := code) (maxLocals := maxLocals) (ret := ret) (by decide) ?_ ?_
  · intro args s m h hn
    obtain ⟨meth, c, h1, h2, h3, h4, h5, h6, -, -⟩ := Cond.code_spec hn (atoms_spec (ws := Jvm.Cond.code x code maxLocals ret :: tables_1) h _ List.mem_cons_self)
    exact ⟨meth, c, h1, h2, h3, h4, h5, h6⟩
  · intro p e s m args below meth c s₁ B hml0 hP _
    obtain ⟨rfl, hx, hbd, hgv⟩ := hP
    obtain ⟨scr, harrAt, hlist, hof, hsmall⟩ := hx
    obtain ⟨hcb, hkn, -, -⟩ := State.arrayAt?_spec harrAt
    have hown : s.vm.findClass R_law = some m.cls := findClass_of_methodNamed B.named
    have hts0 : ∀ c ∈ (Jvm.Cond.code x code maxLocals ret :: tables_1), c.before #[Value.ref b] s = true := atoms_spec (ws := Jvm.Cond.code x code maxLocals ret :: tables_1) B.pre
    have hts : ∀ w ∈ lw_tbl, w.before #[Value.ref b] s = true := k2_hts_sels lw_privs (fun w hw => hts0 w (List.mem_cons_of_mem _ hw)) lw_privs_ok
    have hml : c.maxLocals = 7 := B.maxLocals_eq (hts0 _ List.mem_cons_self)
    have X₀ : Stand p l e room_1 s m #[Value.ref b] below meth c s₁ [] 0 0 := Stand.of_body B
    have hh0 : s₁.heap = s.heap := by rw [B.state]; rfl
    have hsz : scr.slots.size = xs.length := by rw [← Array.length_toList, hlist, List.length_map]
    have hval : ∀ j : Nat, j < xs.length → scr.slots[j]? = some (.int (xs.getD j 0)) := fun j hj => by
      rw [← Array.getElem?_toList, hlist]
      simp [hj]
    have hbl : b < s.heap.size := (Array.getElem?_eq_some_iff.mp hcb).1
    have hX : va_X b xs.length (fun j => xs.getD j 0) s s.heap := ⟨scr, hcb, hof, hkn, hsz, hval⟩
    have K : W p l e room_1 s m #[Value.ref b] below meth c s₁.heap [] 0 0 (lw_Z below #[Value.ref b] s) (entryFrame m ([Value.ref b] : List Value).toArray 7) := by
      rw [hh0]
      exact whole_start h0 ok_commit ok_withdraw ok_reinstate ok_amend ok_undo ok_redo ok_actions ok_argument ok_effect ok_needed ok_needs ok_objects ok_object ok_hit ok_shown ok_inside l hfl hbd ⟨B.exec, B.bytes, B.returns, hml, hown, hts, hX, hbl, B.notSynchronized, hgv⟩ (name_of_methodNamed B.named B.method).1 (by simpa using B.noHandlers (hts0 _ List.mem_cons_self))
    obtain ⟨t, a1, o, b1, b2, b3⟩ := K s₁ rfl X₀
    exact ⟨t, o, a1, b1, b2, b3⟩
theorem lw_pre_spec {args : Array Value} {s : State} (h : (Jvm.Cond.and given_1 narrow_1).before args s = true) (hr : rest_1_c.before args s = true) : ∃ (b : Addr) (xs : List Int32), lw_P b xs args s := by
  have hs := flat_of_before _ h
  have hq := flat_of_before _ hr
  have hc : (Cond.count 1).before args s = true := hs _ (by decide +kernel)
  have harr : (Cond.arrayOf (.arg 0) .int).before args s = true := hs _ (by decide +kernel)
  have hle : (Cond.le (.length (.arg 0)) (.int 3072)).before args s = true := hs _ (by decide +kernel)
  have hlen : (Cond.isInt (.length (.arg 0))).before args s = true := hq _ (by decide +kernel)
  have hall : (Cond.all (.arg 0) (.isInt (.elem (.arg 0) (.index 0)))).before args s = true := hq _ (by decide +kernel)
  obtain ⟨b, xs, hb, hx⟩ := State.ints_of_pre rfl harr hlen hall
  have hsm : xs.length < 2 ^ 31 := hx.choose_spec.2.2.2
  have hev : (Term.length (.arg 0)).eval args s none [] s = some (.int xs.length.toInt32) := hx.length_eval hb
  have hv := Cond.le_ints hev (show (Term.int 3072).eval args s none [] s = some (.int 3072) from rfl)
  have hd : xs.length.toInt32 ≤ 3072 := by
    simpa [Cond.before, Cond.holds, hv] using hle
  have hN : xs.length ≤ 3072 := (Int32.ofNat_le_ofNat hsm (by decide)).mp (show Int32.ofNat xs.length ≤ Int32.ofNat 3072 from hd)
  exact ⟨b, xs, Cond.one_arg hc (show args[0]? = some (.ref b) from hb), hx, hN, h⟩
theorem lw_comes {Inv : Mem → Prop} (h0 : Inv S0) (ok_commit : OK_commit Inv) (ok_withdraw : OK_withdraw Inv) (ok_reinstate : OK_reinstate Inv) (ok_amend : OK_amend Inv) (ok_undo : OK_undo Inv) (ok_redo : OK_redo Inv) (ok_actions : OK_actions Inv) (ok_argument : OK_argument Inv) (ok_effect : OK_effect Inv) (ok_needed : OK_needed Inv) (ok_needs : OK_needs Inv) (ok_objects : OK_objects Inv) (ok_object : OK_object Inv) (ok_hit : OK_hit Inv) (ok_shown : OK_shown Inv) (ok_inside : OK_inside Inv) (l : Launch) (hfl : l.flags = flags0) : Comes l x (Jvm.Cond.code x code maxLocals ret :: tables_1) room_1 (fun tb e args s => Calls_1 tb e args s ∧ rest_1 tb e args s ∧ Pre_1 tb e args s)
    (fun _ _ args s o t => lw_Q args s o t) := by
  intro p e ha hc hk s m args below hf hfit hheap happ hpre
  obtain ⟨b, xs, hP⟩ := lw_pre_spec hpre.2.2 hpre.2.1
  obtain ⟨k, o, h1, h2, h3, hQ⟩ := lw_walk h0 ok_commit ok_withdraw ok_reinstate ok_amend ok_undo ok_redo ok_actions ok_argument ok_effect ok_needed ok_needs ok_objects ok_object ok_hit ok_shown ok_inside l hfl b xs p e ha hc hk s m args below hf ((Spec.applies_iff_loose hf).mp happ).1 hP trivial
  exact ⟨k, o, h1, h2, h3, hQ⟩
theorem lw_frame {s t : State} {o : Outcome} {args : Array Value} (h : Framed s o t [] 630482 7204658) :
    Framed s o t (fieldLocs frame_1_writes args s ++ arrayLocs frame_1_arrays args s ++ staticLocs frame_1_statics s) 630482 7204658 := h
theorem lw_limb {Inv : Mem → Prop} (h0 : Inv S0) (ok_commit : OK_commit Inv) (ok_withdraw : OK_withdraw Inv) (ok_reinstate : OK_reinstate Inv) (ok_amend : OK_amend Inv) (ok_undo : OK_undo Inv) (ok_redo : OK_redo Inv) (ok_actions : OK_actions Inv) (ok_argument : OK_argument Inv) (ok_effect : OK_effect Inv) (ok_needed : OK_needed Inv) (ok_needs : OK_needs Inv) (ok_objects : OK_objects Inv) (ok_object : OK_object Inv) (ok_hit : OK_hit Inv) (ok_shown : OK_shown Inv) (ok_inside : OK_inside Inv) (L : Cond) (hL : ∀ (args : Array Value) (s t : State), L.after args s (.returned (some (.int 1))) t = true) :
    ArmFor flags0 classFile x code maxLocals ret World_1 tables_1 room_1 Calls_1 rest_1 Pre_1
      (fun tb e a s o t => postC L tb e a s o t ∧ Framed s o t (fieldLocs frame_1_writes a s ++ arrayLocs frame_1_arrays a s ++ staticLocs frame_1_statics s) 630482 7204658) := by
  intro l hfl _ _ p e ha hc hk s m args below hf hfit hheap happ hpre
  obtain ⟨k, o, h1, h2, h3, rfl, hF⟩ := lw_comes h0 ok_commit ok_withdraw ok_reinstate ok_amend ok_undo ok_redo ok_actions ok_argument ok_effect ok_needed ok_needs ok_objects ok_object ok_hit ok_shown ok_inside l hfl p e ha hc hk s m args below hf hfit hheap happ hpre
  exact ⟨k, _, h1, h2, h3, hL args s _, lw_frame hF⟩
theorem i_vc_open {Inv : Mem → Prop} (h0 : Inv S0) (ok_commit : OK_commit Inv) (ok_withdraw : OK_withdraw Inv) (ok_reinstate : OK_reinstate Inv) (ok_amend : OK_amend Inv) (ok_undo : OK_undo Inv) (ok_redo : OK_redo Inv) (ok_actions : OK_actions Inv) (ok_argument : OK_argument Inv) (ok_effect : OK_effect Inv) (ok_needed : OK_needed Inv) (ok_needs : OK_needs Inv) (ok_objects : OK_objects Inv) (ok_object : OK_object Inv) (ok_hit : OK_hit Inv) (ok_shown : OK_shown Inv) (ok_inside : OK_inside Inv) : Claimed_1_1 ∧ Claimed_1_2 := ⟨lw_limb h0 ok_commit ok_withdraw ok_reinstate ok_amend ok_undo ok_redo ok_actions ok_argument ok_effect ok_needed ok_needs ok_objects ok_object ok_hit ok_shown ok_inside limb_1_1 (fun args s t => by simp [limb_1_1, Cond.after, Cond.holds, Cond.value]), lw_limb h0 ok_commit ok_withdraw ok_reinstate ok_amend ok_undo ok_redo ok_actions ok_argument ok_effect ok_needed ok_needs ok_objects ok_object ok_hit ok_shown ok_inside limb_1_2 (fun args s t => Cond.after_iff.mpr (by
  first | (rw [show limb_1_2 = Cond.eq .result (.int 1) from rfl, Cond.eq_ints (x := 1) (y := 1) rfl rfl]; simp; done) | (simp [limb_1_2, Cond.value, Term.eval]; done)))⟩
