/-! An exception that is caught: the search looks the classes of the handlers up (they may be looked up for the first time) -/
theorem go_classC {E : CtlPost} {e : Env} {d : Bool} {acts : List Jvm.Action} {s : State} {f : JFrame} {a : Addr} {Q : Handler → Pre} {x : ExceptionTableEntry} {t : List ExceptionTableEntry} {c : ClassId} {cell : Cell} {vm' : Vm} (hx : covers x f.pc = true) (h0 : x.catchType ≠ 0)
    (hg : (Jvm.resolveClass f.method.cls x.catchType).Gives e.toSetting s.vm (.ok c) vm') (hsz : vm'.classes.size ≤ s.vm.classes.size) (hcell : s.heap[a]? = some cell) (hobj : ∀ k, cell.vm ≠ .statics k) (hk : ∃ k, vm'.classes[cell.cls]? = some k) (hc : ∃ k, vm'.classes[c]? = some k) :
    wp (findHandler.go f a (x :: t)) Q E e d acts s ↔ if vm'.assignable cell.cls c = true then Q (.found x.handlerPc) d acts (s.setVm vm') else wp (findHandler.go f a t) Q E e d acts (s.setVm vm') := by
  simp only [covers] at hx
  obtain ⟨ha, ht⟩ := hg.op (op := VmOp.resolveClass f.method.cls x.catchType) rfl
  cases hfit : vm'.assignable cell.cls c <;>
    simp [findHandler.go, hx, h0, ha, ht, hsz, hcell, hobj, hk, hc, hfit, VmOp.dirties, VmOp.acts]
def FindsC (e : Env) (s : State) (f : JFrame) (a : Addr) (h : Handler) (vm' : Vm) : Prop :=
  ∀ (Q : Handler → Pre) (E : CtlPost) (d : Bool) (acts : List Jvm.Action), wp (findHandler f a) Q E e d acts s ↔ Q h d acts (s.setVm vm')
theorem stepThrowing_catchC {e : Env} {s : State} {a : Addr} {f : JFrame} {r : List Frame} {pc : Nat} {vm' : Vm} (hfind : FindsC e s f a (.found pc) vm') :
    (stepThrowing e s a (.java f :: r)).Is ((s.setVm vm').setFrames (.java { f with pc := pc, stack := [.ref a] } :: r)) [] := by
  simp only [stepThrowing, searchFrame, vmDo]
  generalize hr : Sem.go _ e false [] s = res
  obtain ⟨as, rfl, ha⟩ := Sem.eq_ok_of hr (a := Handler.found pc) (s' := s.setVm vm') (acts' := []) (by simp [hfind _ _ _ _])
  exact ⟨rfl, ha⟩
theorem Steps.caughtC {tb : Tables} {e : Env} {s target : State} {g : JFrame} {c : Code} {below : List Frame} {a : Addr} {vm' : Vm} (h : At s g.method c below) {pc : Nat} (hfind : FindsC e ((s.setTop g).pushFrame (.throwing a)) g a (.found pc) vm')
    (hrest : Steps tb e below ((s.setVm vm').setTop { g with pc := pc, stack := [.ref a] }) target) :
    Steps tb e below ((s.setTop g).pushFrame (.throwing a)) target := by
  obtain ⟨hgo, hw⟩ := h.throwing a
  refine Steps.head hgo hw ?_
  rw [stepThread_throwing (frames_entered h.top _), (stepThrowing_catchC (s := (s.setTop g).pushFrame (.throwing a)) hfind).1]
  obtain ⟨g₀, hg⟩ := Option.isSome_iff_exists.mp h.top
  obtain ⟨r, hr⟩ := State.topJava?_eq_some.mp hg
  have hr' : (s.setVm vm').frames = .java g₀ :: r := hr
  rw [State.setTop_of_frames _ hr'] at hrest
  have e1 : (((s.setTop g).pushFrame (.throwing a)).setVm vm').setFrames (.java { g with pc := pc, stack := [.ref a] } :: s.frames.tail) = (s.setVm vm').setFrames (.java { g with pc := pc, stack := [.ref a] } :: r) := by
    rw [State.pushFrame, State.setTop_of_frames _ hr, State.setFrames_setFrames, hr]
    show ((s.setFrames _).setFrames _).setVm vm' = (s.setFrames _).setVm vm'
    rw [State.setFrames_setFrames]
    rfl
  rw [e1]
  exact hrest
theorem as_refl (vm : Vm) (c : ClassId) : vm.assignable c c = true := by
  show vm.assignableAux (255 + 1) c c = true
  rw [Vm.assignableAux, Bool.or_eq_true, beq_iff_eq]
  exact Or.inl rfl
section CA
variable {p : Program} {l : Launch} {e : Env} {R : Room} {s : State} {m : MethodId} {args : Array Value} {below : List Frame} {meth : Method} {c : Code} {T : State} {locs : List Loc} {cells slots : Nat}
theorem catch_1 (X : Stand p l e R s m args below meth c T locs cells slots) {own nm : String} (hown : s.vm.findClass own = some m.cls) {a : Addr} {cell : Cell} (hcell : T.heap[a]? = some cell) (hobj : cell.vm.isStatics = false) (hcls : s.vm.findClass nm = some cell.cls)
    {g : JFrame} (hg : g.method = m) {x : ExceptionTableEntry} {t : List ExceptionTableEntry} (htab : c.exceptionTable.toList = x :: t) (hcov : covers x g.pc = true) (h0 : x.catchType ≠ 0) (hlink : (Cond.classLink own x.catchType nm).before args s = true) :
    ∃ vm', Stand p l e R s m args below meth c (T.setVm vm') locs cells slots ∧ ∀ target, Steps p.tables e below ((T.setVm vm').setTop { g with pc := x.handlerPc, stack := [.ref a] }) target → Steps p.tables e below ((T.setTop g).pushFrame (.throwing a)) target := by
  subst hg
  have hpl : e.platform.magicAccessors = ({} : Platform).magicAccessors := by rw [X.admits.platform]
  obtain ⟨cc, hfcc, hcl⟩ := Cond.classLink_spec hown hlink e.platform hpl
  cases hcls.symm.trans hfcc
  obtain ⟨hg₁, hwarm₁, hready₁⟩ := State.classEntry (e := e) X.warmed hcl
  have hsz : (T.vm.noted g.method.cls x.catchType (.cls cell.cls)).classes.size ≤ T.vm.classes.size := by rw [Vm.size_noted]; exact Nat.le_refl _
  generalize T.vm.noted g.method.cls x.catchType (.cls cell.cls) = vm₁ at hg₁ hwarm₁ hready₁ hsz
  obtain ⟨k0, hk0⟩ := Vm.classAt_of_findClass hcls
  obtain ⟨k1, hk1, -⟩ := hwarm₁.alike.2.2 _ _ hk0
  refine ⟨vm₁, X.noted hwarm₁, fun target h => Steps.caughtC X.here ?_ h⟩
  intro Q E d acts
  rw [W.findHandler_eq (s := (T.setTop g).pushFrame (.throwing a)) (by rw [Stand.throwing_vm]; exact X.method') X.code, htab,
    go_classC hcov h0 (by rw [Stand.throwing_vm]; exact hg₁) (by rw [Stand.throwing_vm]; exact hsz) (by rw [Stand.throwing_heap]; exact hcell) (VmData.ne_statics_of hobj) ⟨k1, hk1⟩ ⟨k1, hk1⟩, if_pos (as_refl _ _)]
theorem catch_2 (X : Stand p l e R s m args below meth c T locs cells slots) {own nm nm0 : String} (hown : s.vm.findClass own = some m.cls) {a : Addr} {cell : Cell} (hcell : T.heap[a]? = some cell) (hobj : cell.vm.isStatics = false) (hcls : s.vm.findClass nm = some cell.cls) (hno : zN nm nm0 s)
    {g : JFrame} (hg : g.method = m) {y x : ExceptionTableEntry} {t : List ExceptionTableEntry} (htab : c.exceptionTable.toList = y :: x :: t) (hcov0 : covers y g.pc = true) (h00 : y.catchType ≠ 0) (hlink0 : (Cond.classLink own y.catchType nm0).before args s = true) (hcov : covers x g.pc = true) (h0 : x.catchType ≠ 0) (hlink : (Cond.classLink own x.catchType nm).before args s = true) :
    ∃ vm', Stand p l e R s m args below meth c (T.setVm vm') locs cells slots ∧ ∀ target, Steps p.tables e below ((T.setVm vm').setTop { g with pc := x.handlerPc, stack := [.ref a] }) target → Steps p.tables e below ((T.setTop g).pushFrame (.throwing a)) target := by
  subst hg
  have hpl : e.platform.magicAccessors = ({} : Platform).magicAccessors := by rw [X.admits.platform]
  obtain ⟨cc, hfcc, hcl⟩ := Cond.classLink_spec hown hlink e.platform hpl
  cases hcls.symm.trans hfcc
  obtain ⟨c0, hfc0, hcl0⟩ := Cond.classLink_spec hown hlink0 e.platform hpl
  obtain ⟨d1, d2, hd1, hd2, hasg⟩ := hno
  cases hcls.symm.trans hd1
  cases hfc0.symm.trans hd2
  obtain ⟨hg₀, hwarm₀, -⟩ := State.classEntry (e := e) X.warmed hcl0
  have hsz0 : (T.vm.noted g.method.cls y.catchType (.cls c0)).classes.size ≤ T.vm.classes.size := by rw [Vm.size_noted]; exact Nat.le_refl _
  generalize T.vm.noted g.method.cls y.catchType (.cls c0) = vm₀ at hg₀ hwarm₀ hsz0
  obtain ⟨hg₁, hwarm₁, -⟩ := State.classEntry (e := e) hwarm₀ hcl
  have hsz : (vm₀.noted g.method.cls x.catchType (.cls cell.cls)).classes.size ≤ vm₀.classes.size := by rw [Vm.size_noted]; exact Nat.le_refl _
  generalize vm₀.noted g.method.cls x.catchType (.cls cell.cls) = vm₁ at hg₁ hwarm₁ hsz
  obtain ⟨k0, hk0⟩ := Vm.classAt_of_findClass hcls
  obtain ⟨kc, hkc⟩ := Vm.classAt_of_findClass hfc0
  obtain ⟨k1, hk1, -⟩ := hwarm₁.alike.2.2 _ _ hk0
  obtain ⟨k2, hk2, -⟩ := hwarm₀.alike.2.2 _ _ hk0
  obtain ⟨k3, hk3, -⟩ := hwarm₀.alike.2.2 _ _ hkc
  refine ⟨vm₁, X.noted hwarm₁, fun target h => Steps.caughtC X.here ?_ h⟩
  intro Q E d acts
  rw [W.findHandler_eq (s := (T.setTop g).pushFrame (.throwing a)) (by rw [Stand.throwing_vm]; exact X.method') X.code, htab,
    go_classC hcov0 h00 (by rw [Stand.throwing_vm]; exact hg₀) (by rw [Stand.throwing_vm]; exact hsz0) (by rw [Stand.throwing_heap]; exact hcell) (VmData.ne_statics_of hobj) ⟨k2, hk2⟩ ⟨k3, hk3⟩, if_neg (by rw [hwarm₀.alike.assignable, hasg]; exact Bool.false_ne_true),
    go_classC (s := ((T.setTop g).pushFrame (.throwing a)).setVm vm₀) hcov h0 hg₁ hsz (by show ((T.setTop g).pushFrame (.throwing a)).heap[a]? = _; rw [Stand.throwing_heap]; exact hcell) (VmData.ne_statics_of hobj) ⟨k1, hk1⟩ ⟨k1, hk1⟩, if_pos (as_refl _ _)]
  rfl
end CA
def cOK (M : MI) (pc n hp : Nat) : Prop := ∃ (a b t1 : Nat) (r : List (Nat × Nat × Nat × Nat)), (mX M = (a, b, hp, t1) :: r ∧ a ≤ pc ∧ pc < b ∧ t1 ≠ 0 ∧ Cond.classLink (mY M).cls t1 (xNm n) ∈ TT) ∨ ∃ (h1 a2 b2 t2 : Nat) (r2 : List (Nat × Nat × Nat × Nat)) (nm0 : String), mX M = (a, b, h1, t1) :: (a2, b2, hp, t2) :: r2 ∧ a ≤ pc ∧ pc < b ∧ t1 ≠ 0 ∧ Cond.classLink (mY M).cls t1 nm0 ∈ TT ∧ (xNm n, nm0) ∈ NC ∧ a2 ≤ pc ∧ pc < b2 ∧ t2 ≠ 0 ∧ Cond.classLink (mY M).cls t2 (xNm n) ∈ TT
def hnd (M : MI) (hp k2 nx2 : Nat) : Prop := (∃ tg, fI M hp = some (.astore k2, 2, nx2, tg)) ∨ ∃ (f : Fin 4) (tg : Nat), fI M hp = some (.astore_n f, 1, nx2, tg) ∧ (f : Nat) = k2
theorem LR.storeN {g : Gm} {n i : Nat} {L : List (Option Value)} {ls' : Array Slot} {v : Value} (hL : L.length = n) (h : lv_has ls' n ((i, v) :: (lvs g 0 L).filter (fun q => !(q.1 == i) && !(q.1 + 1 == i && q.2.category == 2)))) : LR g n ((clr L i).set i none) ls' := by
  refine ⟨h.1, by rw [List.length_set, clr_len, hL], h.2.1, fun j w hj => ?_⟩
  have hij : j ≠ i := by
    intro q
    subst q
    have h1 := (List.getElem?_eq_some_iff.mp hj).1
    rw [List.getElem?_set_self (by simpa using h1)] at hj
    cases hj
  rw [List.getElem?_set_ne (fun q => hij q.symm)] at hj
  obtain ⟨h1, h2⟩ := clr_at hj
  refine h.2.2 (j, tr g w) (List.mem_cons_of_mem _ (List.mem_filter.mpr ⟨(lvs_mem g L 0 _).mpr ⟨j, w, h1, by rw [Nat.zero_add]⟩, ?_⟩))
  simp only [Bool.and_eq_true, Bool.not_eq_true', beq_eq_false_iff_ne, Bool.and_eq_false_iff, tr_cat]
  exact ⟨hij, by
    by_cases h3 : j + 1 = i
    · exact Or.inr fun q => h2 ⟨h3, q⟩
    · exact Or.inl h3⟩
theorem MetX.ofWW {hh : List (Nat × Nat × Nat × Nat)} {l : Launch} {y : MethodName} {ws ws' : List Cond} {rm : Room} {Pc : Array Value → State → Prop} {Qc : Array Value → State → Outcome → State → Prop} {mc ms : Nat} {free : Addr → Prop} {cc : ByteArray} {maxL : Nat} {ret : Option FieldType}
    (hy : plainName y.cls = true) (hw : ws = Cond.codeWith y cc maxL ret hh :: ws')
    (body : ∀ p e s m args below meth c s₁, BodyLoose p l y (headSpec ws rm) cc maxL ret e s m args below meth c s₁ → c.maxLocals = maxL → Pc args s →
      W p l e (headSpec ws rm).room s m args below meth c s.heap [] 0 0 (MX below Qc args s mc ms free) (entryFrame m args maxL)) : MetX l y ws rm Pc Qc mc ms free := by
  refine MetFree.of_bodyS (code := cc) (maxLocals := maxL) (ret := ret) hy ?_ ?_
  · intro args s m h hn
    obtain ⟨m9, meth, c, hn9, h1, h2, h3, h4, -, h5, h6, -⟩ := Cond.codeWith_spec (atoms_spec (ws := ws) h _ (by rw [hw]; exact List.mem_cons_self))
    cases hn.symm.trans hn9
    exact ⟨meth, c, h1, h2, h3, h4, h5, h6⟩
  · intro p e s m args below meth c s₁ B hml hP _
    have hh0 : s₁.heap = s.heap := by rw [B.state]; rfl
    obtain ⟨t, a1, o, b1, b2, b3⟩ := body p e s m args below meth c s₁ B hml hP s₁ hh0 (Stand.of_body B)
    exact ⟨t, o, a1, b1, b2, ⟨b3.1, b3.2⟩⟩
def COW (M : MI) : Prop := mX M ≠ [] ∧ plainName (mY M).cls = true ∧ okM M ∧ Cond.codeWith (mY M) (mB M) (mL M) (mR M) (mX M) ∈ TT ∧ Cond.initialized (mY M).cls ∈ TT ∧ ((mY M).cls ≠ "java/lang/invoke/MethodHandle" ∧ (mY M).cls ≠ "java/lang/invoke/VarHandle")
def mWW (M : MI) : List Cond := Cond.codeWith (mY M) (mB M) (mL M) (mR M) (mX M) :: TT
theorem z_metW {g : Gm} {M : MI} {h : Hp} {Q : Rs → Hp → Prop} {vs : List Value} (hy : plainName (mY M).cls = true) (hM : okM M) (hlen : (entL vs).length ≤ mL M) (hZ : Z g M 0 0 0 (entryL vs (mL M)) [] h Q) :
    MetX (g_l g) (mY M) (mWW M) (mM M) (zPc g h vs) (QX g Q) (mM M).cells (mM M).slots (zA g) := by
  refine MetX.ofWW (cc := mB M) (maxL := mL M) (ret := mR M) hy rfl ?_
  intro p e s m args below meth c s₁ B hml hv
  obtain ⟨rfl, hk, hu, hP, hx⟩ := hv
  have hts := atoms_spec (ws := mWW M) B.pre
  have hcx : Cx g M p s m (vs.map (tr g)).toArray meth c := ⟨B.exec, B.bytes, hml, B.returns, B.notSynchronized, (name_of_methodNamed B.named B.method).1, findClass_of_methodNamed B.named, fun w hw => hts w (List.mem_cons_of_mem _ hw), hk, hu, hM, by
    obtain ⟨m9, meth9, c9, hn9, h1, h2, -, -, h3, -⟩ := Cond.codeWith_spec (hts _ List.mem_cons_self)
    cases B.named.symm.trans hn9
    cases B.method.symm.trans h1
    have hc9 : meth.code = some c := (Stand.of_body B).code
    cases hc9.symm.trans h2
    exact h3⟩
  rw [lg_entry_eq]
  exact hZ p e s m _ below meth c hcx s.heap [] _ ⟨hP, va_S.rf, LR.entry hlen, fun q => by rw [Nat.add_zero]; exact hx q⟩
/-- a call of a method with such a contract -/
theorem callXW {hh : List (Nat × Nat × Nat × Nat)} {l : Launch} {R : Room} {p : Program} {e : Env} {below : List Frame} {s : State} {sargs : Array Value} {m : MethodId} {meth : Method} {c : Code} {y : MethodName} {ws : List Cond} {rm : Room} {Pc : Array Value → State → Prop} {Qc : Array Value → State → Outcome → State → Prop} {mc ms : Nat} {free : Addr → Prop} {bytes : ByteArray} {maxL : Nat} {ret : Option FieldType}
    (hM : MetX l y ws rm Pc Qc mc ms free) (hblind : FrameBlind Pc) (hrc : rm.cells = mc) (hrs : rm.slots = ms) (hframes : rm.frames + 1 ≤ R.frames) (hlocals : 8 + (maxL + 11) + rm.locals ≤ R.locals)
    (hws : ∀ w ∈ ws, ∀ a' U, s.WarmedH U.vm → w.before a' U = true) (hcode : Cond.codeWith y bytes maxL ret hh ∈ ws) (hinit : ∀ a' U, s.WarmedH U.vm → (Cond.initialized y.cls).before a' U = true)
    {U : State} {locs : List Loc} {cells slots : Nat} (X : Stand p l e R s m sargs below meth c U locs cells slots) {g : JFrame} {ig : Instr} {len : Nat} (hg : g.method = m) (hsize : g.locals.size = c.maxLocals) (hdg : decode c.code g.pc = .ok (ig, len)) (hW : 2 * g.monitorRoom + (g.stack.map fun v => v.category).sum ≤ 8)
    {mk : MethodId} (hn : U.methodNamed? y = some mk) {a : Array Value} (hcells : cells + mc ≤ R.cells) (hslots : slots + ms ≤ R.slots) (hPc : Pc a U) :
    ∃ (o : Outcome) (t T' : State) (L : List Loc), Stand p l e R s m sargs below meth c T' (locs ++ L) (cells + mc) (slots + ms) ∧ (∀ q ∈ L, free q.base) ∧ T'.heap = t.heap ∧ T'.vm = t.vm ∧ Qc a (U.calling g mk a) o t ∧
      ((∃ v, o = .returned v ∧ Steps p.tables e below (doInvoke e (U.setTop g) [] mk a).1 (T'.setTop { g with pc := g.pc + len, stack := v.toList ++ g.stack })) ∨
        ∃ x, o = .threw x ∧ Steps p.tables e below (doInvoke e (U.setTop g) [] mk a).1 ((T'.setTop g).pushFrame (.throwing x))) := by
  have h1 : (headSpec ws rm).pre.before a U = true := atoms_intro fun w hw => hws w hw a U X.warmed
  obtain ⟨m9, methY, cY, hn9, hmY, hcY, -, hlY, -⟩ := Cond.codeWith_spec (hws _ hcode a U X.warmed)
  cases hn.symm.trans hn9
  obtain ⟨kY, hkY, -⟩ := className_of_methodNamed hn
  have hinitY : kY.init = .initialized := Cond.initialized_spec (findClass_of_methodNamed hn) hkY (hinit a U X.warmed)
  have h : At U g.method c below := by rw [hg]; exact X.here
  have happ : (headSpec ws rm).appliesLoose y e.platform (U.calling g mk a) = true :=
    Spec.appliesLoose_calling (g := g) h hdg hn hkY hinitY
      (X.room_calling (g := g) (R' := rm) hsize hmY hcY hframes (by rw [hlY]; omega) (by rw [hrc]; exact hcells) (by rw [hrs]; exact hslots)) h1
  obtain ⟨mid, hmid⟩ := h.above
  have hfr : (U.setTop g).frames = (.java g :: mid) ++ below := by rw [State.frames_setTop' g h.top, hmid]; rfl
  obtain ⟨o, s₂, hsteps, -, hend, hq, L, ⟨hW₂, hsame0⟩, hL⟩ := Steps.callFree hM p X.admits X.cas X.clock (acts := []) hfr happ (hblind _ _ _ _ hPc) trivial
  rw [State.frames_setTop' g h.top] at hend
  have hW' : U.WarmedH s₂.vm := hW₂
  cases o with
  | threw x =>
    rw [X.tail] at hend
    obtain ⟨T', X', hWT, hsT, ht⟩ := X.outOfThrown hg hend hW₂ hsame0
    refine ⟨.threw x, s₂, T', L, X', hL, ?_, ?_, hq, Or.inr ⟨x, rfl, ?_⟩⟩
    · rw [ht, Stand.throwing_heap]
    · rw [ht, Stand.throwing_vm]
    · rw [← ht]; exact hsteps
  | returned v =>
    obtain ⟨e2, q2, q3, q4, q5, q6⟩ := id hsame0
    have e3 : s₂ = ({ (U.calling g mk a).setFrames s₂.frames with heap := s₂.heap, slotsUsed := s₂.slotsUsed } : State).setVm s₂.vm := by
      have : s₂ = ({ s₂ with vm := (U.calling g mk a).vm } : State).setVm s₂.vm := rfl
      exact this.trans (congrArg (fun u : State => u.setVm s₂.vm) e2)
    obtain ⟨c₂, i₂, len₂, hc₂, hd₂, hf₂⟩ := hend
    have hcc : c₂ = c := by
      have h1 : s₂.code? g.method = U.code? g.method := by
        rw [State.code?_eq, State.code?_eq, hW'.alike.method?]
      exact Option.some.inj (hc₂.symm.trans (h1.trans h.code))
    subst hcc
    have hlen : len₂ = len := by rw [hdg] at hd₂; cases hd₂; rfl
    subst hlen
    obtain ⟨g₀, hg0⟩ := Option.isSome_iff_exists.mp h.top
    obtain ⟨r, hr⟩ := State.topJava?_eq_some.mp hg0
    have hs₂ : s₂ = (({ U with heap := s₂.heap, slotsUsed := s₂.slotsUsed } : State).setVm s₂.vm).setTop { g with pc := g.pc + len₂, stack := v.toList ++ g.stack } := by
      have hr' : (({ U with heap := s₂.heap, slotsUsed := s₂.slotsUsed } : State).setVm s₂.vm).frames = .java g₀ :: r := hr
      refine e3.trans ?_
      rw [hf₂, State.calling_eq h.top, State.setFrames_setFrames, State.setTop_of_frames _ hr', hr]
      rfl
    have hsame : U.sameButNew ({ U with heap := s₂.heap, slotsUsed := s₂.slotsUsed } : State) L mc ms := by
      refine ⟨?_, q2, q3, q4, q5, q6⟩
      obtain ⟨t, ht, -⟩ := State.frames_cons hr
      show ({ U with heap := s₂.heap, slotsUsed := s₂.slotsUsed } : State) = { U.setFrames U.frames with heap := s₂.heap, slotsUsed := s₂.slotsUsed }
      rw [State.setFrames_self ht]
    subst hg
    refine ⟨.returned v, s₂, (({ U with heap := s₂.heap, slotsUsed := s₂.slotsUsed } : State).setVm s₂.vm), L,
      ⟨X.admits, X.cas, X.clock, X.frames, X.room, X.hears, X.method, X.code, (X.here.setHeapUsed s₂.heap s₂.slotsUsed).setVm hW'.alike, X.tail, State.WarmedH.trans X.warmed hW', X.limits, X.bytes, X.same.trans (hsame.setVm s.vm)⟩,
      hL, rfl, rfl, hq, Or.inl ⟨v, rfl, ?_⟩⟩
    rw [← hs₂]
    exact hsteps
section ZH
variable {g : Gm} {M : MI} {c sl pc nx tg : Nat} {L : List (Option Value)} {st : List Value} {h : Hp} {Q : Rs → Hp → Prop}
theorem z_callC {M' : MI} {vs : List Value} {R : Rs → Hp → Prop} {ig : Instr} (hO : CO M') (hlen : Nat.ble (entL vs).length (mL M') = true) (hrm : rmOk M M' c sl = true) (hst : Nat.ble (st.map Value.category).sum 8 = true)
    (callee : Z g M' 0 0 0 (entryL vs (mL M')) [] h R) (kx : ∀ r h', R r h' → h'.2.2.2.2 = true → h.2.2.2.2 = true ∧ h'.2.2.2.1.length = h.2.2.2.1.length + (mM M').cells)
    (kr : ∀ v h', R (.inl v) h' → Z g M (c + (mM M').cells) (sl + (mM M').slots) (pc + 3) L (v.toList ++ st) h' Q) (kt : ∀ n h', R (.inr n) h' → ∃ hp k2 nx2, cOK M pc n hp ∧ hnd M hp k2 nx2 ∧ Nat.ble (k2 + 1) L.length = true ∧ Z g M (c + (mM M').cells) (sl + (mM M').slots) nx2 ((clr L k2).set k2 none) [] h' Q)
    {p : Program} {e : Env} {s : State} {m : MethodId} {args : Array Value} {below : List Frame} {meth : Method} {cd : Code} (hC : Cx g M p s m args meth cd) {locs : List Loc} {ls : Array Slot} {T : State} (hR : Rl g M c h L s T.heap locs ls) (X : Stand p (g_l g) e (mM M) s m args below meth cd T locs c sl)
    {g0 : JFrame} (hdg : decode cd.code pc = .ok (ig, 3))
    (inv : (h.2.2.2.2 = true → T.heap.size = g_o g + h.2.2.2.1.length) → ∃ (vm₁ : Vm) (mk : MethodId), Stand p (g_l g) e (mM M) s m args below meth cd (T.setVm vm₁) locs c sl ∧ s.methodNamed? (mY M') = some mk ∧ ∀ target, (∀ acts, Steps p.tables e below (doInvoke e ((T.setVm vm₁).setTop (F0 m pc ls (st.map (tr g)))) acts mk (vs.map (tr g)).toArray).1 target) → Steps p.tables e below (T.setTop g0) target) :
    ∃ t, Steps p.tables e below (T.setTop g0) t ∧ MX below (QX g Q) args s (mM M).cells (mM M).slots (zA g) t := by
  obtain ⟨hexec, hb, hml, hrt, hlk, hnm, hown, hts, hK, hU, hokM, hnoh⟩ := id hC
  obtain ⟨hP, hS, hL, hx⟩ := hR
  have hbase : g_o g ≤ T.heap.size := Nat.le_trans hU.2.2.2.2.1 hS.1
  have hsz : h.2.2.2.2 = true → T.heap.size = g_o g + h.2.2.2.1.length := fun q => by
    have q1 := hx q
    have q2 := X.heapSize
    have q3 := mws_size hP hbase
    omega
  obtain ⟨vm₁, mk, X₁, hnamed, hstep⟩ := inv hsz
  obtain ⟨hX', hpl, hok', hco, hini, hne⟩ := hO
  simp only [rmOk, Bool.and_eq_true] at hrm
  have hcx := callX (bytes := mB M') (maxL := mL M') (ret := mR M') (z_met hX' hpl hok' (Nat.le_of_ble_eq_true hlen) callee) zPc.blind rfl rfl (Nat.le_of_ble_eq_true hrm.1) (Nat.le_of_ble_eq_true hrm.2.1)
    (fun w hw a' U hW => by
      rcases List.mem_cons.mp hw with rfl | hw
      · exact TT_at hts hW _ hco
      · exact TT_at hts hW w hw)
    List.mem_cons_self (fun a' U hW => TT_at hts hW _ hini) X₁ (g := F0 m pc ls (st.map (tr g))) (ig := ig) (len := 3) rfl (hL.1.trans hml.symm) hdg
    (by
      have q := Nat.le_of_ble_eq_true hst
      have q2 : ((st.map (tr g)).map fun v => v.category) = st.map Value.category := by
        rw [List.map_map]
        exact List.map_congr_left fun v _ => tr_cat g v
      show 2 * 0 + ((st.map (tr g)).map fun v => v.category).sum ≤ 8
      rw [q2]
      omega)
    (X₁.named hnamed) (Nat.le_of_ble_eq_true hrm.2.2.1) (Nat.le_of_ble_eq_true hrm.2.2.2)
    (a := (vs.map (tr g)).toArray) ⟨rfl, zK.warm X₁.warmed hK, zU.kept X₁.warmed.alike hU hS.1 hS.2.1, hP, hsz⟩
  obtain ⟨o, t, T', L', X', hL', eH, eV, ⟨⟨r, h', hRr, hoK, hP'⟩, hF⟩, hout⟩ := hcx
  have hF1 : T.heap.size ≤ T'.heap.size := by rw [eH]; exact hF.1
  have hF2 : ∀ q : Nat, q < T.heap.size → ¬ zA g q → T'.heap[q]? = T.heap[q]? := fun q q1 q2 => by rw [eH]; exact hF.2 q q1 q2
  have hS' : va_S (zA g) s.heap T'.heap (locs ++ L') := ⟨Nat.le_trans hS.1 hF1, fun q q1 q2 => (hF2 q (Nat.lt_of_lt_of_le q1 hS.1) q2).trans (hS.2.1 q q1 q2), fun q hq => by
    rcases List.mem_append.mp hq with q1 | q1
    · exact hS.2.2 q q1
    · exact hL' q q1⟩
  have hx' : h'.2.2.2.2 = true → s.heap.size + (c + (mM M').cells) = g_o g + h'.2.2.2.1.length := fun q => by
    obtain ⟨q0, q1⟩ := kx r h' hRr q
    have q2 := hx q0
    omega
  rcases hout with ⟨v, rfl, hsteps⟩ | ⟨x, rfl, hsteps⟩
  · cases r with
    | inr n => obtain ⟨a, cell, q, -⟩ := hoK; cases q
    | inl v0 =>
      have hv : v = v0.map (tr g) := Outcome.returned.inj hoK
      subst hv
      obtain ⟨tt, hs2, hq2⟩ := kr v0 h' hRr p e s m args below meth cd hC T'.heap (locs ++ L') ls ⟨by rw [eH]; exact hP', hS', hL, hx'⟩ T' rfl X'
      refine ⟨tt, hstep _ (fun acts => by rw [doInvoke_state]; refine hsteps.trans ?_; cases v0 <;> exact hs2), hq2⟩
  · cases r with
    | inl v0 => cases hoK
    | inr n =>
      obtain ⟨a, cell, q, hcell, hst', hcls⟩ := hoK
      cases q
      obtain ⟨hp, k2, nx2, hcok, hhnd, hk2, hZ⟩ := kt n h' hRr
      have hcell' : T'.heap[x]? = some cell := by rw [eH]; exact hcell
      have hclsS : s.vm.findClass (xNm n) = some cell.cls := by
        rw [← X'.warmed.alike.findClass, eV]; exact hcls
      have hcat : ∃ vm', Stand p (g_l g) e (mM M) s m args below meth cd (T'.setVm vm') (locs ++ L') (c + (mM M').cells) (sl + (mM M').slots) ∧ ∀ target, Steps p.tables e below ((T'.setVm vm').setTop (F0 m hp ls [.ref x])) target → Steps p.tables e below ((T'.setTop (F0 m pc ls (st.map (tr g)))).pushFrame (.throwing x)) target := by
        obtain ⟨a, b, t1, r0, hc1 | ⟨h1, a2, b2, t2, r2, nm0, hc1, hc2, hc3, hc4, hc5, hc6, hc7, hc8, hc9, hc10⟩⟩ := hcok
        · obtain ⟨hc1, hc2, hc3, hc4, hc5⟩ := hc1
          rw [hc1] at hnoh
          obtain ⟨y, t, e1, e2, -⟩ := List.map_eq_cons_iff.mp hnoh
          cases e2
          exact catch_1 X' hown hcell' hst' hclsS (g := F0 m pc ls (st.map (tr g))) rfl e1 (by simp [covers]; exact ⟨hc2, hc3⟩) hc4 (hts _ hc5)
        · rw [hc1] at hnoh
          obtain ⟨y, t, e1, e2, e3⟩ := List.map_eq_cons_iff.mp hnoh
          obtain ⟨y2, tt, e4, e5, -⟩ := List.map_eq_cons_iff.mp e3
          cases e2
          cases e5
          rw [e4] at e1
          exact catch_2 X' hown hcell' hst' hclsS (hK.2.2.2 _ hc6) (g := F0 m pc ls (st.map (tr g))) rfl e1 (by simp [covers]; exact ⟨hc2, hc3⟩) hc4 (hts _ hc5) (by simp [covers]; exact ⟨hc7, hc8⟩) hc9 (hts _ hc10)
      obtain ⟨vm', X2, hcs⟩ := hcat
      have hlt := Nat.le_of_ble_eq_true hk2
      rw [hL.2.1] at hlt
      have hW : W p (g_l g) e (mM M) s m args below meth cd T'.heap (locs ++ L') (c + (mM M').cells) (sl + (mM M').slots) (MX below (QX g Q) args s (mM M).cells (mM M).slots (zA g)) (F0 m hp ls [.ref x]) := by
        have hfin : ∀ ls' : Array Slot, lv_has ls' (mL M) ((k2, Value.ref x) :: (lvs g 0 L).filter (fun q => !(q.1 == k2) && !(q.1 + 1 == k2 && q.2.category == 2))) → W p (g_l g) e (mM M) s m args below meth cd T'.heap (locs ++ L') (c + (mM M').cells) (sl + (mM M').slots) (MX below (QX g Q) args s (mM M).cells (mM M).slots (zA g)) (F0 m nx2 ls' []) := fun ls' hl' =>
          hZ p e s m args below meth cd hC T'.heap (locs ++ L') ls' ⟨by rw [eH]; exact hP', hS', LR.storeN hL.2.1 hl', hx'⟩
        rcases hhnd with ⟨tg2, hf⟩ | ⟨f4, tg2, hf, hf4⟩
        · obtain ⟨hd2, hn2, -⟩ := fI_ok hokM hf
          subst hn2
          exact lv_astore hexec hb hd2 hL.has hlt rfl hfin
        · obtain ⟨hd2, hn2, -⟩ := fI_ok hokM hf
          subst hn2
          exact lv_astore_n hexec hb hd2 hf4 hL.has hlt rfl hfin
      obtain ⟨tt, hs2, hq2⟩ := hW (T'.setVm vm') rfl X2
      exact ⟨tt, hstep _ (fun acts => by rw [doInvoke_state]; exact hsteps.trans (hcs _ hs2)), hq2⟩
theorem z_cvC {M' : MI} {ix k ci : Nat} {R : Rs → Hp → Prop} (as : List Value) (hi : fI M pc = some (.invokevirtual ix, 3, nx, tg)) (hl : Cond.methodLink (mY M).cls ix (mY M') ∈ TT) (hO : CO M') (hin : Cond.instanceMethod (mY M') ∈ TT) (hse : Cond.selects (mY M').cls (mY M') (mY M') ∈ TT)
    (hn : (parseMethodDescriptor (mY M').desc).map (fun d => d.parameters.length) = some as.length) (hT : h.2.2.2.1[k]? = some (0, ci)) (hci : ci < 8) (hcc : cC ci = (mY M').cls)
    (hlen : Nat.ble (entL (.ref k :: as)).length (mL M') = true) (hrm : rmOk M M' c sl = true) (hst : Nat.ble (st.map Value.category).sum 8 = true)
    (callee : Z g M' 0 0 0 (entryL (.ref k :: as) (mL M')) [] h R) (kx : ∀ r h', R r h' → h'.2.2.2.2 = true → h.2.2.2.2 = true ∧ h'.2.2.2.1.length = h.2.2.2.1.length + (mM M').cells)
    (kr : ∀ v h', R (.inl v) h' → Z g M (c + (mM M').cells) (sl + (mM M').slots) nx L (v.toList ++ st) h' Q) (kt : ∀ n h', R (.inr n) h' → ∃ hp k2 nx2, cOK M pc n hp ∧ hnd M hp k2 nx2 ∧ Nat.ble (k2 + 1) L.length = true ∧ Z g M (c + (mM M').cells) (sl + (mM M').slots) nx2 ((clr L k2).set k2 none) [] h' Q) : Z g M c sl pc L (as.reverse ++ .ref k :: st) h Q := by
  intro p e s m args below meth cd hC H locs ls hR T hTH X
  obtain ⟨hd, hnx, -⟩ := fI_ok hC.2.2.2.2.2.2.2.2.2.2.1 hi
  subst hnx
  subst hTH
  obtain ⟨hexec, hb, hml, hrt, hlk, hnm, hown, hts, hK, hU, hokM, hnoh⟩ := id hC
  have hdg : decode cd.code pc = .ok (.invokevirtual ix, 3) := by rw [hb]; exact hd
  refine z_callC hO hlen hrm hst callee kx kr kt hC hR X hdg (fun _ => ?_)
  obtain ⟨cellB, hcB, hoB, hclB⟩ := va_recv hK.1 hR.1 (kc ci hci) (mws_at hT)
  obtain ⟨mk, methM, hnamed, hmethM, hstM, habM⟩ := Cond.instanceMethod_spec (hts _ hin)
  obtain ⟨methM', cM, hmethM', -, -, -, -, -, -, hsigM⟩ := Cond.code_spec hnamed (hts _ hO.2.2.2.1)
  cases hmethM.symm.trans hmethM'
  obtain ⟨c2, r2, m2, q1, q2, q3, q4, kP, hkP, hkPi⟩ := Cond.selects_spec (hts _ hse)
  have hclB' : s.vm.findClass (mY M').cls = some cellB.cls := by rw [← hcc]; exact hclB
  cases hclB'.symm.trans q1
  cases (State.methodFound?_of_named hnamed hO.2.2.2.2.2).symm.trans q2
  cases hnamed.symm.trans q3
  have hselP : selectMethod e.platform s.vm cellB.cls mk = .method mk := by rw [Launch.admits_selectMethod X.admits]; exact q4
  obtain ⟨vm₁, X₁, hstep₁⟩ := X.invokevirtual hexec hown (hts _ hl) hnamed hmethM hstM hkP hkPi hO.2.2.2.2.2 (a := g_o g + k) (cell := cellB) hcB
    (fun z h => by rw [h] at hoB; cases hoB) hselP hmethM habM hkP hkPi (g := F0 m pc ls ((as.reverse ++ .ref k :: st).map (tr g))) rfl (argsL := as.map (tr g)) (rest := st.map (tr g))
    (by rw [hsigM] at hn; rw [List.length_map]; exact (Option.some.inj hn).symm) (by simp [tr]) hdg
  exact ⟨vm₁, mk, X₁, hnamed, hstep₁⟩
theorem z_callW {M' : MI} {vs : List Value} {R : Rs → Hp → Prop} {ig : Instr} (hO : COW M') (hlen : Nat.ble (entL vs).length (mL M') = true) (hrm : rmOk M M' c sl = true) (hst : Nat.ble (st.map Value.category).sum 8 = true)
    (callee : Z g M' 0 0 0 (entryL vs (mL M')) [] h R) (kx : ∀ r h', R r h' → h'.2.2.2.2 = true → h.2.2.2.2 = true ∧ h'.2.2.2.1.length = h.2.2.2.1.length + (mM M').cells)
    (kr : ∀ v h', R (.inl v) h' → Z g M (c + (mM M').cells) (sl + (mM M').slots) (pc + 3) L (v.toList ++ st) h' Q) (kt : ∀ n h', R (.inr n) h' → mX M = [] ∧ Q (.inr n) h')
    {p : Program} {e : Env} {s : State} {m : MethodId} {args : Array Value} {below : List Frame} {meth : Method} {cd : Code} (hC : Cx g M p s m args meth cd) {locs : List Loc} {ls : Array Slot} {T : State} (hR : Rl g M c h L s T.heap locs ls) (X : Stand p (g_l g) e (mM M) s m args below meth cd T locs c sl)
    {g0 : JFrame} (hdg : decode cd.code pc = .ok (ig, 3))
    (inv : (h.2.2.2.2 = true → T.heap.size = g_o g + h.2.2.2.1.length) → ∃ (vm₁ : Vm) (mk : MethodId), Stand p (g_l g) e (mM M) s m args below meth cd (T.setVm vm₁) locs c sl ∧ s.methodNamed? (mY M') = some mk ∧ ∀ target, (∀ acts, Steps p.tables e below (doInvoke e ((T.setVm vm₁).setTop (F0 m pc ls (st.map (tr g)))) acts mk (vs.map (tr g)).toArray).1 target) → Steps p.tables e below (T.setTop g0) target) :
    ∃ t, Steps p.tables e below (T.setTop g0) t ∧ MX below (QX g Q) args s (mM M).cells (mM M).slots (zA g) t := by
  obtain ⟨hexec, hb, hml, hrt, hlk, hnm, hown, hts, hK, hU, hokM, hnoh⟩ := id hC
  obtain ⟨hP, hS, hL, hx⟩ := hR
  have hbase : g_o g ≤ T.heap.size := Nat.le_trans hU.2.2.2.2.1 hS.1
  have hsz : h.2.2.2.2 = true → T.heap.size = g_o g + h.2.2.2.1.length := fun q => by
    have q1 := hx q
    have q2 := X.heapSize
    have q3 := mws_size hP hbase
    omega
  obtain ⟨vm₁, mk, X₁, hnamed, hstep⟩ := inv hsz
  obtain ⟨hX', hpl, hok', hco, hini, hne⟩ := hO
  simp only [rmOk, Bool.and_eq_true] at hrm
  have hcx := callXW (bytes := mB M') (maxL := mL M') (ret := mR M') (z_metW hpl hok' (Nat.le_of_ble_eq_true hlen) callee) zPc.blind rfl rfl (Nat.le_of_ble_eq_true hrm.1) (Nat.le_of_ble_eq_true hrm.2.1)
    (fun w hw a' U hW => by
      rcases List.mem_cons.mp hw with rfl | hw
      · exact TT_at hts hW _ hco
      · exact TT_at hts hW w hw)
    List.mem_cons_self (fun a' U hW => TT_at hts hW _ hini) X₁ (g := F0 m pc ls (st.map (tr g))) (ig := ig) (len := 3) rfl (hL.1.trans hml.symm) hdg
    (by
      have q := Nat.le_of_ble_eq_true hst
      have q2 : ((st.map (tr g)).map fun v => v.category) = st.map Value.category := by
        rw [List.map_map]
        exact List.map_congr_left fun v _ => tr_cat g v
      show 2 * 0 + ((st.map (tr g)).map fun v => v.category).sum ≤ 8
      rw [q2]
      omega)
    (X₁.named hnamed) (Nat.le_of_ble_eq_true hrm.2.2.1) (Nat.le_of_ble_eq_true hrm.2.2.2)
    (a := (vs.map (tr g)).toArray) ⟨rfl, zK.warm X₁.warmed hK, zU.kept X₁.warmed.alike hU hS.1 hS.2.1, hP, hsz⟩
  obtain ⟨o, t, T', L', X', hL', eH, eV, ⟨⟨r, h', hRr, hoK, hP'⟩, hF⟩, hout⟩ := hcx
  have hF1 : T.heap.size ≤ T'.heap.size := by rw [eH]; exact hF.1
  have hF2 : ∀ q : Nat, q < T.heap.size → ¬ zA g q → T'.heap[q]? = T.heap[q]? := fun q q1 q2 => by rw [eH]; exact hF.2 q q1 q2
  have hS' : va_S (zA g) s.heap T'.heap (locs ++ L') := ⟨Nat.le_trans hS.1 hF1, fun q q1 q2 => (hF2 q (Nat.lt_of_lt_of_le q1 hS.1) q2).trans (hS.2.1 q q1 q2), fun q hq => by
    rcases List.mem_append.mp hq with q1 | q1
    · exact hS.2.2 q q1
    · exact hL' q q1⟩
  have hx' : h'.2.2.2.2 = true → s.heap.size + (c + (mM M').cells) = g_o g + h'.2.2.2.1.length := fun q => by
    obtain ⟨q0, q1⟩ := kx r h' hRr q
    have q2 := hx q0
    omega
  rcases hout with ⟨v, rfl, hsteps⟩ | ⟨x, rfl, hsteps⟩
  · cases r with
    | inr n => obtain ⟨a, cell, q, -⟩ := hoK; cases q
    | inl v0 =>
      have hv : v = v0.map (tr g) := Outcome.returned.inj hoK
      subst hv
      obtain ⟨tt, hs2, hq2⟩ := kr v0 h' hRr p e s m args below meth cd hC T'.heap (locs ++ L') ls ⟨by rw [eH]; exact hP', hS', hL, hx'⟩ T' rfl X'
      refine ⟨tt, hstep _ (fun acts => by rw [doInvoke_state]; refine hsteps.trans ?_; cases v0 <;> exact hs2), hq2⟩
  · cases r with
    | inl v0 => cases hoK
    | inr n =>
      obtain ⟨a, cell, q, hcell, hst', hcls⟩ := hoK
      cases q
      obtain ⟨hXM, hq⟩ := kt n h' hRr
      have X2 := stand_widen X' (Nat.le_of_ble_eq_true hrm.2.2.1) (Nat.le_of_ble_eq_true hrm.2.2.2)
      have hno : cd.exceptionTable.toList = [] := by rw [hXM] at hnoh; exact List.map_eq_nil_iff.mp hnoh
      obtain ⟨s1, s2, s3, s4, s5⟩ := X2.leaveThrown x (g := F0 m pc ls (st.map (tr g))) rfl rfl rfl (fun y hy => by
        rw [hno] at hy
        cases hy) hlk
      refine ⟨_, hstep _ (fun acts => by rw [doInvoke_state]; exact hsteps.trans s1), .threw x, s2, s3, ⟨⟨.inr n, h', hq, ⟨x, cell, rfl, ?_, hst', ?_⟩, ?_⟩, ?_⟩, locs ++ L', ⟨s4, s5⟩, hS'.2.2⟩
      · show T'.heap[x]? = some cell
        rw [eH]; exact hcell
      · show T'.vm.findClass _ = _
        rw [eV]; exact hcls
      · show va_P _ _ _ T'.heap
        rw [eH]; exact hP'
      · exact hS'.F rfl
theorem z_csW {M' : MI} {ix : Nat} {R : Rs → Hp → Prop} (as : List Value) (hi : fI M pc = some (.invokestatic ix, 3, nx, tg)) (hl : Cond.methodLink (mY M).cls ix (mY M') ∈ TT) (hO : COW M') (hsta : Cond.static (mY M') ∈ TT)
    (hn : (parseMethodDescriptor (mY M').desc).map (fun d => d.parameters.length) = some as.length)
    (hlen : Nat.ble (entL as).length (mL M') = true) (hrm : rmOk M M' c sl = true) (hst : Nat.ble (st.map Value.category).sum 8 = true)
    (callee : Z g M' 0 0 0 (entryL as (mL M')) [] h R) (kx : ∀ r h', R r h' → h'.2.2.2.2 = true → h.2.2.2.2 = true ∧ h'.2.2.2.1.length = h.2.2.2.1.length + (mM M').cells)
    (kr : ∀ v h', R (.inl v) h' → Z g M (c + (mM M').cells) (sl + (mM M').slots) nx L (v.toList ++ st) h' Q) (kt : ∀ n h', R (.inr n) h' → mX M = [] ∧ Q (.inr n) h') : Z g M c sl pc L (as.reverse ++ st) h Q := by
  intro p e s m args below meth cd hC H locs ls hR T hTH X
  obtain ⟨hd, hnx, -⟩ := fI_ok hC.2.2.2.2.2.2.2.2.2.2.1 hi
  subst hnx
  subst hTH
  obtain ⟨hexec, hb, hml, hrt, hlk, hnm, hown, hts, hK, hU, hokM, hnoh⟩ := id hC
  have hdg : decode cd.code pc = .ok (.invokestatic ix, 3) := by rw [hb]; exact hd
  refine z_callW hO hlen hrm hst callee kx kr kt hC hR X hdg (fun _ => ?_)
  obtain ⟨mk, methM, cM, hnamed, hmethM, -, -, -, -, -, -, hsigM⟩ := Cond.codeWith_spec (hts _ hO.2.2.2.1)
  have hstatic : methM.isStatic = true := Cond.static_spec hnamed hmethM (hts _ hsta)
  obtain ⟨kP, hkP, -⟩ := className_of_methodNamed hnamed
  have hinitP : kP.init = .initialized := Cond.initialized_spec (findClass_of_methodNamed hnamed) hkP (hts _ hO.2.2.2.2.1)
  obtain ⟨vm₁, X₁, hstep₁⟩ := X.invokestatic hexec hown (hts _ hl) hnamed hmethM hstatic hkP hinitP hO.2.2.2.2.2 (g := F0 m pc ls ((as.reverse ++ st).map (tr g))) rfl (argsL := as.map (tr g)) (rest := st.map (tr g))
    (by rw [hsigM] at hn; rw [List.length_map]; exact (Option.some.inj hn).symm) (by simp) hdg
  exact ⟨vm₁, mk, X₁, hnamed, hstep₁⟩
end ZH
