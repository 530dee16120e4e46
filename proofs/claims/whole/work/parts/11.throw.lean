/-! 'new X; dup; X.<init>(); athrow': the exception leaves the method; nothing but the new cell has changed (the road of the library's Stand.ctorThrow0, with the state behind it said whole) -/
def xNames : List String := ["java/lang/RuntimeException", "java/lang/Exception"]
def xAtoms (own : String) (ic : Nat) (X : String) : List Cond :=
  Bundle.throwableAtoms ++ Bundle.chain0Atoms X xNames ++
  [.methodLink own ic (Bundle.init0 X), .instantiable X 6, .selects X Bundle.tFill0 Bundle.tFill0, .selects X Bundle.tFill Bundle.tFill,
   .lays X Bundle.tN "cause" "Ljava/lang/Throwable;", .lays X Bundle.tN "stackTrace" Bundle.steD, .lays X Bundle.tN "suppressedExceptions" Bundle.listD,
   .fieldLink Bundle.tN 198 Bundle.tN "backtrace" "Ljava/lang/Object;", .lays Bundle.tN Bundle.tN "backtrace" "Ljava/lang/Object;", .lays X Bundle.tN "backtrace" "Ljava/lang/Object;"]
theorem ctorThrowX {p : Program} {l : Launch} {e : Env} {R : Room} {s : State} {m₀ : MethodId} {args : Array Value} {below : List Frame} {meth : Method} {c : Code} {W : State} {locs : List Loc} {cells slots : Nat} {A : Nat → Prop}
    (X : Stand p l e R s m₀ args below meth c W locs cells slots) (hexec : p.tables.exec = Jvm.exec) (htr : e.platform.stackTraces = false) {own cls : String} {ic : Nat}
    (hown : s.vm.findClass own = some m₀.cls) (hcls : Bundle.fit cls = true)
    (h : ∀ a ∈ xAtoms own ic cls, a.before args s = true)
    (hZ1 : ∃ u : RefV, va_Z "java/lang/Throwable" "UNASSIGNED_STACK" "[Ljava/lang/StackTraceElement;" u.v A s s.heap) (hZ2 : ∃ u : RefV, va_Z "java/lang/Throwable" "SUPPRESSED_SENTINEL" "Ljava/util/List;" u.v A s s.heap) (hS : va_S A s.heap W.heap locs)
    {a : Addr} {cX : ClassId} {kX : Class} (hfoundX : s.vm.findClass cls = some cX) (hkX : s.vm.classes[cX]? = some kX) (hcell : W.heap[a]? = some (freshCell cX kX)) (hnew : s.heap.size ≤ a)
    {g : JFrame} (hg : g.method = m₀) (hsize : g.locals.size = c.maxLocals) (hlocked : g.locked = none) (hentered : g.entered = []) {rest : List Value} (hstack : g.stack = .ref a :: .ref a :: rest)
    (hd6 : decode c.code g.pc = .ok (.invokespecial ic, 3)) (hd9 : decode c.code (g.pc + 3) = .ok (.athrow, 1)) (hout : ∀ x ∈ c.exceptionTable.toList, covers x (g.pc + 3) = false)
    (hRframes : 5 < R.frames) (hRlocals : 2 * g.monitorRoom + ((Value.ref a :: rest).map fun v => v.category).sum + 80 ≤ R.locals) (hlocks : meth.locks = false) :
    ∃ (vm' : Vm) (ce : Cell) (U : State), U = ((W.setVm vm').setCell a ce).setFrames (.throwing a :: below) ∧ ce.cls = cX ∧ ce.vm = .none ∧ Steps p.tables e below (W.setTop g) U ∧ U.status = .running ∧ Ended U below (.threw a) ∧ s.WarmedH U.vm ∧ ∃ L, s.sameButNew ({ U with vm := s.vm } : State) (locs ++ L) cells slots ∧ ∀ q ∈ L, q.base = a := by
  have howns : e.platform.frameOwnsMonitors = true := by rw [X.admits.platform]
  have hfin : e.platform.finalization = false := by rw [X.admits.platform]
  have hpl : e.platform.magicAccessors = ({} : Platform).magicAccessors := by rw [X.admits.platform]
  have a' : ∀ x, x ∈ xAtoms own ic cls → x.holds args s none s [] = true := fun x hx => h x hx
  obtain ⟨T, Z, L, LZ, Y⟩ := ThrowableC.of_atoms (args := args) howns hfin hpl (fun x hx => h x (by simp [xAtoms, hx]))
  obtain ⟨P1, Ps, hlen, L1, hL, hP1m, hlink1, hlink⟩ := Bundle.chain0 (args := args) hpl Y.init0 xNames cls hcls (by decide) (fun x hx => h x (by simp [xAtoms, hx]))
  have hfound : s.vm.findClass cls = some P1.m.cls := findClass_of_methodNamed hP1m
  cases Option.some.inj (hfoundX.symm.trans hfound)
  obtain ⟨c1, kX', hc1, hk, hord, -, -, hn6⟩ := Cond.instantiable_spec (a' (.instantiable cls 6) (by simp [xAtoms]))
  cases Option.some.inj (hc1.symm.trans hfound)
  cases Option.some.inj (hkX.symm.trans hk)
  have hsel0 : selectMethod e.platform s.vm P1.m.cls T.fill0 = .method T.fill0 := by
    obtain ⟨c2, r2, m2, q1, q2, q3, q4, -⟩ := Cond.selects_spec (a' (.selects cls Bundle.tFill0 Bundle.tFill0) (by simp [xAtoms]))
    cases Option.some.inj (q1.symm.trans hfound)
    cases Option.some.inj (q2.symm.trans (State.methodFound?_of_named Y.fill0 (by decide)))
    cases Option.some.inj (q3.symm.trans Y.fill0)
    rw [Launch.admits_selectMethod X.admits]; exact q4
  have hselF : selectMethod e.platform s.vm P1.m.cls T.fill = .method T.fill := by
    obtain ⟨c2, r2, m2, q1, q2, q3, q4, -⟩ := Cond.selects_spec (a' (.selects cls Bundle.tFill Bundle.tFill) (by simp [xAtoms]))
    cases Option.some.inj (q1.symm.trans hfound)
    cases Option.some.inj (q2.symm.trans (State.methodFound?_of_named Y.fill (by decide)))
    cases Option.some.inj (q3.symm.trans Y.fill)
    rw [Launch.admits_selectMethod X.admits]; exact q4
  obtain ⟨u0, cf1, kf1, fi1, f1, a1, cellS0, hf1, hst1, -, hsta1, hcS0, hiss, hu0, hnA⟩ := hZ1
  obtain ⟨sen, cf2, kf2, fi2, f2, a2, cellS2, hf2, hst2, -, hsta2, hcS2, -, hsen, -⟩ := hZ2
  cases Option.some.inj (hf1.symm.trans Y.unassigned)
  cases Option.some.inj (hf2.symm.trans Y.sentinel)
  cases Option.some.inj (hsta1.symm.trans L.statics)
  cases Option.some.inj (hsta2.symm.trans L.statics)
  cases Option.some.inj (hcS2.symm.trans hcS0)
  have hltS : T.aS < s.heap.size := (Array.getElem?_eq_some_iff.mp hcS0).1
  have hcellS : W.heap[T.aS]? = some cellS0 := (hS.2.1 _ hltS hnA).trans hcS0
  obtain ⟨ci198, i198, fB, hk198, hg198, ha198, hsB, -, hnB, htB, hffB⟩ := Cond.ownField (t := .object "java/lang/Object") Y.found L.cls (by decide +kernel) (a' (.fieldLink Bundle.tN 198 Bundle.tN "backtrace" "Ljava/lang/Object;") (by simp [xAtoms])) (a' (.lays Bundle.tN Bundle.tN "backtrace" "Ljava/lang/Object;") (by simp [xAtoms])) e.platform hpl
  have hknownS : cellS0.vm ≠ .unknown := by
    intro hu
    rw [hu] at hiss
    cases hiss
  have hneS : T.aS ≠ a := Nat.ne_of_lt (Nat.lt_of_lt_of_le hltS hnew)
  obtain ⟨tyC, dC, hdC, hdnC⟩ := Cond.laysAt hfound hk Y.cause (a' (.lays cls Bundle.tN "cause" "Ljava/lang/Throwable;") (by simp [xAtoms]))
  obtain ⟨tyS, dS, hdS, hdnS⟩ := Cond.laysAt hfound hk Y.stack (a' (.lays cls Bundle.tN "stackTrace" Bundle.steD) (by simp [xAtoms]))
  obtain ⟨tyP, dP, hdP, hdnP⟩ := Cond.laysAt hfound hk Y.supp (a' (.lays cls Bundle.tN "suppressedExceptions" Bundle.listD) (by simp [xAtoms]))
  obtain ⟨tyB, dB, hdB, hdnB⟩ := Cond.laysAt hfound hk hffB (a' (.lays cls Bundle.tN "backtrace" "Ljava/lang/Object;") (by simp [xAtoms]))
  have bC := Cond.laysApart hdB hdC hdnB hdnC (by rw [hnB, Y.causeName]; decide)
  have bS := Cond.laysApart hdB hdS hdnB hdnS (by rw [hnB, Y.stackName]; decide)
  have bP := Cond.laysApart hdB hdP hdnB hdnP (by rw [hnB, Y.suppName]; decide)
  have hskip : SkipFacts T e.platform s (fun u => u) u0 ((preparedCellV T.toThrowableT (freshCell P1.m.cls kX) a u0 sen).withEntry W.cur) :=
    ⟨{ ci198 := ci198, i198 := i198, fBack := fB }, ⟨hk198, hg198, ha198, hsB⟩, by
      have := fresh_default (c := P1.m.cls) tyB
      rw [htB] at this
      simpa [preparedCellV, Cell.setSlot, Cell.withEntry, Array.getElem?_setIfInBounds, bC, bS, bP, bC.symm, bS.symm, bP.symm, defaultValue] using this, fun _ _ => rfl⟩
  obtain ⟨tm, methC, cdC, kC, vm₁, hnC, -, -, -, -, -, -, -, hW₁, st1⟩ := Steps.initCold (tb := p.tables) (e := e) (below := below) (s := s) (U := W) X.here hexec X.warmed hpl hown (t := Bundle.init0 cls) rfl rfl (Bundle.fit_spec hcls).2
    (a' (.methodLink own ic (Bundle.init0 cls)) (by simp [xAtoms])) (h (.instanceMethod (Bundle.init0 cls)) (by simp [xAtoms, xNames, Bundle.chain0Atoms, Bundle.passAtoms])) (bytes := Bundle.five) (maxL := 1) (h (.code (Bundle.init0 cls) Bundle.five 1 none) (by simp [xAtoms, xNames, Bundle.chain0Atoms, Bundle.passAtoms]))
    (f := g) hg (a := a) (rest := .ref a :: rest) hstack hd6
  cases Option.some.inj (hnC.symm.trans hP1m)
  have X₁ := X.noted hW₁
  have hlen2 : Ps.length = 2 := hlen
  obtain ⟨vm₂, X₂, st2⟩ := X₁.ctorPlainOffV hexec (g := { g with stack := .ref a :: rest }) hg hsize T L Z LZ (P1 :: Ps)
    (fun P hP => by rcases List.mem_cons.mp hP with rfl | hP; exact L1; exact hL P hP) ⟨hlink1, hlink⟩ (u0 := u0) (sen := sen) (self := a) (cell := freshCell P1.m.cls kX) (cellS := cellS0)
    hcell (fun _ => by simp) (by simp) rfl rfl hsel0 hselF hcellS hneS hknownS hu0 hsen
    (Takes.of_laid hk hord tyC (by rw [Y.causeType]; rfl)) (Takes.of_laid hk hord tyS (by rw [Y.stackType]; exact fits_refV_array _ u0)) (Takes.of_laid hk hord tyP (by rw [Y.suppType]; exact fits_refV_object _ sen)) Y.objLocals hskip htr [] hd6
    (by simp only [List.length_cons, hlen2]; omega) (by simp only [List.length_cons, hlen2]; exact hRlocals)
  obtain ⟨hwalk, hrun, hended, hWU, hsame⟩ := X₂.athrowLeaves hexec (g := { g with stack := .ref a :: rest, pc := g.pc + 3 }) hg hlocked hentered hout (a := a) (rest := rest) rfl hd9 hlocks
  rw [State.setVm_twice] at hwalk hrun hended hWU hsame
  refine ⟨vm₂, (preparedCellV T.toThrowableT (freshCell P1.m.cls kX) a u0 sen).setSlot T.fStack.slot u0.v, _, rfl, by simp [preparedCellV, Cell.setSlot], by simp [preparedCellV, Cell.setSlot], ?_, hrun, hended, hWU, _, hsame, ?_⟩
  · refine st1 _ fun acts => ?_
    rw [doInvoke_state]
    have := st2 _ (by rw [State.setVm_twice]; exact hwalk)
    rw [doInvoke_state] at this
    exact this
  · intro q hq
    simp only [List.mem_cons, List.not_mem_nil, or_false] at hq
    rcases hq with rfl | rfl | rfl | rfl <;> rfl
def xIn (w : Cond) : Prop := w ∈ TT ∨ w ∈ NW ∨ w = .laysStatic "java/lang/Throwable" "UNASSIGNED_STACK" "[Ljava/lang/StackTraceElement;" ∨ w = .laysStatic "java/lang/Throwable" "SUPPRESSED_SENTINEL" "Ljava/util/List;"
section ZT
variable {g : Gm} {M : MI} {c sl pc n1 n2 n3 n4 t1 t2 t3 t4 : Nat} {L : List (Option Value)} {st : List Value} {h : Hp} {Q : Rs → Hp → Prop}
def thrOk (M : MI) (st : List Value) (c sl : Nat) : Bool := Nat.ble 6 (mM M).frames && (Nat.ble ((st.map Value.category).sum + 81) (mM M).locals && (Nat.ble (c + 1) (mM M).cells && Nat.ble (sl + 6) (mM M).slots))
theorem z_throw {ix ic : Nat} (k : Nat) (htr : ∀ e, (g_l g).admits e → e.platform.stackTraces = false) (hi1 : fI M pc = some (.new ix, 3, n1, t1)) (hi2 : fI M n1 = some (.dup, 1, n2, t2)) (hi3 : fI M n2 = some (.invokespecial ic, 3, n3, t3)) (hi4 : fI M n3 = some (.athrow, 1, n4, t4))
    (hcl : Cond.classLink (mY M).cls ix (xNm k) ∈ TT) (hini : Cond.initialized (xNm k) ∈ TT) (hat : ∀ w ∈ xAtoms (mY M).cls ic (xNm k), xIn w) (hfit : Bundle.fit (xNm k) = true) (hX : mX M = []) (hrm : thrOk M st c sl = true)
    (hq : Q (.inr k) (h.1, h.2.1, h.2.2.1, h.2.2.2.1, false)) : Z g M c sl pc L st h Q := by
  intro p e s m args below meth cd hC H locs ls hR T hTH X
  obtain ⟨hd1, hx1, -⟩ := fI_ok hC.2.2.2.2.2.2.2.2.2.2.1 hi1
  obtain ⟨hd2, hx2, -⟩ := fI_ok hC.2.2.2.2.2.2.2.2.2.2.1 hi2
  obtain ⟨hd3, hx3, -⟩ := fI_ok hC.2.2.2.2.2.2.2.2.2.2.1 hi3
  obtain ⟨hd4, -, -⟩ := fI_ok hC.2.2.2.2.2.2.2.2.2.2.1 hi4
  subst hx1; subst hx2; subst hx3
  subst hTH
  obtain ⟨hexec, hb, hml, hrt, hlk, hnm, hown, hts, hK, hU, hokM, hnoh⟩ := id hC
  obtain ⟨hP, hS, hL, hxx⟩ := hR
  simp only [thrOk, Bool.and_eq_true] at hrm
  have hats : ∀ w ∈ xAtoms (mY M).cls ic (xNm k), w.before args s = true := fun w hw => by
    rcases hat w hw with q | q | rfl | rfl
    · exact hts w q
    rotate_left
    · exact hU.2.2.2.2.2.2.2.1.use
    · exact hU.2.2.2.2.2.2.2.2.use
    · have h1 := (List.mem_filter.mp q).2
      exact va_Nw.use (by cases w <;> first | rfl | cases h1) (hK.2.2.1 w q)
  have hins : (Cond.instantiable (xNm k) 6).before args s = true := hats _ (by simp [xAtoms])
  obtain ⟨c1, kX, hc1, hk1, -⟩ := Cond.instantiable_spec hins
  have K : W p (g_l g) e (mM M) s m args below meth cd T.heap locs c sl (MX below (QX g Q) args s (mM M).cells (mM M).slots (zA g)) (F0 m pc ls (st.map (tr g))) := by
    refine W.newcK hexec hb hown (hts _ hcl) hins (hts _ hini) rfl hd1 (Nat.le_of_ble_eq_true hrm.2.2.1) (Nat.le_of_ble_eq_true hrm.2.2.2) hc1 rfl (fun H1 kC hkC e1 z1 o1 => ?_)
    refine lv_dup hexec hb hd2 rfl ?_
    intro T1 hT1 X1
    subst hT1
    cases Option.some.inj (hk1.symm.trans hkC)
    have hS1 := hS.grow z1 o1
    obtain ⟨vm', ce, U, hUe, hce1, hce2, hsteps, hrun, hend, hWU, L', hsame, hL'⟩ := ctorThrowX X1 hexec (htr e X.admits) hown hfit hats hU.2.2.2.2.2.1 hU.2.2.2.2.2.2.1 hS1 hc1 hkC (a := T.heap.size) e1 hS.1
      (g := F0 m (pc + 3 + 1) ls (.ref T.heap.size :: .ref T.heap.size :: st.map (tr g))) rfl (hL.1.trans hml.symm) rfl rfl rfl (by rw [hb]; exact hd3) (by rw [hb]; exact hd4)
      (fun y hy => by
        have h0 : cd.exceptionTable.toList = [] := by rw [hX] at hnoh; exact List.map_eq_nil_iff.mp hnoh
        rw [h0] at hy
        cases hy)
      (Nat.le_of_ble_eq_true hrm.1)
      (by
        have q := Nat.le_of_ble_eq_true hrm.2.1
        show 2 * 0 + (1 + ((st.map (tr g)).map fun v => v.category).sum) + 80 ≤ _
        rw [cats]
        omega) hlk
    have hUh : U.heap = T1.heap.setIfInBounds T.heap.size ce := by rw [hUe]; rfl
    have hne : ∀ q : Nat, q ≠ T.heap.size → U.heap[q]? = T1.heap[q]? := fun q hq' => by rw [hUh]; simp [Array.getElem?_setIfInBounds, Ne.symm hq']
    have hUs : U.heap.size = T.heap.size + 1 := by rw [hUh]; simp [z1]
    have hUo : ∀ q : Nat, q < T.heap.size → U.heap[q]? = T.heap[q]? := fun q hq' => (hne q (Nat.ne_of_lt hq')).trans (o1 q hq')
    have hUa : U.heap[T.heap.size]? = some ce := by rw [hUh]; simp [Array.getElem?_setIfInBounds, z1]
    have hbase : g_o g ≤ T.heap.size := Nat.le_trans hU.2.2.2.2.1 hS.1
    refine ⟨U, hsteps, .threw T.heap.size, hrun, hend, ⟨⟨.inr k, (h.1, h.2.1, h.2.2.1, h.2.2.2.1, false), hq, ⟨T.heap.size, ce, rfl, hUa, by rw [hce2]; rfl, ?_⟩, ?_⟩, ?_⟩, locs ++ L', ⟨hWU, ?_⟩, ?_⟩
    · rw [hce1]
      exact (hWU.alike.findClass _ _).trans hc1
    · exact hP.kept fun j x hx => hUo x.1 ((hP j x hx).lt)
    · exact ⟨Nat.le_trans hS.1 (by omega), fun q q1 q2 => (hUo q (Nat.lt_of_lt_of_le q1 hS.1)).trans (hS.2.1 q q1 q2)⟩
    · exact hsame.weaken (fun _ hy _ => hy) (Nat.le_of_ble_eq_true hrm.2.2.1) (Nat.le_of_ble_eq_true hrm.2.2.2)
    · intro q hq'
      rcases List.mem_append.mp hq' with q1 | q1
      · exact hS.2.2 q q1
      · rw [hL' q q1]; exact hbase
  exact K T rfl X
end ZT
