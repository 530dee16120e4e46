/-! Calls in the layer Z: a callee's Z at its entry is its contract; it comes back with an answer, or with an exception -/
def MetX (l : Launch) (y : MethodName) (ws : List Cond) (rm : Room) (Pc : Array Value → State → Prop) (Qc : Array Value → State → Outcome → State → Prop) (mc ms : Nat) (free : Addr → Prop) : Prop :=
  MetFree l y (headSpec ws rm) Pc (fun _ _ _ _ _ => True) (fun a st o t => Qc a st o t ∧ ∃ L, (st.WarmedH t.vm ∧ st.sameButNew ({ t with vm := st.vm } : State) L mc ms) ∧ ∀ q ∈ L, free q.base)
theorem MetX.ofW {l : Launch} {y : MethodName} {ws ws' : List Cond} {rm : Room} {Pc : Array Value → State → Prop} {Qc : Array Value → State → Outcome → State → Prop} {mc ms : Nat} {free : Addr → Prop} {cc : ByteArray} {maxL : Nat} {ret : Option FieldType}
    (hy : plainName y.cls = true) (hw : ws = Cond.code y cc maxL ret :: ws')
    (body : ∀ p e s m args below meth c s₁, BodyLoose p l y (headSpec ws rm) cc maxL ret e s m args below meth c s₁ → c.maxLocals = maxL → Pc args s →
      W p l e (headSpec ws rm).room s m args below meth c s.heap [] 0 0 (MX below Qc args s mc ms free) (entryFrame m args maxL)) : MetX l y ws rm Pc Qc mc ms free := by
  refine MetFree.of_bodyS (code := cc) (maxLocals := maxL) (ret := ret) hy ?_ ?_
  · intro args s m h hn
    obtain ⟨meth, c, h1, h2, h3, h4, h5, h6, -, -⟩ := Cond.code_spec hn (atoms_spec (ws := ws) h _ (by rw [hw]; exact List.mem_cons_self))
    exact ⟨meth, c, h1, h2, h3, h4, h5, h6⟩
  · intro p e s m args below meth c s₁ B hml hP _
    have hh0 : s₁.heap = s.heap := by rw [B.state]; rfl
    obtain ⟨t, a1, o, b1, b2, b3⟩ := body p e s m args below meth c s₁ B hml hP s₁ hh0 (Stand.of_body B)
    exact ⟨t, o, a1, b1, b2, ⟨b3.1, b3.2⟩⟩
/-- the locals at the entry -/
def entL : List Value → List (Option Value)
  | [] => []
  | .long x :: t => some (.long x) :: none :: entL t
  | .double x :: t => some (.double x) :: none :: entL t
  | .int x :: t => some (.int x) :: entL t
  | .float x :: t => some (.float x) :: entL t
  | .null :: t => some .null :: entL t
  | .ref x :: t => some (.ref x) :: entL t
  | .retAddr x :: t => some (.retAddr x) :: entL t
def entryL (vs : List Value) (n : Nat) : List (Option Value) := entL vs ++ List.replicate (n - (entL vs).length) none
theorem entL_one {g : Gm} {v : Value} {t : List Value} (h : v.category ≠ 2) : entL (v :: t) = some v :: entL t := by
  cases v <;> first | rfl | exact absurd rfl h
theorem entL_two {g : Gm} {v : Value} {t : List Value} (h : v.category = 2) : entL (v :: t) = some v :: none :: entL t := by
  cases v <;> first | rfl | cases h
theorem entL_len (g : Gm) : ∀ vs : List Value, (lg_sl (vs.map (tr g))).length = (entL vs).length
  | [] => rfl
  | v :: t => by
    have ih := entL_len g t
    simp only [lg_sl] at ih
    by_cases h : v.category = 2
    · simp only [lg_sl, List.map_cons, List.flatMap_cons, tr_cat, if_pos h, List.length_append, entL_two (g := g) h, List.length_cons, List.length_nil, ih]
      omega
    · simp only [lg_sl, List.map_cons, List.flatMap_cons, tr_cat, if_neg h, List.length_append, entL_one (g := g) h, List.length_cons, List.length_nil, ih]
      omega
theorem entL_mem (g : Gm) : ∀ (vs : List Value) (i0 i : Nat) (v : Value), (entL vs)[i]? = some (some v) → (i0 + i, tr g v) ∈ lv_args i0 (vs.map (tr g))
  | [], _, _, _, h => by simp [entL] at h
  | w :: t, i0, i, v, h => by
    by_cases hc : w.category = 2
    · rw [entL_two (g := g) hc] at h
      simp only [List.map_cons, lv_args, tr_cat, if_pos hc]
      match i, h with
      | 0, h =>
        have hw : w = v := by simpa using h
        subst hw
        exact List.mem_cons_self
      | 1, h => simp at h
      | i + 2, h =>
        have h1 : (entL t)[i]? = some (some v) := by simpa using h
        have h2 := entL_mem g t (i0 + 2) i v h1
        rw [show i0 + 2 + i = i0 + (i + 2) by omega] at h2
        exact List.mem_cons_of_mem _ h2
    · rw [entL_one (g := g) hc] at h
      simp only [List.map_cons, lv_args, tr_cat, if_neg hc]
      match i, h with
      | 0, h =>
        have hw : w = v := by simpa using h
        subst hw
        exact List.mem_cons_self
      | i + 1, h =>
        have h1 : (entL t)[i]? = some (some v) := by simpa using h
        have h2 := entL_mem g t (i0 + 1) i v h1
        rw [show i0 + 1 + i = i0 + (i + 1) by omega] at h2
        exact List.mem_cons_of_mem _ h2
theorem LR.entry {g : Gm} {vs : List Value} {n : Nat} (hn : (entL vs).length ≤ n) : LR g n (entryL vs n) ((lg_sl (vs.map (tr g)) ++ List.replicate (n - (lg_sl (vs.map (tr g))).length) Slot.unset).toArray) := by
  have h := lv_entry (vs.map (tr g)) (n := n) (by rw [entL_len]; exact hn)
  refine ⟨h.1, by simp only [entryL, List.length_append, List.length_replicate]; omega, h.2.1, fun i v hi => ?_⟩
  by_cases hl : i < (entL vs).length
  · rw [entryL, List.getElem?_append_left hl] at hi
    have h1 := h.2.2 _ (entL_mem g vs 0 i v hi)
    rw [Nat.zero_add] at h1
    exact h1
  · rw [entryL, List.getElem?_append_right (by omega), List.getElem?_replicate] at hi
    split at hi <;> cases hi
theorem NW_warm {s U : State} (hW : s.WarmedH U.vm) {w : Cond} (hw : w ∈ NW) (h : va_Nw w s) : va_Nw w U := by
  have h1 := (List.mem_filter.mp hw).2
  cases w <;> first | exact va_Nw.warmM hW h | exact va_Nw.warmD hW h | exact va_Nw.warmC hW h | cases h1
theorem zK.warm {g : Gm} {s U : State} (hW : s.WarmedH U.vm) (h : zK g s) : zK g U :=
  ⟨va_K.moved hW.alike h.1, ⟨va_AO.moved hW.alike h.2.1.1, va_AO.moved hW.alike h.2.1.2.1, va_AO.moved hW.alike h.2.1.2.2⟩, fun w hw => NW_warm hW hw (h.2.2.1 w hw), fun q hq => (h.2.2.2 q hq).moved hW.alike⟩
theorem zU.kept {g : Gm} {s U : State} {H H1 : Heap} (hW : s.vm.Alike U.vm) (h : zU g s H) (hz : H.size ≤ H1.size) (hk : ∀ q : Nat, q < H.size → ¬ zA g q → H1[q]? = H[q]?) : zU g U H1 :=
  ⟨va_Z.moved hW (va_Z.kept h.1 hk), va_T.moved hW (va_T.kept h.2.1 hk), va_X.moved hW (va_X.kept h.2.2.1 (hk _ (Nat.lt_of_lt_of_le h.2.2.2.1 h.2.2.2.2.1) (zA_b h))), h.2.2.2.1, Nat.le_trans h.2.2.2.2.1 hz,
    h.2.2.2.2.2.1.elim fun u q => ⟨u, va_Z.moved hW (va_Z.kept q hk)⟩, h.2.2.2.2.2.2.1.elim fun u q => ⟨u, va_Z.moved hW (va_Z.kept q hk)⟩, (h.2.2.2.2.2.2.2.1.kept hk).moved hW, (h.2.2.2.2.2.2.2.2.kept hk).moved hW⟩
/-- what a callee is given -/
def zPc (g : Gm) (h : Hp) (vs : List Value) : Array Value → State → Prop := va_Pc (vs.map (tr g)) (fun U => zK g U ∧ zU g U U.heap ∧ va_P (g_D g) CL (mws g h) U.heap ∧ (h.2.2.2.2 = true → U.heap.size = g_o g + h.2.2.2.1.length))
theorem zPc.blind {g : Gm} {h : Hp} {vs : List Value} : FrameBlind (zPc g h vs) := fun a U gg mk hh =>
  ⟨hh.1, zK.warm (s := U) (U := U.calling gg mk a) (State.WarmedH.refl U) hh.2.1, zU.kept (s := U) (U := U.calling gg mk a) (Vm.Alike.refl U.vm) hh.2.2.1 (Nat.le_refl _) (fun _ _ _ => rfl), hh.2.2.2.1, hh.2.2.2.2⟩
def mWs (M : MI) : List Cond := Cond.code (mY M) (mB M) (mL M) (mR M) :: TT
theorem z_met {g : Gm} {M : MI} {h : Hp} {Q : Rs → Hp → Prop} {vs : List Value} (hX : mX M = []) (hy : plainName (mY M).cls = true) (hM : okM M) (hlen : (entL vs).length ≤ mL M) (hZ : Z g M 0 0 0 (entryL vs (mL M)) [] h Q) :
    MetX (g_l g) (mY M) (mWs M) (mM M) (zPc g h vs) (QX g Q) (mM M).cells (mM M).slots (zA g) := by
  refine MetX.ofW (cc := mB M) (maxL := mL M) (ret := mR M) hy rfl ?_
  intro p e s m args below meth c s₁ B hml hv
  obtain ⟨rfl, hk, hu, hP, hx⟩ := hv
  have hts := atoms_spec (ws := mWs M) B.pre
  have hcx : Cx g M p s m (vs.map (tr g)).toArray meth c := ⟨B.exec, B.bytes, hml, B.returns, B.notSynchronized, (name_of_methodNamed B.named B.method).1, findClass_of_methodNamed B.named, fun w hw => hts w (List.mem_cons_of_mem _ hw), hk, hu, hM, by
    have h0 : c.exceptionTable.toList = [] := by simpa using B.noHandlers (hts _ List.mem_cons_self)
    rw [h0, hX]; rfl⟩
  rw [lg_entry_eq]
  exact hZ p e s m _ below meth c hcx s.heap [] _ ⟨hP, va_S.rf, LR.entry hlen, fun q => by rw [Nat.add_zero]; exact hx q⟩
/-- a call of a method with such a contract -/
theorem callX {l : Launch} {R : Room} {p : Program} {e : Env} {below : List Frame} {s : State} {sargs : Array Value} {m : MethodId} {meth : Method} {c : Code} {y : MethodName} {ws : List Cond} {rm : Room} {Pc : Array Value → State → Prop} {Qc : Array Value → State → Outcome → State → Prop} {mc ms : Nat} {free : Addr → Prop} {bytes : ByteArray} {maxL : Nat} {ret : Option FieldType}
    (hM : MetX l y ws rm Pc Qc mc ms free) (hblind : FrameBlind Pc) (hrc : rm.cells = mc) (hrs : rm.slots = ms) (hframes : rm.frames + 1 ≤ R.frames) (hlocals : 8 + (maxL + 11) + rm.locals ≤ R.locals)
    (hws : ∀ w ∈ ws, ∀ a' U, s.WarmedH U.vm → w.before a' U = true) (hcode : Cond.code y bytes maxL ret ∈ ws) (hinit : ∀ a' U, s.WarmedH U.vm → (Cond.initialized y.cls).before a' U = true)
    {U : State} {locs : List Loc} {cells slots : Nat} (X : Stand p l e R s m sargs below meth c U locs cells slots) {g : JFrame} {ig : Instr} {len : Nat} (hg : g.method = m) (hsize : g.locals.size = c.maxLocals) (hdg : decode c.code g.pc = .ok (ig, len)) (hW : 2 * g.monitorRoom + (g.stack.map fun v => v.category).sum ≤ 8)
    {mk : MethodId} (hn : U.methodNamed? y = some mk) {a : Array Value} (hcells : cells + mc ≤ R.cells) (hslots : slots + ms ≤ R.slots) (hPc : Pc a U) :
    ∃ (o : Outcome) (t T' : State) (L : List Loc), Stand p l e R s m sargs below meth c T' (locs ++ L) (cells + mc) (slots + ms) ∧ (∀ q ∈ L, free q.base) ∧ T'.heap = t.heap ∧ T'.vm = t.vm ∧ Qc a (U.calling g mk a) o t ∧
      ((∃ v, o = .returned v ∧ Steps p.tables e below (doInvoke e (U.setTop g) [] mk a).1 (T'.setTop { g with pc := g.pc + len, stack := v.toList ++ g.stack })) ∨
        ∃ x, o = .threw x ∧ Steps p.tables e below (doInvoke e (U.setTop g) [] mk a).1 ((T'.setTop g).pushFrame (.throwing x))) := by
  have h1 : (headSpec ws rm).pre.before a U = true := atoms_intro fun w hw => hws w hw a U X.warmed
  obtain ⟨methY, cY, hmY, hcY, -, hlY, -⟩ := Cond.code_spec hn (hws _ hcode a U X.warmed)
  obtain ⟨kY, hkY, -⟩ := className_of_methodNamed hn
  have hinitY : kY.init = .initialized := Cond.initialized_spec (findClass_of_methodNamed hn) hkY (hinit a U X.warmed)
  have h : At U g.method c below := by rw [hg]; exact X.here
  have happ : (headSpec ws rm).appliesLoose y e.platform (U.calling g mk a) = true :=
    Spec.appliesLoose_calling (g := g) h hdg hn hkY hinitY
      (X.room_calling (g := g) (R' := rm) hsize hmY hcY hframes (by rw [hlY]; omega) (by rw [hrc]; exact hcells) (by rw [hrs]; exact hslots)) h1
  obtain ⟨mid, hmid⟩ := h.above
  have hfr : (U.setTop g).frames = (.java g :: mid) ++ below := by rw [State.frames_setTop' g h.top, hmid]; rfl
  obtain ⟨o, s₂, hsteps, -, hend, hq, L, ⟨hW₂, hsame0⟩, hL⟩ := Steps.callFree hM p X.admits X.cas X.clock (acts := []) hfr happ (hblind _ _ _ _ hPc) trivial
  rw [State.frames_setTop' g h.top] at hend
  have hW' : U.WarmedH s₂.vm := hW₂
  cases o with
  | threw x =>
    rw [X.tail] at hend
    obtain ⟨T', X', hWT, hsT, ht⟩ := X.outOfThrown hg hend hW₂ hsame0
    refine ⟨.threw x, s₂, T', L, X', hL, ?_, ?_, hq, Or.inr ⟨x, rfl, ?_⟩⟩
    · rw [ht, Stand.throwing_heap]
    · rw [ht, Stand.throwing_vm]
    · rw [← ht]; exact hsteps
  | returned v =>
    obtain ⟨e2, q2, q3, q4, q5, q6⟩ := id hsame0
    have e3 : s₂ = ({ (U.calling g mk a).setFrames s₂.frames with heap := s₂.heap, slotsUsed := s₂.slotsUsed } : State).setVm s₂.vm := by
      have : s₂ = ({ s₂ with vm := (U.calling g mk a).vm } : State).setVm s₂.vm := rfl
      exact this.trans (congrArg (fun u : State => u.setVm s₂.vm) e2)
    obtain ⟨c₂, i₂, len₂, hc₂, hd₂, hf₂⟩ := hend
    have hcc : c₂ = c := by
      have h1 : s₂.code? g.method = U.code? g.method := by
        rw [State.code?_eq, State.code?_eq, hW'.alike.method?]
      exact Option.some.inj (hc₂.symm.trans (h1.trans h.code))
    subst hcc
    have hlen : len₂ = len := by rw [hdg] at hd₂; cases hd₂; rfl
    subst hlen
    obtain ⟨g₀, hg0⟩ := Option.isSome_iff_exists.mp h.top
    obtain ⟨r, hr⟩ := State.topJava?_eq_some.mp hg0
    have hs₂ : s₂ = (({ U with heap := s₂.heap, slotsUsed := s₂.slotsUsed } : State).setVm s₂.vm).setTop { g with pc := g.pc + len₂, stack := v.toList ++ g.stack } := by
      have hr' : (({ U with heap := s₂.heap, slotsUsed := s₂.slotsUsed } : State).setVm s₂.vm).frames = .java g₀ :: r := hr
      refine e3.trans ?_
      rw [hf₂, State.calling_eq h.top, State.setFrames_setFrames, State.setTop_of_frames _ hr', hr]
      rfl
    have hsame : U.sameButNew ({ U with heap := s₂.heap, slotsUsed := s₂.slotsUsed } : State) L mc ms := by
      refine ⟨?_, q2, q3, q4, q5, q6⟩
      obtain ⟨t, ht, -⟩ := State.frames_cons hr
      show ({ U with heap := s₂.heap, slotsUsed := s₂.slotsUsed } : State) = { U.setFrames U.frames with heap := s₂.heap, slotsUsed := s₂.slotsUsed }
      rw [State.setFrames_self ht]
    subst hg
    refine ⟨.returned v, s₂, (({ U with heap := s₂.heap, slotsUsed := s₂.slotsUsed } : State).setVm s₂.vm), L,
      ⟨X.admits, X.cas, X.clock, X.frames, X.room, X.hears, X.method, X.code, (X.here.setHeapUsed s₂.heap s₂.slotsUsed).setVm hW'.alike, X.tail, State.WarmedH.trans X.warmed hW', X.limits, X.bytes, X.same.trans (hsame.setVm s.vm)⟩,
      hL, rfl, rfl, hq, Or.inl ⟨v, rfl, ?_⟩⟩
    rw [← hs₂]
    exact hsteps
/-- what a method must have to be called -/
def CO (M : MI) : Prop := mX M = [] ∧ plainName (mY M).cls = true ∧ okM M ∧ Cond.code (mY M) (mB M) (mL M) (mR M) ∈ TT ∧ Cond.initialized (mY M).cls ∈ TT ∧ ((mY M).cls ≠ "java/lang/invoke/MethodHandle" ∧ (mY M).cls ≠ "java/lang/invoke/VarHandle")
/-- the room of a call -/
def rmOk (M M' : MI) (c sl : Nat) : Bool := Nat.ble ((mM M').frames + 1) (mM M).frames && (Nat.ble (8 + (mL M' + 11) + (mM M').locals) (mM M).locals && (Nat.ble (c + (mM M').cells) (mM M).cells && Nat.ble (sl + (mM M').slots) (mM M).slots))
theorem TT_at {args a' : Array Value} {s U : State} (hts : ∀ w ∈ TT, w.before args s = true) (hW : s.WarmedH U.vm) : ∀ w ∈ TT, w.before a' U = true := fun w hw => word_at hW (good_of_word (List.mem_filter.mp hw).2) (hts w hw)
theorem mws_size {g : Gm} {h : Hp} {H : Heap} (hP : va_P (g_D g) CL (mws g h) H) (ho : g_o g ≤ H.size) : g_o g + h.2.2.2.1.length ≤ H.size := by
  cases hl : h.2.2.2.1.length with
  | zero => exact ho
  | succ n =>
    have hn : n < h.2.2.2.1.length := by omega
    have h1 := (hP n _ (mws_at (g := g) (List.getElem?_eq_getElem hn))).lt
    simp only at h1
    omega
section ZC
variable {g : Gm} {M : MI} {c sl pc nx tg : Nat} {L : List (Option Value)} {st : List Value} {h : Hp} {Q : Rs → Hp → Prop}
theorem z_callG {M' : MI} {vs : List Value} {R : Rs → Hp → Prop} {ig : Instr} (hO : CO M') (hlen : Nat.ble (entL vs).length (mL M') = true) (hrm : rmOk M M' c sl = true) (hst : Nat.ble (st.map Value.category).sum 8 = true)
    (callee : Z g M' 0 0 0 (entryL vs (mL M')) [] h R) (kx : ∀ r h', R r h' → h'.2.2.2.2 = true → h.2.2.2.2 = true ∧ h'.2.2.2.1.length = h.2.2.2.1.length + (mM M').cells)
    (kr : ∀ v h', R (.inl v) h' → Z g M (c + (mM M').cells) (sl + (mM M').slots) (pc + 3) L (v.toList ++ st) h' Q) (kt : ∀ n h', R (.inr n) h' → mX M = [] ∧ Q (.inr n) h')
    {p : Program} {e : Env} {s : State} {m : MethodId} {args : Array Value} {below : List Frame} {meth : Method} {cd : Code} (hC : Cx g M p s m args meth cd) {locs : List Loc} {ls : Array Slot} {T : State} (hR : Rl g M c h L s T.heap locs ls) (X : Stand p (g_l g) e (mM M) s m args below meth cd T locs c sl)
    {g0 : JFrame} (hdg : decode cd.code pc = .ok (ig, 3))
    (inv : (h.2.2.2.2 = true → T.heap.size = g_o g + h.2.2.2.1.length) → ∃ (vm₁ : Vm) (mk : MethodId), Stand p (g_l g) e (mM M) s m args below meth cd (T.setVm vm₁) locs c sl ∧ s.methodNamed? (mY M') = some mk ∧ ∀ target, (∀ acts, Steps p.tables e below (doInvoke e ((T.setVm vm₁).setTop (F0 m pc ls (st.map (tr g)))) acts mk (vs.map (tr g)).toArray).1 target) → Steps p.tables e below (T.setTop g0) target) :
    ∃ t, Steps p.tables e below (T.setTop g0) t ∧ MX below (QX g Q) args s (mM M).cells (mM M).slots (zA g) t := by
  obtain ⟨hexec, hb, hml, hrt, hlk, hnm, hown, hts, hK, hU, hokM, hnoh⟩ := id hC
  obtain ⟨hP, hS, hL, hx⟩ := hR
  have hbase : g_o g ≤ T.heap.size := Nat.le_trans hU.2.2.2.2.1 hS.1
  have hsz : h.2.2.2.2 = true → T.heap.size = g_o g + h.2.2.2.1.length := fun q => by
    have q1 := hx q
    have q2 := X.heapSize
    have q3 := mws_size hP hbase
    omega
  obtain ⟨vm₁, mk, X₁, hnamed, hstep⟩ := inv hsz
  obtain ⟨hX', hpl, hok', hco, hini, hne⟩ := hO
  simp only [rmOk, Bool.and_eq_true] at hrm
  have hcx := callX (bytes := mB M') (maxL := mL M') (ret := mR M') (z_met hX' hpl hok' (Nat.le_of_ble_eq_true hlen) callee) zPc.blind rfl rfl (Nat.le_of_ble_eq_true hrm.1) (Nat.le_of_ble_eq_true hrm.2.1)
    (fun w hw a' U hW => by
      rcases List.mem_cons.mp hw with rfl | hw
      · exact TT_at hts hW _ hco
      · exact TT_at hts hW w hw)
    List.mem_cons_self (fun a' U hW => TT_at hts hW _ hini) X₁ (g := F0 m pc ls (st.map (tr g))) (ig := ig) (len := 3) rfl (hL.1.trans hml.symm) hdg
    (by
      have q := Nat.le_of_ble_eq_true hst
      have q2 : ((st.map (tr g)).map fun v => v.category) = st.map Value.category := by
        rw [List.map_map]
        exact List.map_congr_left fun v _ => tr_cat g v
      show 2 * 0 + ((st.map (tr g)).map fun v => v.category).sum ≤ 8
      rw [q2]
      omega)
    (X₁.named hnamed) (Nat.le_of_ble_eq_true hrm.2.2.1) (Nat.le_of_ble_eq_true hrm.2.2.2)
    (a := (vs.map (tr g)).toArray) ⟨rfl, zK.warm X₁.warmed hK, zU.kept X₁.warmed.alike hU hS.1 hS.2.1, hP, hsz⟩
  obtain ⟨o, t, T', L', X', hL', eH, eV, ⟨⟨r, h', hRr, hoK, hP'⟩, hF⟩, hout⟩ := hcx
  have hF1 : T.heap.size ≤ T'.heap.size := by rw [eH]; exact hF.1
  have hF2 : ∀ q : Nat, q < T.heap.size → ¬ zA g q → T'.heap[q]? = T.heap[q]? := fun q q1 q2 => by rw [eH]; exact hF.2 q q1 q2
  have hS' : va_S (zA g) s.heap T'.heap (locs ++ L') := ⟨Nat.le_trans hS.1 hF1, fun q q1 q2 => (hF2 q (Nat.lt_of_lt_of_le q1 hS.1) q2).trans (hS.2.1 q q1 q2), fun q hq => by
    rcases List.mem_append.mp hq with q1 | q1
    · exact hS.2.2 q q1
    · exact hL' q q1⟩
  have hx' : h'.2.2.2.2 = true → s.heap.size + (c + (mM M').cells) = g_o g + h'.2.2.2.1.length := fun q => by
    obtain ⟨q0, q1⟩ := kx r h' hRr q
    have q2 := hx q0
    omega
  rcases hout with ⟨v, rfl, hsteps⟩ | ⟨x, rfl, hsteps⟩
  · cases r with
    | inr n => obtain ⟨a, cell, q, -⟩ := hoK; cases q
    | inl v0 =>
      have hv : v = v0.map (tr g) := Outcome.returned.inj hoK
      subst hv
      obtain ⟨tt, hs2, hq2⟩ := kr v0 h' hRr p e s m args below meth cd hC T'.heap (locs ++ L') ls ⟨by rw [eH]; exact hP', hS', hL, hx'⟩ T' rfl X'
      refine ⟨tt, hstep _ (fun acts => by rw [doInvoke_state]; refine hsteps.trans ?_; cases v0 <;> exact hs2), hq2⟩
  · cases r with
    | inl v0 => cases hoK
    | inr n =>
      obtain ⟨a, cell, q, hcell, hst', hcls⟩ := hoK
      cases q
      obtain ⟨hXM, hq⟩ := kt n h' hRr
      have X2 := stand_widen X' (Nat.le_of_ble_eq_true hrm.2.2.1) (Nat.le_of_ble_eq_true hrm.2.2.2)
      have hno : cd.exceptionTable.toList = [] := by rw [hXM] at hnoh; exact List.map_eq_nil_iff.mp hnoh
      obtain ⟨s1, s2, s3, s4, s5⟩ := X2.leaveThrown x (g := F0 m pc ls (st.map (tr g))) rfl rfl rfl (fun y hy => by
        rw [hno] at hy
        cases hy) hlk
      refine ⟨_, hstep _ (fun acts => by rw [doInvoke_state]; exact hsteps.trans s1), .threw x, s2, s3, ⟨⟨.inr n, h', hq, ⟨x, cell, rfl, ?_, hst', ?_⟩, ?_⟩, ?_⟩, locs ++ L', ⟨s4, s5⟩, hS'.2.2⟩
      · show T'.heap[x]? = some cell
        rw [eH]; exact hcell
      · show T'.vm.findClass _ = _
        rw [eV]; exact hcls
      · show va_P _ _ _ T'.heap
        rw [eH]; exact hP'
      · exact hS'.F rfl
theorem z_cv {M' : MI} {ix k ci : Nat} {R : Rs → Hp → Prop} (as : List Value) (hi : fI M pc = some (.invokevirtual ix, 3, nx, tg)) (hl : Cond.methodLink (mY M).cls ix (mY M') ∈ TT) (hO : CO M') (hin : Cond.instanceMethod (mY M') ∈ TT) (hse : Cond.selects (mY M').cls (mY M') (mY M') ∈ TT)
    (hn : (parseMethodDescriptor (mY M').desc).map (fun d => d.parameters.length) = some as.length) (hT : h.2.2.2.1[k]? = some (0, ci)) (hci : ci < 8) (hcc : cC ci = (mY M').cls)
    (hlen : Nat.ble (entL (.ref k :: as)).length (mL M') = true) (hrm : rmOk M M' c sl = true) (hst : Nat.ble (st.map Value.category).sum 8 = true)
    (callee : Z g M' 0 0 0 (entryL (.ref k :: as) (mL M')) [] h R) (kx : ∀ r h', R r h' → h'.2.2.2.2 = true → h.2.2.2.2 = true ∧ h'.2.2.2.1.length = h.2.2.2.1.length + (mM M').cells)
    (kr : ∀ v h', R (.inl v) h' → Z g M (c + (mM M').cells) (sl + (mM M').slots) nx L (v.toList ++ st) h' Q) (kt : ∀ n h', R (.inr n) h' → mX M = [] ∧ Q (.inr n) h') : Z g M c sl pc L (as.reverse ++ .ref k :: st) h Q := by
  intro p e s m args below meth cd hC H locs ls hR T hTH X
  obtain ⟨hd, hnx, -⟩ := fI_ok hC.2.2.2.2.2.2.2.2.2.2.1 hi
  subst hnx
  subst hTH
  obtain ⟨hexec, hb, hml, hrt, hlk, hnm, hown, hts, hK, hU, hokM, hnoh⟩ := id hC
  have hdg : decode cd.code pc = .ok (.invokevirtual ix, 3) := by rw [hb]; exact hd
  refine z_callG hO hlen hrm hst callee kx kr kt hC hR X hdg (fun _ => ?_)
  obtain ⟨cellB, hcB, hoB, hclB⟩ := va_recv hK.1 hR.1 (kc ci hci) (mws_at hT)
  obtain ⟨mk, methM, hnamed, hmethM, hstM, habM⟩ := Cond.instanceMethod_spec (hts _ hin)
  obtain ⟨methM', cM, hmethM', -, -, -, -, -, -, hsigM⟩ := Cond.code_spec hnamed (hts _ hO.2.2.2.1)
  cases hmethM.symm.trans hmethM'
  obtain ⟨c2, r2, m2, q1, q2, q3, q4, kP, hkP, hkPi⟩ := Cond.selects_spec (hts _ hse)
  have hclB' : s.vm.findClass (mY M').cls = some cellB.cls := by rw [← hcc]; exact hclB
  cases hclB'.symm.trans q1
  cases (State.methodFound?_of_named hnamed hO.2.2.2.2.2).symm.trans q2
  cases hnamed.symm.trans q3
  have hselP : selectMethod e.platform s.vm cellB.cls mk = .method mk := by rw [Launch.admits_selectMethod X.admits]; exact q4
  obtain ⟨vm₁, X₁, hstep₁⟩ := X.invokevirtual hexec hown (hts _ hl) hnamed hmethM hstM hkP hkPi hO.2.2.2.2.2 (a := g_o g + k) (cell := cellB) hcB
    (fun z h => by rw [h] at hoB; cases hoB) hselP hmethM habM hkP hkPi (g := F0 m pc ls ((as.reverse ++ .ref k :: st).map (tr g))) rfl (argsL := as.map (tr g)) (rest := st.map (tr g))
    (by rw [hsigM] at hn; rw [List.length_map]; exact (Option.some.inj hn).symm) (by simp [tr]) hdg
  exact ⟨vm₁, mk, X₁, hnamed, hstep₁⟩
theorem z_cs {M' : MI} {ix : Nat} {R : Rs → Hp → Prop} (as : List Value) (hi : fI M pc = some (.invokestatic ix, 3, nx, tg)) (hl : Cond.methodLink (mY M).cls ix (mY M') ∈ TT) (hO : CO M') (hsta : Cond.static (mY M') ∈ TT)
    (hn : (parseMethodDescriptor (mY M').desc).map (fun d => d.parameters.length) = some as.length)
    (hlen : Nat.ble (entL as).length (mL M') = true) (hrm : rmOk M M' c sl = true) (hst : Nat.ble (st.map Value.category).sum 8 = true)
    (callee : Z g M' 0 0 0 (entryL as (mL M')) [] h R) (kx : ∀ r h', R r h' → h'.2.2.2.2 = true → h.2.2.2.2 = true ∧ h'.2.2.2.1.length = h.2.2.2.1.length + (mM M').cells)
    (kr : ∀ v h', R (.inl v) h' → Z g M (c + (mM M').cells) (sl + (mM M').slots) nx L (v.toList ++ st) h' Q) (kt : ∀ n h', R (.inr n) h' → mX M = [] ∧ Q (.inr n) h') : Z g M c sl pc L (as.reverse ++ st) h Q := by
  intro p e s m args below meth cd hC H locs ls hR T hTH X
  obtain ⟨hd, hnx, -⟩ := fI_ok hC.2.2.2.2.2.2.2.2.2.2.1 hi
  subst hnx
  subst hTH
  obtain ⟨hexec, hb, hml, hrt, hlk, hnm, hown, hts, hK, hU, hokM, hnoh⟩ := id hC
  have hdg : decode cd.code pc = .ok (.invokestatic ix, 3) := by rw [hb]; exact hd
  refine z_callG hO hlen hrm hst callee kx kr kt hC hR X hdg (fun _ => ?_)
  obtain ⟨mk, hnamed⟩ := Cond.code_named (hts _ hO.2.2.2.1)
  obtain ⟨methM, cM, hmethM, -, -, -, -, -, -, hsigM⟩ := Cond.code_spec hnamed (hts _ hO.2.2.2.1)
  have hstatic : methM.isStatic = true := Cond.static_spec hnamed hmethM (hts _ hsta)
  obtain ⟨kP, hkP, -⟩ := className_of_methodNamed hnamed
  have hinitP : kP.init = .initialized := Cond.initialized_spec (findClass_of_methodNamed hnamed) hkP (hts _ hO.2.2.2.2.1)
  obtain ⟨vm₁, X₁, hstep₁⟩ := X.invokestatic hexec hown (hts _ hl) hnamed hmethM hstatic hkP hinitP hO.2.2.2.2.2 (g := F0 m pc ls ((as.reverse ++ st).map (tr g))) rfl (argsL := as.map (tr g)) (rest := st.map (tr g))
    (by rw [hsigM] at hn; rw [List.length_map]; exact (Option.some.inj hn).symm) (by simp) hdg
  exact ⟨vm₁, mk, X₁, hnamed, hstep₁⟩
theorem z_ci {M' : MI} {ix k : Nat} {R : Rs → Hp → Prop} (as : List Value) (hi : fI M pc = some (.invokespecial ix, 3, nx, tg)) (hl : Cond.methodLink (mY M).cls ix (mY M') ∈ TT) (hO : CO M') (hin : Cond.instanceMethod (mY M') ∈ TT) (hy1 : (mY M').name = "<init>") (hret : mR M' = none)
    (hn : (parseMethodDescriptor (mY M').desc).map (fun d => d.parameters.length) = some as.length)
    (hlen : Nat.ble (entL (.ref k :: as)).length (mL M') = true) (hrm : rmOk M M' c sl = true) (hst : Nat.ble (st.map Value.category).sum 8 = true)
    (callee : Z g M' 0 0 0 (entryL (.ref k :: as) (mL M')) [] h R) (kx : ∀ r h', R r h' → h'.2.2.2.2 = true → h.2.2.2.2 = true ∧ h'.2.2.2.1.length = h.2.2.2.1.length + (mM M').cells)
    (kr : ∀ v h', R (.inl v) h' → Z g M (c + (mM M').cells) (sl + (mM M').slots) nx L (v.toList ++ st) h' Q) (kt : ∀ n h', R (.inr n) h' → mX M = [] ∧ Q (.inr n) h') : Z g M c sl pc L (as.reverse ++ .ref k :: st) h Q := by
  intro p e s m args below meth cd hC H locs ls hR T hTH X
  obtain ⟨hd, hnx, -⟩ := fI_ok hC.2.2.2.2.2.2.2.2.2.2.1 hi
  subst hnx
  subst hTH
  obtain ⟨hexec, hb, hml, hrt, hlk, hnm, hown, hts, hK, hU, hokM, hnoh⟩ := id hC
  have hdg : decode cd.code pc = .ok (.invokespecial ix, 3) := by rw [hb]; exact hd
  refine z_callG hO hlen hrm hst callee kx kr kt hC hR X hdg (fun _ => ?_)
  have hpl : e.platform.magicAccessors = ({} : Platform).magicAccessors := by rw [X.admits.platform]
  have hco := hts _ hO.2.2.2.1
  rw [hret] at hco
  obtain ⟨mk, methM, cM, kP, vm₁, hnamed, hmethM, hcodeM, -, hlocalsM, -, hkP, -, hW₁, hstep₁⟩ := Steps.initColdArgs (e := e) X.here hexec X.warmed hpl hown hy1 hO.2.2.2.2.2 (hts _ hl) (hts _ hin) hco (f := F0 m pc ls ((as.reverse ++ .ref k :: st).map (tr g))) (a := g_o g + k) (argsL := as.map (tr g)) (rest := st.map (tr g)) rfl
    (fun sig hs => by rw [hs] at hn; rw [List.length_map]; exact (Option.some.inj hn).symm) (by simp [tr]) hdg
  exact ⟨vm₁, mk, X.noted hW₁, hnamed, hstep₁⟩
theorem z_cin {M' : MI} {ix k : Nat} {R : Rs → Hp → Prop} (as : List Value) (hi : fI M pc = some (.invokespecial ix, 3, nx, tg)) {host : String} (hl : ∀ U, zK g U → va_Nw (.methodLinkNest (mY M).cls ix (mY M') host) U) (hO : CO M') (hin : Cond.instanceMethod (mY M') ∈ TT) (hy1 : (mY M').name = "<init>") (hret : mR M' = none)
    (hn : (parseMethodDescriptor (mY M').desc).map (fun d => d.parameters.length) = some as.length)
    (hlen : Nat.ble (entL (.ref k :: as)).length (mL M') = true) (hrm : rmOk M M' c sl = true) (hst : Nat.ble (st.map Value.category).sum 8 = true)
    (callee : Z g M' 0 0 0 (entryL (.ref k :: as) (mL M')) [] h R) (kx : ∀ r h', R r h' → h'.2.2.2.2 = true → h.2.2.2.2 = true ∧ h'.2.2.2.1.length = h.2.2.2.1.length + (mM M').cells)
    (kr : ∀ v h', R (.inl v) h' → Z g M (c + (mM M').cells) (sl + (mM M').slots) nx L (v.toList ++ st) h' Q) (kt : ∀ n h', R (.inr n) h' → mX M = [] ∧ Q (.inr n) h') : Z g M c sl pc L (as.reverse ++ .ref k :: st) h Q := by
  intro p e s m args below meth cd hC H locs ls hR T hTH X
  obtain ⟨hd, hnx, -⟩ := fI_ok hC.2.2.2.2.2.2.2.2.2.2.1 hi
  subst hnx
  subst hTH
  obtain ⟨hexec, hb, hml, hrt, hlk, hnm, hown, hts, hK, hU, hokM, hnoh⟩ := id hC
  have hdg : decode cd.code pc = .ok (.invokespecial ix, 3) := by rw [hb]; exact hd
  refine z_callG hO hlen hrm hst callee kx kr kt hC hR X hdg (fun _ => ?_)
  have hpl : e.platform.magicAccessors = ({} : Platform).magicAccessors := by rw [X.admits.platform]
  have hco := hts _ hO.2.2.2.1
  rw [hret] at hco
  obtain ⟨mk, methM, cM, kP, vm₁, hnamed, hmethM, hcodeM, -, hlocalsM, -, hkP, -, hW₁, hstep₁⟩ := Steps.initColdArgsNest (e := e) X.here hexec X.warmed hpl hown hy1 hO.2.2.2.2.2 (va_Nw.use rfl (hl s hK)) (hts _ hin) hco (f := F0 m pc ls ((as.reverse ++ .ref k :: st).map (tr g))) (a := g_o g + k) (argsL := as.map (tr g)) (rest := st.map (tr g)) rfl
    (fun sig hs => by rw [hs] at hn; rw [List.length_map]; exact (Option.some.inj hn).symm) (by simp [tr]) hdg
  exact ⟨vm₁, mk, X.noted hW₁, hnamed, hstep₁⟩
end ZC
