/-! The layer Z over W: a frame of the machine over ONE picture of all cells that the law has made since its start: cell k lies at address o + k; ints in S, longs in J, references in P, the cells' kinds in T (0: object of class ci; 1: ints; 2: booleans; 3: longs; 4, 5, 6: references to Action, Edit, Item), x: nothing else has been made since the start. A rule an instruction. -/
abbrev Mem : Type := Nat → Nat → Int32
abbrev Gp : Type := (Nat → Nat → Int64) × (Nat → Nat → Option Nat) × List (Nat × Nat) × Bool
abbrev Hp : Type := Mem × Gp
abbrev Rs : Type := Option Value ⊕ Nat
abbrev Gm : Type := Launch × va_G × (Nat → ClassId) × Nat × Nat × Nat × Nat × (Nat → Int32)
abbrev g_l (g : Gm) : Launch := g.1
abbrev g_D (g : Gm) : va_G := g.2.1
abbrev g_A (g : Gm) : Nat → ClassId := g.2.2.1
abbrev g_o (g : Gm) : Nat := g.2.2.2.1
abbrev g_t (g : Gm) : Nat := g.2.2.2.2.1
abbrev g_b (g : Gm) : Nat := g.2.2.2.2.2.1
abbrev g_n (g : Gm) : Nat := g.2.2.2.2.2.2.1
abbrev g_x (g : Gm) : Nat → Int32 := g.2.2.2.2.2.2.2
/-- the methods: name, bytes, locals, answer, room, handlers, rows (place, instruction, length, next place, branch's target) -/
abbrev Row : Type := Nat × Instr × Nat × Nat × Nat
abbrev MI : Type := MethodName × ByteArray × Nat × Option FieldType × Room × List (Nat × Nat × Nat × Nat) × List Row
abbrev mY (M : MI) : MethodName := M.1
abbrev mB (M : MI) : ByteArray := M.2.1
abbrev mL (M : MI) : Nat := M.2.2.1
abbrev mR (M : MI) : Option FieldType := M.2.2.2.1
abbrev mM (M : MI) : Room := M.2.2.2.2.1
abbrev mX (M : MI) : List (Nat × Nat × Nat × Nat) := M.2.2.2.2.2.1
abbrev mT (M : MI) : List Row := M.2.2.2.2.2.2
def fI (M : MI) (pc : Nat) : Option (Instr × Nat × Nat × Nat) := (mT M).lookup pc
def brOff : Instr → Option Int
  | .goto o => some o
  | .ifCond _ o => some o
  | .if_icmp _ o => some o
  | _ => none
def okRow (b : ByteArray) (r : Row) : Bool := decide (decode b r.1 = .ok (r.2.1, r.2.2.1)) && (decide (r.2.2.2.1 = r.1 + r.2.2.1) && (match brOff r.2.1 with
  | some o => decide ((r.1 : Int) + o = (r.2.2.2.2 : Int))
  | none => true))
def okM (M : MI) : Prop := (mT M).all (okRow (mB M)) = true
theorem lookup_mem {l : List Row} {k : Nat} {v : Instr × Nat × Nat × Nat} (h : l.lookup k = some v) : (k, v) ∈ l := by
  induction l with
  | nil => simp at h
  | cons a t ih =>
    obtain ⟨a1, a2⟩ := a
    rw [List.lookup_cons] at h
    by_cases hk : k = a1
    · subst hk
      simp at h
      subst h
      exact List.mem_cons_self
    · have hb : (k == a1) = false := by simpa using hk
      rw [hb] at h
      exact List.mem_cons_of_mem _ (ih h)
theorem fI_ok {M : MI} {pc : Nat} {i : Instr} {n nx tg : Nat} (hM : okM M) (h : fI M pc = some (i, n, nx, tg)) : decode (mB M) pc = .ok (i, n) ∧ nx = pc + n ∧ ∀ o, brOff i = some o → (pc : Int) + o = (tg : Int) := by
  have h1 := List.all_eq_true.mp hM _ (lookup_mem h)
  simp only [okRow, Bool.and_eq_true, decide_eq_true_eq] at h1
  refine ⟨h1.1, h1.2.1, fun o ho => ?_⟩
  have h2 := h1.2.2
  rw [ho] at h2
  simpa using h2
def tr (g : Gm) : Value → Value
  | .ref k => .ref (g_o g + k)
  | .retAddr 0 => .ref (g_t g)
  | .retAddr _ => .ref (g_b g)
  | v => v
theorem tr_cat (g : Gm) (v : Value) : (tr g v).category = v.category := by
  cases v with
  | retAddr n => cases n <;> rfl
  | _ => rfl
def tysOf (g : Gm) : List (ClassId × FieldType) := [(g_A g 0, .int), (g_A g 1, .boolean), (g_A g 2, .long), (g_A g 3, .object R_Action), (g_A g 4, .object R_Edit), (g_A g 5, .object R_Item)]
/-- the fields of an object: ints out of S, references out of P -/
def mfs (o : Nat) (S : Nat → Int32) (P : Nat → Option Nat) : Nat → List Bool → List Value
  | _, [] => []
  | i, false :: t => .int (S i) :: mfs o S P (i + 1) t
  | i, true :: t => va_rf ((P i).map (o + ·)) :: mfs o S P (i + 1) t
def mce (g : Gm) (h : Hp) (k : Nat) (ct : Nat × Nat) : va_E := match ct.1 with
  | 0 => .inr (ct.2, mfs (g_o g) (h.1 k) (h.2.2.1 k) 0 (fk ct.2))
  | 1 => .inl (g_A g 0, ct.2, .inl (h.1 k))
  | 2 => .inl (g_A g 1, ct.2, .inl (h.1 k))
  | 3 => .inl (g_A g 2, ct.2, .inr (.inl (h.2.1 k)))
  | j + 4 => .inl (g_A g (j + 3), ct.2, .inr (.inr (.inr (.inr (fun i => (h.2.2.1 k i).map (g_o g + ·))))))
def mws (g : Gm) (h : Hp) : va_W := h.2.2.2.1.mapIdx fun k ct => (g_o g + k, mce g h k ct)
def zA (g : Gm) : Nat → Prop := fun q => g_o g ≤ q
/-- an exception that is none of another class -/
def zN (X Y : String) (U : State) : Prop := ∃ c t, U.vm.findClass X = some c ∧ U.vm.findClass Y = some t ∧ U.vm.assignable c t = false
def NC : List (String × String) := [("java/lang/IllegalStateException", "java/lang/IllegalArgumentException"), ("java/lang/IllegalStateException", "java/lang/IndexOutOfBoundsException"), ("java/lang/IllegalArgumentException", "java/lang/IndexOutOfBoundsException")]
theorem zN.moved {X Y : String} {u U : State} (hvm : u.vm.Alike U.vm) (h : zN X Y u) : zN X Y U := by
  obtain ⟨c, t, h1, h2, h3⟩ := h
  exact ⟨c, t, (hvm.findClass _ _).trans h1, (hvm.findClass _ _).trans h2, by rw [hvm.assignable]; exact h3⟩
def zK (g : Gm) (U : State) : Prop := va_K (g_D g) CL (tysOf g) U ∧ (va_AO R_Action U ∧ va_AO R_Edit U ∧ va_AO R_Item U) ∧ (∀ w ∈ NW, va_Nw w U) ∧ ∀ q ∈ NC, zN q.1 q.2 U
/-- a static of Throwable lies where it lay at the start -/
def zL (n d : String) (A : Nat → Prop) (U : State) (H : Heap) : Prop := ∃ (c : ClassId) (k : Class) (i : Nat) (f : Field) (a : Nat) (cell : Cell), U.vm.findClass "java/lang/Throwable" = some c ∧ U.fieldFound? "java/lang/Throwable" n d = some (c, k, i, f) ∧ f.isStatic = true ∧ k.statics = some a ∧ H[a]? = some cell ∧ cell.vm.isStatics = true ∧ cell.cls = c ∧ f.slot < cell.slots.size ∧ k.staticTypes[f.slot]? = some f.type ∧ ¬ A a
theorem zL.moved {n d : String} {A : Nat → Prop} {u U : State} {H : Heap} (hvm : u.vm.Alike U.vm) (h : zL n d A u H) : zL n d A U H := by
  obtain ⟨c, k, i, f, a, cell, h0, h1, h2, h3, h4, h5, h6, h7, h8, h9⟩ := h
  obtain ⟨k', hi', he⟩ := State.fieldFound?_setVm hvm h1
  exact ⟨c, k', i, f, a, cell, (hvm.findClass _ _).trans h0, hi', h2, by rw [he]; exact h3, h4, h5, h6, h7, by rw [he]; exact h8, h9⟩
theorem zL.kept {n d : String} {A : Nat → Prop} {U : State} {H H1 : Heap} (h : zL n d A U H) (hq : ∀ a : Nat, a < H.size → ¬ A a → H1[a]? = H[a]?) : zL n d A U H1 := by
  obtain ⟨c, k, i, f, a, cell, h0, h1, h2, h3, h4, h5, h6, h7, h8, h9⟩ := h
  exact ⟨c, k, i, f, a, cell, h0, h1, h2, h3, by rw [hq a (Array.getElem?_eq_some_iff.mp h4).1 h9]; exact h4, h5, h6, h7, h8, h9⟩
theorem zL.use {n d : String} {A : Nat → Prop} {U : State} {args : Array Value} (h : zL n d A U U.heap) : (Cond.laysStatic "java/lang/Throwable" n d).before args U = true := by
  obtain ⟨c, k, i, f, a, cell, h0, h1, h2, h3, h4, h5, h6, h7, h8, h9⟩ := h
  simp [Cond.before, Cond.holds, Cond.value, h0, h1, h2, h3, h4, h5, h6, h7, h8]
def zU (g : Gm) (U : State) (H : Heap) : Prop := va_Z R_Action "SORTS" "[I" (.ref (g_t g)) (zA g) U H ∧ va_T .int (g_t g) 40 (fun j => .int (sortsF j)) (zA g) U H ∧ va_X (g_b g) (g_n g) (g_x g) U H ∧ g_b g < g_o g ∧ g_o g ≤ H.size ∧ (∃ u : RefV, va_Z "java/lang/Throwable" "UNASSIGNED_STACK" "[Ljava/lang/StackTraceElement;" u.v (zA g) U H) ∧ (∃ u : RefV, va_Z "java/lang/Throwable" "SUPPRESSED_SENTINEL" "Ljava/util/List;" u.v (zA g) U H) ∧ zL "UNASSIGNED_STACK" "[Ljava/lang/StackTraceElement;" (zA g) U H ∧ zL "SUPPRESSED_SENTINEL" "Ljava/util/List;" (zA g) U H
theorem mws_at {g : Gm} {h : Hp} {k : Nat} {ct : Nat × Nat} (hk : h.2.2.2.1[k]? = some ct) : (mws g h)[k]? = some (g_o g + k, mce g h k ct) := by
  simp only [mws, List.getElem?_mapIdx, hk, Option.map_some]
theorem mws_of {g : Gm} {h : Hp} {k : Nat} {q : Nat × va_E} (hq : (mws g h)[k]? = some q) : ∃ ct, h.2.2.2.1[k]? = some ct ∧ q = (g_o g + k, mce g h k ct) := by
  simp only [mws, List.getElem?_mapIdx, Option.map_eq_some_iff] at hq
  obtain ⟨ct, h1, h2⟩ := hq
  exact ⟨ct, h1, h2.symm⟩
theorem mws_len (g : Gm) (h : Hp) : (mws g h).length = h.2.2.2.1.length := by simp [mws]
theorem mD {g : Gm} {h : Hp} : va_D (zA g) (mws g h) := by
  refine ⟨fun i j p q hp hq e => ?_, fun k q hq => ?_⟩
  · obtain ⟨_, _, rfl⟩ := mws_of hp
    obtain ⟨_, _, rfl⟩ := mws_of hq
    exact Nat.add_left_cancel e
  · obtain ⟨_, _, rfl⟩ := mws_of hq
    exact Nat.le_add_right _ _
theorem mce_cg {g : Gm} {h h' : Hp} {j : Nat} (h1 : h'.1 j = h.1 j) (h2 : h'.2.1 j = h.2.1 j) (h3 : h'.2.2.1 j = h.2.2.1 j) (ct : Nat × Nat) : mce g h' j ct = mce g h j ct := by
  simp only [mce, h1, h2, h3]
theorem mws_set {g : Gm} {h h' : Hp} {k : Nat} {ct : Nat × Nat} {e : va_E} (hT : h'.2.2.2.1 = h.2.2.2.1) (hk : h.2.2.2.1[k]? = some ct) (he : mce g h' k ct = e) (ho : ∀ (j : Nat) (ct' : Nat × Nat), j ≠ k → mce g h' j ct' = mce g h j ct') : (mws g h).set k (g_o g + k, e) = mws g h' := by
  apply List.ext_getElem?
  intro i
  by_cases hik : i = k
  · subst hik
    rw [List.getElem?_set_self (by rw [mws_len]; exact (List.getElem?_eq_some_iff.mp hk).1), mws_at (h := h') (by rw [hT]; exact hk), he]
  · rw [List.getElem?_set_ne (fun e => hik e.symm)]
    cases hc : h.2.2.2.1[i]? with
    | none =>
      rw [List.getElem?_eq_none (by rw [mws_len]; simpa using hc), List.getElem?_eq_none (by rw [mws_len, hT]; simpa using hc)]
    | some ct' => rw [mws_at hc, mws_at (h := h') (by rw [hT]; exact hc), ho i ct' hik]
def up2 {α : Type} (S : Nat → Nat → α) (k i : Nat) (v : α) : Nat → Nat → α := fun a b => if a = k ∧ b = i then v else S a b
theorem up2_row {α : Type} (S : Nat → Nat → α) (k i : Nat) (v : α) : up2 S k i v k = fun b => if b = i then v else S k b := by
  funext b
  simp [up2]
theorem up2_ne {α : Type} (S : Nat → Nat → α) (k i : Nat) (v : α) (j : Nat) (h : j ≠ k) : up2 S k i v j = S j := by
  funext b
  simp [up2, h]
def cpy2 (S : Mem) (c0 c1 sp dp n : Nat) : Mem := fun a b => if a = c1 then va_cpy (S c0) (S c1) sp dp n b else S a b
theorem cpy2_row (S : Mem) (c0 c1 sp dp n : Nat) : cpy2 S c0 c1 sp dp n c1 = va_cpy (S c0) (S c1) sp dp n := by
  funext b
  simp [cpy2]
theorem cpy2_ne (S : Mem) (c0 c1 sp dp n : Nat) (j : Nat) (h : j ≠ c1) : cpy2 S c0 c1 sp dp n j = S j := by
  funext b
  simp [cpy2, h]
theorem mfs_at (o : Nat) (S : Nat → Int32) (P : Nat → Option Nat) : ∀ (L : List Bool) (i0 i : Nat) (b : Bool), L[i]? = some b → (mfs o S P i0 L)[i]? = some (match b with
  | false => .int (S (i0 + i))
  | true => va_rf ((P (i0 + i)).map (o + ·)))
  | [], _, _, _, h => by simp at h
  | a :: t, i0, 0, b, h => by
    have hb : a = b := by simpa using h
    subst hb
    cases a <;> rfl
  | a :: t, i0, i + 1, b, h => by
    have h1 : t[i]? = some b := by simpa using h
    have h2 := mfs_at o S P t (i0 + 1) i b h1
    rw [show i0 + 1 + i = i0 + (i + 1) by omega] at h2
    cases a <;> exact h2
theorem mfs_len (o : Nat) (S : Nat → Int32) (P : Nat → Option Nat) : ∀ (L : List Bool) (i0 : Nat), (mfs o S P i0 L).length = L.length
  | [], _ => rfl
  | a :: t, i0 => by cases a <;> simp [mfs, mfs_len o S P t (i0 + 1)]
theorem mfs_cg (o : Nat) {S S' : Nat → Int32} {P P' : Nat → Option Nat} : ∀ (L : List Bool) (i0 : Nat), (∀ i, i0 ≤ i → S' i = S i ∧ P' i = P i) → mfs o S' P' i0 L = mfs o S P i0 L
  | [], _, _ => rfl
  | a :: t, i0, h => by
    have h1 := mfs_cg o t (i0 + 1) (fun i hi => h i (by omega))
    have h2 := h i0 (Nat.le_refl _)
    cases a <;> simp only [mfs, h1, h2.1, h2.2]
theorem mfs_set (o : Nat) {S S' : Nat → Int32} {P P' : Nat → Option Nat} {v : Value} : ∀ (L : List Bool) (i0 i : Nat) (b : Bool), L[i]? = some b → (∀ j, j ≠ i0 + i → S' j = S j ∧ P' j = P j) → (v = match b with
  | false => .int (S' (i0 + i))
  | true => va_rf ((P' (i0 + i)).map (o + ·))) → (mfs o S P i0 L).set i v = mfs o S' P' i0 L
  | [], _, _, _, h, _, _ => by simp at h
  | a :: t, i0, 0, b, h, hj, hv => by
    have hb : a = b := by simpa using h
    subst hb
    have h1 := mfs_cg o (S := S) (S' := S') (P := P) (P' := P') t (i0 + 1) (fun i hi => hj i (by omega))
    cases a <;> (simp only [Nat.add_zero] at hv; simp only [mfs, List.set_cons_zero, h1, hv])
  | a :: t, i0, i + 1, b, h, hj, hv => by
    have h1 : t[i]? = some b := by simpa using h
    have e1 : i0 + 1 + i = i0 + (i + 1) := by omega
    have h2 := mfs_set o (S := S) (S' := S') (P := P) (P' := P') (v := v) t (i0 + 1) i b h1 (by rw [e1]; exact hj) (by rw [e1]; exact hv)
    have h3 := hj i0 (by omega)
    cases a <;> simp only [mfs, List.set_cons_succ, h2, h3.1, h3.2]
/-- locals: what is known of them -/
def LR (g : Gm) (n : Nat) (L : List (Option Value)) (ls : Array Slot) : Prop := ls.size = n ∧ L.length = n ∧ lv_wf ls ∧ ∀ (i : Nat) (v : Value), L[i]? = some (some v) → ls[i]? = some (.val (tr g v))
def lvs (g : Gm) : Nat → List (Option Value) → List (Nat × Value)
  | _, [] => []
  | i, none :: t => lvs g (i + 1) t
  | i, some v :: t => (i, tr g v) :: lvs g (i + 1) t
theorem lvs_mem (g : Gm) : ∀ (L : List (Option Value)) (i0 : Nat) (q : Nat × Value), q ∈ lvs g i0 L ↔ ∃ (j : Nat) (v : Value), L[j]? = some (some v) ∧ q = (i0 + j, tr g v)
  | [], i0, q => by simp [lvs]
  | none :: t, i0, q => by
    rw [lvs, lvs_mem g t (i0 + 1) q]
    constructor
    · rintro ⟨j, v, h1, h2⟩
      exact ⟨j + 1, v, by simpa using h1, by rw [h2]; congr 1; omega⟩
    · rintro ⟨j, v, h1, h2⟩
      cases j with
      | zero => simp at h1
      | succ j => exact ⟨j, v, by simpa using h1, by rw [h2]; congr 1; omega⟩
  | some w :: t, i0, q => by
    rw [lvs, List.mem_cons, lvs_mem g t (i0 + 1) q]
    constructor
    · rintro (h | ⟨j, v, h1, h2⟩)
      · exact ⟨0, w, rfl, h⟩
      · exact ⟨j + 1, v, by simpa using h1, by rw [h2]; congr 1; omega⟩
    · rintro ⟨j, v, h1, h2⟩
      cases j with
      | zero =>
        have hw : w = v := by simpa using h1
        subst hw
        exact Or.inl h2
      | succ j => exact Or.inr ⟨j, v, by simpa using h1, by rw [h2]; congr 1; omega⟩
theorem LR.has {g : Gm} {n : Nat} {L : List (Option Value)} {ls : Array Slot} (h : LR g n L ls) : lv_has ls n (lvs g 0 L) := by
  refine ⟨h.1, h.2.2.1, fun q hq => ?_⟩
  obtain ⟨j, v, h1, rfl⟩ := (lvs_mem g L 0 q).mp hq
  rw [Nat.zero_add]
  exact h.2.2.2 j v h1
/-- a store: what lay over the place is no longer known -/
def clr (L : List (Option Value)) : Nat → List (Option Value)
  | 0 => L
  | j + 1 => match L[j]? with
    | some (some (.long _)) => L.set j none
    | some (some (.double _)) => L.set j none
    | _ => L
def stl (L : List (Option Value)) (i : Nat) (v : Value) : List (Option Value) := (clr L i).set i (some v)
def stl2 (L : List (Option Value)) (i : Nat) (v : Value) : List (Option Value) := ((clr L i).set i (some v)).set (i + 1) none
theorem clr_len (L : List (Option Value)) (i : Nat) : (clr L i).length = L.length := by
  cases i with
  | zero => rfl
  | succ j => simp only [clr]; split <;> simp
theorem clr_at {L : List (Option Value)} {i j : Nat} {v : Value} (h : (clr L i)[j]? = some (some v)) : L[j]? = some (some v) ∧ ¬ (j + 1 = i ∧ v.category = 2) := by
  cases i with
  | zero => exact ⟨h, fun q => by omega⟩
  | succ i =>
    simp only [clr] at h
    split at h
    · rename_i x hx
      by_cases hj : j = i
      · subst hj
        have hlt := (List.getElem?_eq_some_iff.mp hx).1
        rw [List.getElem?_set_self hlt] at h
        cases h
      · rw [List.getElem?_set_ne (fun q => hj q.symm)] at h
        exact ⟨h, fun q => hj (by omega)⟩
    · rename_i x hx
      by_cases hj : j = i
      · subst hj
        have hlt := (List.getElem?_eq_some_iff.mp hx).1
        rw [List.getElem?_set_self hlt] at h
        cases h
      · rw [List.getElem?_set_ne (fun q => hj q.symm)] at h
        exact ⟨h, fun q => hj (by omega)⟩
    · rename_i h1 h2
      refine ⟨h, fun q => ?_⟩
      have hj : j = i := by omega
      subst hj
      cases v with
      | long x => exact h1 x h
      | double x => exact h2 x h
      | _ => cases q.2
theorem LR.store {g : Gm} {n i : Nat} {L : List (Option Value)} {ls' : Array Slot} {v : Value} (hL : L.length = n) (h : lv_has ls' n ((i, tr g v) :: (lvs g 0 L).filter (fun q => !(q.1 == i) && !(q.1 + 1 == i && q.2.category == 2)))) : LR g n (stl L i v) ls' := by
  refine ⟨h.1, by rw [stl, List.length_set, clr_len, hL], h.2.1, fun j w hj => ?_⟩
  by_cases hij : j = i
  · subst hij
    rw [stl] at hj
    have hlt : j < (clr L j).length := by
      have h1 := (List.getElem?_eq_some_iff.mp hj).1
      simpa using h1
    rw [List.getElem?_set_self hlt] at hj
    cases hj
    exact h.2.2 (j, tr g v) List.mem_cons_self
  · rw [stl, List.getElem?_set_ne (fun q => hij q.symm)] at hj
    obtain ⟨h1, h2⟩ := clr_at hj
    refine h.2.2 (j, tr g w) (List.mem_cons_of_mem _ (List.mem_filter.mpr ⟨(lvs_mem g L 0 _).mpr ⟨j, w, h1, by rw [Nat.zero_add]⟩, ?_⟩))
    simp only [Bool.and_eq_true, Bool.not_eq_true', beq_eq_false_iff_ne, Bool.and_eq_false_iff, tr_cat]
    exact ⟨hij, by
      by_cases h3 : j + 1 = i
      · exact Or.inr fun q => h2 ⟨h3, q⟩
      · exact Or.inl h3⟩
theorem LR.store2 {g : Gm} {n i : Nat} {L : List (Option Value)} {ls' : Array Slot} {v : Value} (hL : L.length = n) (h : lv_has ls' n ((i, tr g v) :: (lvs g 0 L).filter (fun q => !(q.1 == i) && (!(q.1 == i + 1) && !(q.1 + 1 == i && q.2.category == 2))))) : LR g n (stl2 L i v) ls' := by
  refine ⟨h.1, by rw [stl2, List.length_set, List.length_set, clr_len, hL], h.2.1, fun j w hj => ?_⟩
  have hj1 : j ≠ i + 1 := by
    intro q
    subst q
    have h1 := (List.getElem?_eq_some_iff.mp hj).1
    rw [stl2, List.getElem?_set_self (by simpa [stl2] using h1)] at hj
    cases hj
  rw [stl2, List.getElem?_set_ne (fun q => hj1 q.symm)] at hj
  by_cases hij : j = i
  · subst hij
    have hlt : j < (clr L j).length := by
      have h1 := (List.getElem?_eq_some_iff.mp hj).1
      simpa using h1
    rw [List.getElem?_set_self hlt] at hj
    cases hj
    exact h.2.2 (j, tr g v) List.mem_cons_self
  · rw [List.getElem?_set_ne (fun q => hij q.symm)] at hj
    obtain ⟨h1, h2⟩ := clr_at hj
    refine h.2.2 (j, tr g w) (List.mem_cons_of_mem _ (List.mem_filter.mpr ⟨(lvs_mem g L 0 _).mpr ⟨j, w, h1, by rw [Nat.zero_add]⟩, ?_⟩))
    simp only [Bool.and_eq_true, Bool.not_eq_true', beq_eq_false_iff_ne, Bool.and_eq_false_iff, tr_cat]
    exact ⟨hij, hj1, by
      by_cases h3 : j + 1 = i
      · exact Or.inr fun q => h2 ⟨h3, q⟩
      · exact Or.inl h3⟩
/-- what holds of an invocation -/
def Cx (g : Gm) (M : MI) (p : Program) (s : State) (m : MethodId) (args : Array Value) (meth : Method) (cd : Code) : Prop :=
  p.tables.exec = Jvm.exec ∧ cd.code = mB M ∧ cd.maxLocals = mL M ∧ meth.sig.returnType = mR M ∧ meth.locks = false ∧ meth.name = (mY M).name ∧ s.vm.findClass (mY M).cls = some m.cls ∧ (∀ w ∈ TT, w.before args s = true) ∧ zK g s ∧ zU g s s.heap ∧ okM M ∧ cd.exceptionTable.toList.map (fun y => (y.startPc, y.endPc, y.handlerPc, y.catchType)) = mX M
/-- the picture -/
def Rl (g : Gm) (M : MI) (c : Nat) (h : Hp) (L : List (Option Value)) (s : State) (H : Heap) (locs : List Loc) (ls : Array Slot) : Prop :=
  va_P (g_D g) CL (mws g h) H ∧ va_S (zA g) s.heap H locs ∧ LR g (mL M) L ls ∧ (h.2.2.2.2 = true → s.heap.size + c = g_o g + h.2.2.2.1.length)
def xNm : Nat → String
  | 1 => "java/lang/IllegalArgumentException"
  | 2 => "java/lang/IllegalStateException"
  | 3 => "java/lang/IndexOutOfBoundsException"
  | _ => "java/util/NoSuchElementException"
def oK (g : Gm) (r : Rs) (o : Outcome) (t : State) : Prop := match r with
  | .inl v => o = .returned (v.map (tr g))
  | .inr n => ∃ (a : Addr) (cell : Cell), o = .threw a ∧ t.heap[a]? = some cell ∧ cell.vm.isStatics = false ∧ t.vm.findClass (xNm n) = some cell.cls
def QX (g : Gm) (Q : Rs → Hp → Prop) : Array Value → State → Outcome → State → Prop := fun _ st o t =>
  (∃ (r : Rs) (h : Hp), Q r h ∧ oK g r o t ∧ va_P (g_D g) CL (mws g h) t.heap) ∧ va_F (zA g) st t
def MX (below : List Frame) (Qc : Array Value → State → Outcome → State → Prop) (a : Array Value) (s : State) (mc ms : Nat) (free : Addr → Prop) : State → Prop := fun t =>
  ∃ o, t.status = .running ∧ Ended t below o ∧ Qc a s o t ∧ ∃ L, (s.WarmedH t.vm ∧ s.sameButNew ({ t with vm := s.vm } : State) L mc ms) ∧ ∀ q ∈ L, free q.base
theorem MQ.toX {below : List Frame} {Qc : Array Value → State → Outcome → State → Prop} {a : Array Value} {s : State} {mc ms : Nat} {free : Addr → Prop} {t : State} (h : MQ below Qc a s mc ms free t) : MX below Qc a s mc ms free t := by
  obtain ⟨o, h1, h2, h3, L, ⟨_, h4, h5⟩, h6⟩ := h
  exact ⟨o, h1, h2, h3, L, ⟨h4, h5⟩, h6⟩
theorem W.mono {p : Program} {l : Launch} {e : Env} {R : Room} {s : State} {m : MethodId} {args : Array Value} {below : List Frame} {meth : Method} {c : Code} {H : Heap} {locs : List Loc} {cells slots : Nat} {Q Q' : State → Prop} {f : JFrame} (hQ : ∀ t, Q t → Q' t) (k : W p l e R s m args below meth c H locs cells slots Q f) : W p l e R s m args below meth c H locs cells slots Q' f := by
  intro T hT X
  obtain ⟨t, h1, h2⟩ := k T hT X
  exact ⟨t, h1, hQ t h2⟩
def Z (g : Gm) (M : MI) (c sl pc : Nat) (L : List (Option Value)) (st : List Value) (h : Hp) (Q : Rs → Hp → Prop) : Prop :=
  ∀ (p : Program) (e : Env) (s : State) (m : MethodId) (args : Array Value) (below : List Frame) (meth : Method) (cd : Code), Cx g M p s m args meth cd → ∀ (H : Heap) (locs : List Loc) (ls : Array Slot), Rl g M c h L s H locs ls →
    W p (g_l g) e (mM M) s m args below meth cd H locs c sl (MX below (QX g Q) args s (mM M).cells (mM M).slots (zA g)) (F0 m pc ls (st.map (tr g)))
def subL : List (Option Value) → List (Option Value) → Prop
  | [], [] => True
  | none :: a, _ :: b => subL a b
  | some v :: a, w :: b => w = some v ∧ subL a b
  | _, _ => False
theorem subL_ok : ∀ (a b : List (Option Value)), subL a b → a.length = b.length ∧ ∀ (i : Nat) (v : Value), a[i]? = some (some v) → b[i]? = some (some v)
  | [], [], _ => ⟨rfl, fun i v h => by simp at h⟩
  | none :: a, w :: b, h => by
    have ih := subL_ok a b h
    refine ⟨by simp [ih.1], fun i v hi => ?_⟩
    cases i with
    | zero => simp at hi
    | succ i => simpa using ih.2 i v (by simpa using hi)
  | some u :: a, w :: b, h => by
    have ih := subL_ok a b h.2
    refine ⟨by simp [ih.1], fun i v hi => ?_⟩
    cases i with
    | zero => rw [h.1]; simpa using hi
    | succ i => simpa using ih.2 i v (by simpa using hi)
  | [], w :: b, h => by simp [subL] at h
  | none :: a, [], h => by simp [subL] at h
  | some u :: a, [], h => by simp [subL] at h
section ZR
variable {g : Gm} {M : MI} {c sl pc nx tg : Nat} {L : List (Option Value)} {st : List Value} {h : Hp} {Q : Rs → Hp → Prop}
theorem Z.mono {Q' : Rs → Hp → Prop} (hQ : ∀ r h, Q r h → Q' r h) (k : Z g M c sl pc L st h Q) : Z g M c sl pc L st h Q' := by
  intro p e s m args below meth cd hC H locs ls hR
  refine W.mono ?_ (k p e s m args below meth cd hC H locs ls hR)
  rintro t ⟨o, h1, h2, ⟨⟨r, h', h3, h4⟩, h5⟩, h6⟩
  exact ⟨o, h1, h2, ⟨⟨r, h', hQ _ _ h3, h4⟩, h5⟩, h6⟩
/-- fewer locals known -/
theorem Z.forget (L' : List (Option Value)) (hl : L'.length = L.length) (hs : ∀ (i : Nat) (v : Value), L'[i]? = some (some v) → L[i]? = some (some v)) (k : Z g M c sl pc L' st h Q) : Z g M c sl pc L st h Q := by
  intro p e s m args below meth cd hC H locs ls hR
  obtain ⟨hP, hS, ⟨l1, l2, l3, l4⟩, hx⟩ := hR
  exact k p e s m args below meth cd hC H locs ls ⟨hP, hS, ⟨l1, hl.trans l2, l3, fun i v hi => l4 i v (hs i v hi)⟩, hx⟩
theorem Z.forget' (L' : List (Option Value)) (hs : subL L' L) (k : Z g M c sl pc L' st h Q) : Z g M c sl pc L st h Q := Z.forget L' (subL_ok _ _ hs).1 (subL_ok _ _ hs).2 k
theorem z_iadd {x y : Int32} (hi : fI M pc = some (.iadd, 1, nx, tg)) (k : Z g M c sl nx L (.int (x + y) :: st) h Q) : Z g M c sl pc L (.int y :: .int x :: st) h Q := by
  intro p e s m args below meth cd hC H locs ls hR
  obtain ⟨hd, hn, ht⟩ := fI_ok hC.2.2.2.2.2.2.2.2.2.2.1 hi
  subst hn
  exact lv_iadd hC.1 hC.2.1 hd (k p e s m args below meth cd hC H locs ls hR)
theorem z_isub {x y : Int32} (hi : fI M pc = some (.isub, 1, nx, tg)) (k : Z g M c sl nx L (.int (x - y) :: st) h Q) : Z g M c sl pc L (.int y :: .int x :: st) h Q := by
  intro p e s m args below meth cd hC H locs ls hR
  obtain ⟨hd, hn, ht⟩ := fI_ok hC.2.2.2.2.2.2.2.2.2.2.1 hi
  subst hn
  exact lv_isub hC.1 hC.2.1 hd (k p e s m args below meth cd hC H locs ls hR)
theorem z_imul {x y : Int32} (hi : fI M pc = some (.imul, 1, nx, tg)) (k : Z g M c sl nx L (.int (x * y) :: st) h Q) : Z g M c sl pc L (.int y :: .int x :: st) h Q := by
  intro p e s m args below meth cd hC H locs ls hR
  obtain ⟨hd, hn, ht⟩ := fI_ok hC.2.2.2.2.2.2.2.2.2.2.1 hi
  subst hn
  exact lv_imul hC.1 hC.2.1 hd (k p e s m args below meth cd hC H locs ls hR)
theorem z_iand {x y : Int32} (hi : fI M pc = some (.iand, 1, nx, tg)) (k : Z g M c sl nx L (.int (x &&& y) :: st) h Q) : Z g M c sl pc L (.int y :: .int x :: st) h Q := by
  intro p e s m args below meth cd hC H locs ls hR
  obtain ⟨hd, hn, ht⟩ := fI_ok hC.2.2.2.2.2.2.2.2.2.2.1 hi
  subst hn
  exact lv_iand hC.1 hC.2.1 hd (k p e s m args below meth cd hC H locs ls hR)
theorem z_idiv {x y : Int32} (hi : fI M pc = some (.idiv, 1, nx, tg)) (hy : ¬ y = 0) (k : Z g M c sl nx L (.int (x / y) :: st) h Q) : Z g M c sl pc L (.int y :: .int x :: st) h Q := by
  intro p e s m args below meth cd hC H locs ls hR
  obtain ⟨hd, hn, ht⟩ := fI_ok hC.2.2.2.2.2.2.2.2.2.2.1 hi
  subst hn
  exact lv_idiv hC.1 hC.2.1 hd hy (k p e s m args below meth cd hC H locs ls hR)
theorem z_irem {x y : Int32} (hi : fI M pc = some (.irem, 1, nx, tg)) (hy : ¬ y = 0) (k : Z g M c sl nx L (.int (x - x / y * y) :: st) h Q) : Z g M c sl pc L (.int y :: .int x :: st) h Q := by
  intro p e s m args below meth cd hC H locs ls hR
  obtain ⟨hd, hn, ht⟩ := fI_ok hC.2.2.2.2.2.2.2.2.2.2.1 hi
  subst hn
  exact lv_irem hC.1 hC.2.1 hd hy (k p e s m args below meth cd hC H locs ls hR)
theorem z_ineg {x : Int32} (hi : fI M pc = some (.ineg, 1, nx, tg)) (k : Z g M c sl nx L (.int (-x) :: st) h Q) : Z g M c sl pc L (.int x :: st) h Q := by
  intro p e s m args below meth cd hC H locs ls hR
  obtain ⟨hd, hn, ht⟩ := fI_ok hC.2.2.2.2.2.2.2.2.2.2.1 hi
  subst hn
  exact lv_ineg hC.1 hC.2.1 hd (k p e s m args below meth cd hC H locs ls hR)
theorem z_ladd {x y : Int64} (hi : fI M pc = some (.ladd, 1, nx, tg)) (k : Z g M c sl nx L (.long (x + y) :: st) h Q) : Z g M c sl pc L (.long y :: .long x :: st) h Q := by
  intro p e s m args below meth cd hC H locs ls hR
  obtain ⟨hd, hn, ht⟩ := fI_ok hC.2.2.2.2.2.2.2.2.2.2.1 hi
  subst hn
  exact lv_ladd hC.1 hC.2.1 hd (k p e s m args below meth cd hC H locs ls hR)
theorem z_lsub {x y : Int64} (hi : fI M pc = some (.lsub, 1, nx, tg)) (k : Z g M c sl nx L (.long (x - y) :: st) h Q) : Z g M c sl pc L (.long y :: .long x :: st) h Q := by
  intro p e s m args below meth cd hC H locs ls hR
  obtain ⟨hd, hn, ht⟩ := fI_ok hC.2.2.2.2.2.2.2.2.2.2.1 hi
  subst hn
  exact lv_lsub hC.1 hC.2.1 hd (k p e s m args below meth cd hC H locs ls hR)
theorem z_lmul {x y : Int64} (hi : fI M pc = some (.lmul, 1, nx, tg)) (k : Z g M c sl nx L (.long (x * y) :: st) h Q) : Z g M c sl pc L (.long y :: .long x :: st) h Q := by
  intro p e s m args below meth cd hC H locs ls hR
  obtain ⟨hd, hn, ht⟩ := fI_ok hC.2.2.2.2.2.2.2.2.2.2.1 hi
  subst hn
  exact lv_lmul hC.1 hC.2.1 hd (k p e s m args below meth cd hC H locs ls hR)
theorem z_lneg {x : Int64} (hi : fI M pc = some (.lneg, 1, nx, tg)) (k : Z g M c sl nx L (.long (-x) :: st) h Q) : Z g M c sl pc L (.long x :: st) h Q := by
  intro p e s m args below meth cd hC H locs ls hR
  obtain ⟨hd, hn, ht⟩ := fI_ok hC.2.2.2.2.2.2.2.2.2.2.1 hi
  subst hn
  exact lv_lneg hC.1 hC.2.1 hd (k p e s m args below meth cd hC H locs ls hR)
theorem z_i2l {x : Int32} (hi : fI M pc = some (.i2l, 1, nx, tg)) (k : Z g M c sl nx L (.long x.toInt64 :: st) h Q) : Z g M c sl pc L (.int x :: st) h Q := by
  intro p e s m args below meth cd hC H locs ls hR
  obtain ⟨hd, hn, ht⟩ := fI_ok hC.2.2.2.2.2.2.2.2.2.2.1 hi
  subst hn
  exact lv_i2l hC.1 hC.2.1 hd rfl (k p e s m args below meth cd hC H locs ls hR)
theorem z_lcmp {x y : Int64} (hi : fI M pc = some (.lcmp, 1, nx, tg)) (k : Z g M c sl nx L (.int (lg_cmp x y) :: st) h Q) : Z g M c sl pc L (.long y :: .long x :: st) h Q := by
  intro p e s m args below meth cd hC H locs ls hR
  obtain ⟨hd, hn, ht⟩ := fI_ok hC.2.2.2.2.2.2.2.2.2.2.1 hi
  subst hn
  exact W.lcmp hC.1 hC.2.1 hd (k p e s m args below meth cd hC H locs ls hR)
theorem z_iconst {n : Int} (v : Int32) (hi : fI M pc = some (.iconst n, 1, nx, tg)) (hv : Int32.ofInt n = v) (k : Z g M c sl nx L (.int v :: st) h Q) : Z g M c sl pc L (st) h Q := by
  intro p e s m args below meth cd hC H locs ls hR
  obtain ⟨hd, hn, ht⟩ := fI_ok hC.2.2.2.2.2.2.2.2.2.2.1 hi
  subst hn
  exact lv_iconst hC.1 hC.2.1 hd hv (k p e s m args below meth cd hC H locs ls hR)
theorem z_bipush {n : Int} (v : Int32) (hi : fI M pc = some (.bipush n, 2, nx, tg)) (hv : (Int8.ofInt n).toInt32 = v) (k : Z g M c sl nx L (.int v :: st) h Q) : Z g M c sl pc L (st) h Q := by
  intro p e s m args below meth cd hC H locs ls hR
  obtain ⟨hd, hn, ht⟩ := fI_ok hC.2.2.2.2.2.2.2.2.2.2.1 hi
  subst hn
  exact lv_bipush hC.1 hC.2.1 hd hv (k p e s m args below meth cd hC H locs ls hR)
theorem z_sipush {n : Int} (v : Int32) (hi : fI M pc = some (.sipush n, 3, nx, tg)) (hv : (Int16.ofInt n).toInt32 = v) (k : Z g M c sl nx L (.int v :: st) h Q) : Z g M c sl pc L (st) h Q := by
  intro p e s m args below meth cd hC H locs ls hR
  obtain ⟨hd, hn, ht⟩ := fI_ok hC.2.2.2.2.2.2.2.2.2.2.1 hi
  subst hn
  exact lv_sipush hC.1 hC.2.1 hd hv (k p e s m args below meth cd hC H locs ls hR)
theorem z_lconst {n : Fin 2} (v : Int64) (hi : fI M pc = some (.lconst n, 1, nx, tg)) (hv : Int64.ofNat (n : Nat) = v) (k : Z g M c sl nx L (.long v :: st) h Q) : Z g M c sl pc L (st) h Q := by
  intro p e s m args below meth cd hC H locs ls hR
  obtain ⟨hd, hn, ht⟩ := fI_ok hC.2.2.2.2.2.2.2.2.2.2.1 hi
  subst hn
  exact lv_lconst hC.1 hC.2.1 hd hv (k p e s m args below meth cd hC H locs ls hR)
theorem z_ldc {n : Nat} {v : Int32} (hi : fI M pc = some (.ldc n, 2, nx, tg)) (hw : Cond.constant (mY M).cls n v ∈ TT) (k : Z g M c sl nx L (.int v :: st) h Q) : Z g M c sl pc L (st) h Q := by
  intro p e s m args below meth cd hC H locs ls hR
  obtain ⟨hd, hn, ht⟩ := fI_ok hC.2.2.2.2.2.2.2.2.2.2.1 hi
  subst hn
  exact lv_ldc hC.1 hC.2.1 hC.2.2.2.2.2.2.1 (hC.2.2.2.2.2.2.2.1 _ hw) hd (k p e s m args below meth cd hC H locs ls hR)
theorem z_ldc2 {n : Nat} {v : Int64} (hi : fI M pc = some (.ldc2_w n, 3, nx, tg)) (hw : Cond.constantLong (mY M).cls n v ∈ TT) (k : Z g M c sl nx L (.long v :: st) h Q) : Z g M c sl pc L (st) h Q := by
  intro p e s m args below meth cd hC H locs ls hR
  obtain ⟨hd, hn, ht⟩ := fI_ok hC.2.2.2.2.2.2.2.2.2.2.1 hi
  subst hn
  exact lv_ldc2 hC.1 hC.2.1 hC.2.2.2.2.2.2.1 (hC.2.2.2.2.2.2.2.1 _ hw) hd (k p e s m args below meth cd hC H locs ls hR)
theorem z_dup {v : Value} (hi : fI M pc = some (.dup, 1, nx, tg)) (hv : v.category = 1) (k : Z g M c sl nx L (v :: v :: st) h Q) : Z g M c sl pc L (v :: st) h Q := by
  intro p e s m args below meth cd hC H locs ls hR
  obtain ⟨hd, hn, ht⟩ := fI_ok hC.2.2.2.2.2.2.2.2.2.2.1 hi
  subst hn
  exact lv_dup hC.1 hC.2.1 hd ((tr_cat g v).trans hv) (k p e s m args below meth cd hC H locs ls hR)
theorem z_pop {v : Value} (hi : fI M pc = some (.pop, 1, nx, tg)) (hv : v.category = 1) (k : Z g M c sl nx L (st) h Q) : Z g M c sl pc L (v :: st) h Q := by
  intro p e s m args below meth cd hC H locs ls hR
  obtain ⟨hd, hn, ht⟩ := fI_ok hC.2.2.2.2.2.2.2.2.2.2.1 hi
  subst hn
  exact lv_pop hC.1 hC.2.1 hd ((tr_cat g v).trans hv) (k p e s m args below meth cd hC H locs ls hR)
theorem z_dup_x1 {v w : Value} (hi : fI M pc = some (.dup_x1, 1, nx, tg)) (hv : v.category = 1) (hw : w.category = 1) (k : Z g M c sl nx L (v :: w :: v :: st) h Q) : Z g M c sl pc L (v :: w :: st) h Q := by
  intro p e s m args below meth cd hC H locs ls hR
  obtain ⟨hd, hn, ht⟩ := fI_ok hC.2.2.2.2.2.2.2.2.2.2.1 hi
  subst hn
  exact lv_dup_x1 hC.1 hC.2.1 hd ((tr_cat g v).trans hv) ((tr_cat g w).trans hw) (k p e s m args below meth cd hC H locs ls hR)
theorem z_iload_n {n : Fin 4} {x : Int32} (hi : fI M pc = some (.iload_n n, 1, nx, tg)) (hl : L[(n : Nat)]? = some (some (.int x))) (k : Z g M c sl nx L (.int x :: st) h Q) : Z g M c sl pc L (st) h Q := by
  intro p e s m args below meth cd hC H locs ls hR
  obtain ⟨hd, hn, ht⟩ := fI_ok hC.2.2.2.2.2.2.2.2.2.2.1 hi
  subst hn
  exact lv_iload_n hC.1 hC.2.1 hd rfl (hR.2.2.1.2.2.2 _ _ hl) (k p e s m args below meth cd hC H locs ls hR)
theorem z_iload {n : Nat} {x : Int32} (hi : fI M pc = some (.iload n, 2, nx, tg)) (hl : L[n]? = some (some (.int x))) (k : Z g M c sl nx L (.int x :: st) h Q) : Z g M c sl pc L (st) h Q := by
  intro p e s m args below meth cd hC H locs ls hR
  obtain ⟨hd, hn, ht⟩ := fI_ok hC.2.2.2.2.2.2.2.2.2.2.1 hi
  subst hn
  exact lv_iload hC.1 hC.2.1 hd (hR.2.2.1.2.2.2 _ _ hl) (k p e s m args below meth cd hC H locs ls hR)
theorem z_lload_n {n : Fin 4} {x : Int64} (hi : fI M pc = some (.lload_n n, 1, nx, tg)) (hl : L[(n : Nat)]? = some (some (.long x))) (k : Z g M c sl nx L (.long x :: st) h Q) : Z g M c sl pc L (st) h Q := by
  intro p e s m args below meth cd hC H locs ls hR
  obtain ⟨hd, hn, ht⟩ := fI_ok hC.2.2.2.2.2.2.2.2.2.2.1 hi
  subst hn
  exact lv_lload_n hC.1 hC.2.1 hd rfl (hR.2.2.1.2.2.2 _ _ hl) (k p e s m args below meth cd hC H locs ls hR)
theorem z_lload {n : Nat} {x : Int64} (hi : fI M pc = some (.lload n, 2, nx, tg)) (hl : L[n]? = some (some (.long x))) (k : Z g M c sl nx L (.long x :: st) h Q) : Z g M c sl pc L (st) h Q := by
  intro p e s m args below meth cd hC H locs ls hR
  obtain ⟨hd, hn, ht⟩ := fI_ok hC.2.2.2.2.2.2.2.2.2.2.1 hi
  subst hn
  exact lv_lload hC.1 hC.2.1 hd (hR.2.2.1.2.2.2 _ _ hl) (k p e s m args below meth cd hC H locs ls hR)
theorem z_aload_n {n : Fin 4} {x : Nat} (hi : fI M pc = some (.aload_n n, 1, nx, tg)) (hl : L[(n : Nat)]? = some (some (.ref x))) (k : Z g M c sl nx L (.ref x :: st) h Q) : Z g M c sl pc L (st) h Q := by
  intro p e s m args below meth cd hC H locs ls hR
  obtain ⟨hd, hn, ht⟩ := fI_ok hC.2.2.2.2.2.2.2.2.2.2.1 hi
  subst hn
  exact lv_aload_n hC.1 hC.2.1 hd rfl (hR.2.2.1.2.2.2 _ _ hl) (k p e s m args below meth cd hC H locs ls hR)
theorem z_aload {n : Nat} {x : Nat} (hi : fI M pc = some (.aload n, 2, nx, tg)) (hl : L[n]? = some (some (.ref x))) (k : Z g M c sl nx L (.ref x :: st) h Q) : Z g M c sl pc L (st) h Q := by
  intro p e s m args below meth cd hC H locs ls hR
  obtain ⟨hd, hn, ht⟩ := fI_ok hC.2.2.2.2.2.2.2.2.2.2.1 hi
  subst hn
  exact lv_aload hC.1 hC.2.1 hd (hR.2.2.1.2.2.2 _ _ hl) (k p e s m args below meth cd hC H locs ls hR)
theorem z_aload_nt {n : Fin 4} (hi : fI M pc = some (.aload_n n, 1, nx, tg)) (hl : L[(n : Nat)]? = some (some (.retAddr 0))) (k : Z g M c sl nx L (.retAddr 0 :: st) h Q) : Z g M c sl pc L (st) h Q := by
  intro p e s m args below meth cd hC H locs ls hR
  obtain ⟨hd, hn, ht⟩ := fI_ok hC.2.2.2.2.2.2.2.2.2.2.1 hi
  subst hn
  exact lv_aload_n hC.1 hC.2.1 hd rfl (hR.2.2.1.2.2.2 _ _ hl) (k p e s m args below meth cd hC H locs ls hR)
theorem z_aload_ns {n : Fin 4} {j : Nat} (hi : fI M pc = some (.aload_n n, 1, nx, tg)) (hl : L[(n : Nat)]? = some (some (.retAddr (j + 1)))) (k : Z g M c sl nx L (.retAddr (j + 1) :: st) h Q) : Z g M c sl pc L (st) h Q := by
  intro p e s m args below meth cd hC H locs ls hR
  obtain ⟨hd, hn, ht⟩ := fI_ok hC.2.2.2.2.2.2.2.2.2.2.1 hi
  subst hn
  exact lv_aload_n hC.1 hC.2.1 hd rfl (hR.2.2.1.2.2.2 _ _ hl) (k p e s m args below meth cd hC H locs ls hR)
theorem z_istore_n {n : Fin 4} {x : Int32} (L' : List (Option Value)) (hi : fI M pc = some (.istore_n n, 1, nx, tg)) (hn : Nat.ble ((n : Nat) + 1) L.length = true) (hL' : stl L (n : Nat) (.int x) = L') (k : Z g M c sl nx L' st h Q) : Z g M c sl pc L (.int x :: st) h Q := by
  intro p e s m args below meth cd hC H locs ls hR
  obtain ⟨hd, hn, ht⟩ := fI_ok hC.2.2.2.2.2.2.2.2.2.2.1 hi
  subst hn
  subst hL'
  obtain ⟨hP, hS, hL, hx⟩ := hR
  have hlt := Nat.le_of_ble_eq_true hn
  rw [hL.2.1] at hlt
  exact lv_istore_n hC.1 hC.2.1 hd rfl hL.has hlt rfl fun ls' hl' => k p e s m args below meth cd hC H locs ls' ⟨hP, hS, LR.store hL.2.1 hl', hx⟩
theorem z_istore {n : Nat} {x : Int32} (L' : List (Option Value)) (hi : fI M pc = some (.istore n, 2, nx, tg)) (hn : Nat.ble (n + 1) L.length = true) (hL' : stl L n (.int x) = L') (k : Z g M c sl nx L' st h Q) : Z g M c sl pc L (.int x :: st) h Q := by
  intro p e s m args below meth cd hC H locs ls hR
  obtain ⟨hd, hn, ht⟩ := fI_ok hC.2.2.2.2.2.2.2.2.2.2.1 hi
  subst hn
  subst hL'
  obtain ⟨hP, hS, hL, hx⟩ := hR
  have hlt := Nat.le_of_ble_eq_true hn
  rw [hL.2.1] at hlt
  exact lv_istore hC.1 hC.2.1 hd hL.has hlt rfl fun ls' hl' => k p e s m args below meth cd hC H locs ls' ⟨hP, hS, LR.store hL.2.1 hl', hx⟩
theorem z_lstore_n {n : Fin 4} {x : Int64} (L' : List (Option Value)) (hi : fI M pc = some (.lstore_n n, 1, nx, tg)) (hn : Nat.ble ((n : Nat) + 2) L.length = true) (hL' : stl2 L (n : Nat) (.long x) = L') (k : Z g M c sl nx L' st h Q) : Z g M c sl pc L (.long x :: st) h Q := by
  intro p e s m args below meth cd hC H locs ls hR
  obtain ⟨hd, hn, ht⟩ := fI_ok hC.2.2.2.2.2.2.2.2.2.2.1 hi
  subst hn
  subst hL'
  obtain ⟨hP, hS, hL, hx⟩ := hR
  have hlt := Nat.le_of_ble_eq_true hn
  rw [hL.2.1] at hlt
  exact lv_lstore_n hC.1 hC.2.1 hd rfl hL.has hlt rfl fun ls' hl' => k p e s m args below meth cd hC H locs ls' ⟨hP, hS, LR.store2 hL.2.1 hl', hx⟩
theorem z_lstore {n : Nat} {x : Int64} (L' : List (Option Value)) (hi : fI M pc = some (.lstore n, 2, nx, tg)) (hn : Nat.ble (n + 2) L.length = true) (hL' : stl2 L n (.long x) = L') (k : Z g M c sl nx L' st h Q) : Z g M c sl pc L (.long x :: st) h Q := by
  intro p e s m args below meth cd hC H locs ls hR
  obtain ⟨hd, hn, ht⟩ := fI_ok hC.2.2.2.2.2.2.2.2.2.2.1 hi
  subst hn
  subst hL'
  obtain ⟨hP, hS, hL, hx⟩ := hR
  have hlt := Nat.le_of_ble_eq_true hn
  rw [hL.2.1] at hlt
  exact lv_lstore hC.1 hC.2.1 hd hL.has hlt rfl fun ls' hl' => k p e s m args below meth cd hC H locs ls' ⟨hP, hS, LR.store2 hL.2.1 hl', hx⟩
theorem z_astore_n {n : Fin 4} {x : Nat} (L' : List (Option Value)) (hi : fI M pc = some (.astore_n n, 1, nx, tg)) (hn : Nat.ble ((n : Nat) + 1) L.length = true) (hL' : stl L (n : Nat) (.ref x) = L') (k : Z g M c sl nx L' st h Q) : Z g M c sl pc L (.ref x :: st) h Q := by
  intro p e s m args below meth cd hC H locs ls hR
  obtain ⟨hd, hn, ht⟩ := fI_ok hC.2.2.2.2.2.2.2.2.2.2.1 hi
  subst hn
  subst hL'
  obtain ⟨hP, hS, hL, hx⟩ := hR
  have hlt := Nat.le_of_ble_eq_true hn
  rw [hL.2.1] at hlt
  exact lv_astore_n hC.1 hC.2.1 hd rfl hL.has hlt rfl fun ls' hl' => k p e s m args below meth cd hC H locs ls' ⟨hP, hS, LR.store hL.2.1 hl', hx⟩
theorem z_astore {n : Nat} {x : Nat} (L' : List (Option Value)) (hi : fI M pc = some (.astore n, 2, nx, tg)) (hn : Nat.ble (n + 1) L.length = true) (hL' : stl L n (.ref x) = L') (k : Z g M c sl nx L' st h Q) : Z g M c sl pc L (.ref x :: st) h Q := by
  intro p e s m args below meth cd hC H locs ls hR
  obtain ⟨hd, hn, ht⟩ := fI_ok hC.2.2.2.2.2.2.2.2.2.2.1 hi
  subst hn
  subst hL'
  obtain ⟨hP, hS, hL, hx⟩ := hR
  have hlt := Nat.le_of_ble_eq_true hn
  rw [hL.2.1] at hlt
  exact lv_astore hC.1 hC.2.1 hd hL.has hlt rfl fun ls' hl' => k p e s m args below meth cd hC H locs ls' ⟨hP, hS, LR.store hL.2.1 hl', hx⟩
theorem z_iinc {n : Nat} {d : Int} {x : Int32} (v : Int32) (L' : List (Option Value)) (hi : fI M pc = some (.iinc n d, 3, nx, tg)) (hl : L[n]? = some (some (.int x))) (hv : Int32.ofInt d = v) (hL' : stl L n (.int (x + v)) = L') (k : Z g M c sl nx L' st h Q) : Z g M c sl pc L st h Q := by
  intro p e s m args below meth cd hC H locs ls hR
  obtain ⟨hd, hn, ht⟩ := fI_ok hC.2.2.2.2.2.2.2.2.2.2.1 hi
  subst hn
  subst hL'
  obtain ⟨hP, hS, hL, hx⟩ := hR
  subst hv
  have hlt := (List.getElem?_eq_some_iff.mp hl).1
  rw [hL.2.1] at hlt
  obtain ⟨kk, hkk⟩ := List.mem_iff_getElem?.mp ((lvs_mem g L 0 (n, .int x)).mpr ⟨n, .int x, hl, by rw [Nat.zero_add]; rfl⟩)
  exact lv_iinc hC.1 hC.2.1 hd hL.has hkk rfl hlt rfl fun ls' hl' => k p e s m args below meth cd hC H locs ls' ⟨hP, hS, LR.store (v := .int (x + Int32.ofInt d)) hL.2.1 hl', hx⟩
theorem z_icmp_eq {x y : Int32} {o : Int} (hi : fI M pc = some (.if_icmp .eq o, 3, nx, tg)) (kt : x = y → Z g M c sl tg L st h Q) (kf : ¬ x = y → Z g M c sl nx L st h Q) : Z g M c sl pc L (.int y :: .int x :: st) h Q := by
  intro p e s m args below meth cd hC H locs ls hR
  obtain ⟨hd, hn, ht⟩ := fI_ok hC.2.2.2.2.2.2.2.2.2.2.1 hi
  subst hn
  exact lv_icmp_eq hC.1 hC.2.1 hd (ht o rfl) (fun q => kt q p e s m args below meth cd hC H locs ls hR) (fun q => kf q p e s m args below meth cd hC H locs ls hR)
theorem z_if_eq {x : Int32} {o : Int} (hi : fI M pc = some (.ifCond .eq o, 3, nx, tg)) (kt : x = 0 → Z g M c sl tg L st h Q) (kf : ¬ x = 0 → Z g M c sl nx L st h Q) : Z g M c sl pc L (.int x :: st) h Q := by
  intro p e s m args below meth cd hC H locs ls hR
  obtain ⟨hd, hn, ht⟩ := fI_ok hC.2.2.2.2.2.2.2.2.2.2.1 hi
  subst hn
  exact lv_if_eq hC.1 hC.2.1 hd (ht o rfl) (fun q => kt q p e s m args below meth cd hC H locs ls hR) (fun q => kf q p e s m args below meth cd hC H locs ls hR)
theorem z_icmp_ne {x y : Int32} {o : Int} (hi : fI M pc = some (.if_icmp .ne o, 3, nx, tg)) (kt : ¬ x = y → Z g M c sl tg L st h Q) (kf : x = y → Z g M c sl nx L st h Q) : Z g M c sl pc L (.int y :: .int x :: st) h Q := by
  intro p e s m args below meth cd hC H locs ls hR
  obtain ⟨hd, hn, ht⟩ := fI_ok hC.2.2.2.2.2.2.2.2.2.2.1 hi
  subst hn
  exact lv_icmp_ne hC.1 hC.2.1 hd (ht o rfl) (fun q => kt q p e s m args below meth cd hC H locs ls hR) (fun q => kf q p e s m args below meth cd hC H locs ls hR)
theorem z_if_ne {x : Int32} {o : Int} (hi : fI M pc = some (.ifCond .ne o, 3, nx, tg)) (kt : ¬ x = 0 → Z g M c sl tg L st h Q) (kf : x = 0 → Z g M c sl nx L st h Q) : Z g M c sl pc L (.int x :: st) h Q := by
  intro p e s m args below meth cd hC H locs ls hR
  obtain ⟨hd, hn, ht⟩ := fI_ok hC.2.2.2.2.2.2.2.2.2.2.1 hi
  subst hn
  exact lv_if_ne hC.1 hC.2.1 hd (ht o rfl) (fun q => kt q p e s m args below meth cd hC H locs ls hR) (fun q => kf q p e s m args below meth cd hC H locs ls hR)
theorem z_icmp_lt {x y : Int32} {o : Int} (hi : fI M pc = some (.if_icmp .lt o, 3, nx, tg)) (kt : x < y → Z g M c sl tg L st h Q) (kf : ¬ x < y → Z g M c sl nx L st h Q) : Z g M c sl pc L (.int y :: .int x :: st) h Q := by
  intro p e s m args below meth cd hC H locs ls hR
  obtain ⟨hd, hn, ht⟩ := fI_ok hC.2.2.2.2.2.2.2.2.2.2.1 hi
  subst hn
  exact lv_icmp_lt hC.1 hC.2.1 hd (ht o rfl) (fun q => kt q p e s m args below meth cd hC H locs ls hR) (fun q => kf q p e s m args below meth cd hC H locs ls hR)
theorem z_if_lt {x : Int32} {o : Int} (hi : fI M pc = some (.ifCond .lt o, 3, nx, tg)) (kt : x < 0 → Z g M c sl tg L st h Q) (kf : ¬ x < 0 → Z g M c sl nx L st h Q) : Z g M c sl pc L (.int x :: st) h Q := by
  intro p e s m args below meth cd hC H locs ls hR
  obtain ⟨hd, hn, ht⟩ := fI_ok hC.2.2.2.2.2.2.2.2.2.2.1 hi
  subst hn
  exact lv_if_lt hC.1 hC.2.1 hd (ht o rfl) (fun q => kt q p e s m args below meth cd hC H locs ls hR) (fun q => kf q p e s m args below meth cd hC H locs ls hR)
theorem z_icmp_ge {x y : Int32} {o : Int} (hi : fI M pc = some (.if_icmp .ge o, 3, nx, tg)) (kt : y ≤ x → Z g M c sl tg L st h Q) (kf : ¬ y ≤ x → Z g M c sl nx L st h Q) : Z g M c sl pc L (.int y :: .int x :: st) h Q := by
  intro p e s m args below meth cd hC H locs ls hR
  obtain ⟨hd, hn, ht⟩ := fI_ok hC.2.2.2.2.2.2.2.2.2.2.1 hi
  subst hn
  exact lv_icmp_ge hC.1 hC.2.1 hd (ht o rfl) (fun q => kt q p e s m args below meth cd hC H locs ls hR) (fun q => kf q p e s m args below meth cd hC H locs ls hR)
theorem z_if_ge {x : Int32} {o : Int} (hi : fI M pc = some (.ifCond .ge o, 3, nx, tg)) (kt : 0 ≤ x → Z g M c sl tg L st h Q) (kf : ¬ 0 ≤ x → Z g M c sl nx L st h Q) : Z g M c sl pc L (.int x :: st) h Q := by
  intro p e s m args below meth cd hC H locs ls hR
  obtain ⟨hd, hn, ht⟩ := fI_ok hC.2.2.2.2.2.2.2.2.2.2.1 hi
  subst hn
  exact lv_if_ge hC.1 hC.2.1 hd (ht o rfl) (fun q => kt q p e s m args below meth cd hC H locs ls hR) (fun q => kf q p e s m args below meth cd hC H locs ls hR)
theorem z_icmp_gt {x y : Int32} {o : Int} (hi : fI M pc = some (.if_icmp .gt o, 3, nx, tg)) (kt : y < x → Z g M c sl tg L st h Q) (kf : ¬ y < x → Z g M c sl nx L st h Q) : Z g M c sl pc L (.int y :: .int x :: st) h Q := by
  intro p e s m args below meth cd hC H locs ls hR
  obtain ⟨hd, hn, ht⟩ := fI_ok hC.2.2.2.2.2.2.2.2.2.2.1 hi
  subst hn
  exact lv_icmp_gt hC.1 hC.2.1 hd (ht o rfl) (fun q => kt q p e s m args below meth cd hC H locs ls hR) (fun q => kf q p e s m args below meth cd hC H locs ls hR)
theorem z_if_gt {x : Int32} {o : Int} (hi : fI M pc = some (.ifCond .gt o, 3, nx, tg)) (kt : 0 < x → Z g M c sl tg L st h Q) (kf : ¬ 0 < x → Z g M c sl nx L st h Q) : Z g M c sl pc L (.int x :: st) h Q := by
  intro p e s m args below meth cd hC H locs ls hR
  obtain ⟨hd, hn, ht⟩ := fI_ok hC.2.2.2.2.2.2.2.2.2.2.1 hi
  subst hn
  exact lv_if_gt hC.1 hC.2.1 hd (ht o rfl) (fun q => kt q p e s m args below meth cd hC H locs ls hR) (fun q => kf q p e s m args below meth cd hC H locs ls hR)
theorem z_icmp_le {x y : Int32} {o : Int} (hi : fI M pc = some (.if_icmp .le o, 3, nx, tg)) (kt : x ≤ y → Z g M c sl tg L st h Q) (kf : ¬ x ≤ y → Z g M c sl nx L st h Q) : Z g M c sl pc L (.int y :: .int x :: st) h Q := by
  intro p e s m args below meth cd hC H locs ls hR
  obtain ⟨hd, hn, ht⟩ := fI_ok hC.2.2.2.2.2.2.2.2.2.2.1 hi
  subst hn
  exact lv_icmp_le hC.1 hC.2.1 hd (ht o rfl) (fun q => kt q p e s m args below meth cd hC H locs ls hR) (fun q => kf q p e s m args below meth cd hC H locs ls hR)
theorem z_if_le {x : Int32} {o : Int} (hi : fI M pc = some (.ifCond .le o, 3, nx, tg)) (kt : x ≤ 0 → Z g M c sl tg L st h Q) (kf : ¬ x ≤ 0 → Z g M c sl nx L st h Q) : Z g M c sl pc L (.int x :: st) h Q := by
  intro p e s m args below meth cd hC H locs ls hR
  obtain ⟨hd, hn, ht⟩ := fI_ok hC.2.2.2.2.2.2.2.2.2.2.1 hi
  subst hn
  exact lv_if_le hC.1 hC.2.1 hd (ht o rfl) (fun q => kt q p e s m args below meth cd hC H locs ls hR) (fun q => kf q p e s m args below meth cd hC H locs ls hR)
theorem z_goto {o : Int} (hi : fI M pc = some (.goto o, 3, nx, tg)) (k : Z g M c sl tg L st h Q) : Z g M c sl pc L st h Q := by
  intro p e s m args below meth cd hC H locs ls hR
  obtain ⟨hd, hn, ht⟩ := fI_ok hC.2.2.2.2.2.2.2.2.2.2.1 hi
  subst hn
  exact lv_goto hC.1 hC.2.1 hd (ht o rfl) (k p e s m args below meth cd hC H locs ls hR)
def swT (i : Instr) (pc : Nat) (x : Int32) : Int := match i with
  | .tableswitch d lo hi offs => if x.toInt < lo ∨ hi < x.toInt then (pc : Int) + d else (match offs[(x.toInt - lo).toNat]? with
    | some o => (pc : Int) + o
    | none => -1)
  | _ => -1
theorem z_switch {d lo hh : Int} {offs : Array Int} {n : Nat} {x : Int32} (t : Nat) (hi : fI M pc = some (.tableswitch d lo hh offs, n, nx, tg)) (hs : swT (.tableswitch d lo hh offs) pc x = (t : Int)) (k : Z g M c sl t L st h Q) : Z g M c sl pc L (.int x :: st) h Q := by
  intro p e s m args below meth cd hC H locs ls hR
  obtain ⟨hd, hn, ht⟩ := fI_ok hC.2.2.2.2.2.2.2.2.2.2.1 hi
  subst hn
  simp only [swT] at hs
  split at hs
  · rename_i h1
    exact lv_tableOut hC.1 hC.2.1 hd h1 hs (k p e s m args below meth cd hC H locs ls hR)
  · rename_i h1
    split at hs
    · rename_i o ho
      exact lv_tableIn hC.1 hC.2.1 hd (fun q => h1 (Or.inl q)) (fun q => h1 (Or.inr q)) ho hs (k p e s m args below meth cd hC H locs ls hR)
    · omega
theorem z_lookup {d : Int} {ps : Array (Int × Int)} {n : Nat} {x : Int32} (t : Nat) (hi : fI M pc = some (.lookupswitch d ps, n, nx, tg)) (hp : (ps.toList.zip (ps.toList.drop 1)).all (fun (a, next) => a.1 < next.1) = true) (hs : (pc : Int) + Op.lookupswitch.offset ps.toList d x.toInt = (t : Int)) (k : Z g M c sl t L st h Q) : Z g M c sl pc L (.int x :: st) h Q := by
  intro p e s m args below meth cd hC H locs ls hR
  obtain ⟨hd, hn, ht⟩ := fI_ok hC.2.2.2.2.2.2.2.2.2.2.1 hi
  subst hn
  exact lv_lookup hC.1 hC.2.1 hd hp rfl hs (k p e s m args below meth cd hC H locs ls hR)
theorem z_geti {ix k ci : Nat} (i : Nat) (hi : fI M pc = some (.getfield ix, 3, nx, tg)) (hT : h.2.2.2.1[k]? = some (0, ci)) (hf : (fk ci)[i]? = some false) (hw : Cond.fieldLink (mY M).cls ix (cF ci i).1 (cF ci i).2.1 (cF ci i).2.2.1 ∈ TT) (kk : Z g M c sl nx L (.int (h.1 k i) :: st) h Q) : Z g M c sl pc L (.ref k :: st) h Q := by
  intro p e s m args below meth cd hC H locs ls hR
  obtain ⟨hd, hn, ht⟩ := fI_ok hC.2.2.2.2.2.2.2.2.2.2.1 hi
  subst hn
  have h1 := mfs_at (g_o g) (h.1 k) (h.2.2.1 k) (fk ci) 0 i false hf
  rw [Nat.zero_add] at h1
  exact va_get hC.1 hC.2.1 hC.2.2.2.2.2.2.2.1 (kc_in ci (fk_ci hf)) hC.2.2.2.2.2.2.1 hC.2.2.2.2.2.2.2.2.1.1 hR.1 k (mws_at hT) (kc ci (fk_ci hf)) i (fk_lt hf) (hC.2.2.2.2.2.2.2.1 _ hw) (fun _ q => q) h1 hd (kk p e s m args below meth cd hC H locs ls hR)
theorem z_getr {ix k ci j : Nat} (i : Nat) (hi : fI M pc = some (.getfield ix, 3, nx, tg)) (hT : h.2.2.2.1[k]? = some (0, ci)) (hf : (fk ci)[i]? = some true) (hw : Cond.fieldLink (mY M).cls ix (cF ci i).1 (cF ci i).2.1 (cF ci i).2.2.1 ∈ TT) (hj : h.2.2.1 k i = some j) (kk : Z g M c sl nx L (.ref j :: st) h Q) : Z g M c sl pc L (.ref k :: st) h Q := by
  intro p e s m args below meth cd hC H locs ls hR
  obtain ⟨hd, hn, ht⟩ := fI_ok hC.2.2.2.2.2.2.2.2.2.2.1 hi
  subst hn
  have h1 := mfs_at (g_o g) (h.1 k) (h.2.2.1 k) (fk ci) 0 i true hf
  rw [Nat.zero_add] at h1
  simp only [hj] at h1
  exact va_get hC.1 hC.2.1 hC.2.2.2.2.2.2.2.1 (kc_in ci (fk_ci hf)) hC.2.2.2.2.2.2.1 hC.2.2.2.2.2.2.2.2.1.1 hR.1 k (mws_at hT) (kc ci (fk_ci hf)) i (fk_lt hf) (hC.2.2.2.2.2.2.2.1 _ hw) (fun _ q => q) h1 hd (kk p e s m args below meth cd hC H locs ls hR)
theorem va_S.sz {A : Nat → Prop} {H0 H : Heap} {locs : List Loc} (h : va_S A H0 H locs) : H0.size ≤ H.size := h.1
theorem z_puti {ix k ci : Nat} {x : Int32} (i : Nat) (hi : fI M pc = some (.putfield ix, 3, nx, tg)) (hT : h.2.2.2.1[k]? = some (0, ci)) (hf : (fk ci)[i]? = some false) (hw : Cond.fieldLink (mY M).cls ix (cF ci i).1 (cF ci i).2.1 (cF ci i).2.2.1 ∈ TT) (hfin : (cF ci i).2.2.2 = false) (hx : narrow (cT ci i) (.int x) = .int x) (hb : fits (cT ci i) (.int x) = true) (kk : Z g M c sl nx L st (up2 h.1 k i x, h.2) Q) : Z g M c sl pc L (.int x :: .ref k :: st) h Q := by
  intro p e s m args below meth cd hC H locs ls hR
  obtain ⟨hd, hn, ht⟩ := fI_ok hC.2.2.2.2.2.2.2.2.2.2.1 hi
  subst hn
  obtain ⟨hP, hS, hL, hx'⟩ := hR
  refine va_put hC.1 hC.2.1 hC.2.2.2.2.2.2.2.1 (kc_in ci (fk_ci hf)) (cT ci) (kc_ty ci (fk_ci hf)) (kc_nm ci (fk_ci hf)) hC.2.2.2.2.2.2.1 hC.2.2.2.2.2.2.2.2.1.1 hP mD hS k (mws_at hT) (kc ci (fk_ci hf)) i (fk_lt hf) (hC.2.2.2.2.2.2.2.1 _ hw) (fun _ q => q) hfin (kc_ty ci (fk_ci hf) i (fk_lt hf)) hx hb (by rw [mfs_len]; exact (List.getElem?_eq_some_iff.mp hf).1) hd ?_
  intro H1 locs1 hP1 _ hS1
  refine kk p e s m args below meth cd hC H1 locs1 ls ⟨?_, hS1, hL, hx'⟩
  · rw [mws_set (g := g) (h := h) (h' := (up2 h.1 k i x, h.2)) rfl hT ?_ ?_] at hP1
    · exact hP1
    · show mce g (up2 h.1 k i x, h.2) k (0, ci) = _
      simp only [mce]
      congr 1
      congr 1
      refine (mfs_set (g_o g) (fk ci) 0 i false hf ?_ ?_).symm
      · intro j' hj'
        rw [Nat.zero_add] at hj'
        constructor <;> simp [up2, hj']
      · simp [up2, va_rf, tr]
    · intro j' ct' hj'
      refine mce_cg ?_ ?_ ?_ ct' <;> first | rfl | exact up2_ne _ _ _ _ _ hj'

theorem z_putiF {ix k ci : Nat} {x : Int32} (i : Nat) (hi : fI M pc = some (.putfield ix, 3, nx, tg)) (hT : h.2.2.2.1[k]? = some (0, ci)) (hf : (fk ci)[i]? = some false) (hw : Cond.fieldLink (mY M).cls ix (cF ci i).1 (cF ci i).2.1 (cF ci i).2.2.1 ∈ TT) (hfin : (cF ci i).2.2.2 = true) (hm : (mY M).name = "<init>") (ho : (cF ci i).1 = (mY M).cls) (hx : narrow (cT ci i) (.int x) = .int x) (hb : fits (cT ci i) (.int x) = true) (kk : Z g M c sl nx L st (up2 h.1 k i x, h.2) Q) : Z g M c sl pc L (.int x :: .ref k :: st) h Q := by
  intro p e s m args below meth cd hC H locs ls hR
  obtain ⟨hd, hn, ht⟩ := fI_ok hC.2.2.2.2.2.2.2.2.2.2.1 hi
  subst hn
  obtain ⟨hP, hS, hL, hx'⟩ := hR
  refine va_putF hC.1 hC.2.1 hC.2.2.2.2.2.2.2.1 (kc_in ci (fk_ci hf)) (cT ci) (kc_ty ci (fk_ci hf)) (kc_nm ci (fk_ci hf)) hC.2.2.2.2.2.2.1 hC.2.2.2.2.2.2.2.2.1.1 hP mD hS k (mws_at hT) (kc ci (fk_ci hf)) i (fk_lt hf) (hC.2.2.2.2.2.2.2.1 _ hw) (fun _ q => q) hfin (hC.2.2.2.2.2.1.trans hm) ho (kc_ty ci (fk_ci hf) i (fk_lt hf)) hx hb (by rw [mfs_len]; exact (List.getElem?_eq_some_iff.mp hf).1) hd ?_
  intro H1 locs1 hP1 _ hS1
  refine kk p e s m args below meth cd hC H1 locs1 ls ⟨?_, hS1, hL, hx'⟩
  · rw [mws_set (g := g) (h := h) (h' := (up2 h.1 k i x, h.2)) rfl hT ?_ ?_] at hP1
    · exact hP1
    · show mce g (up2 h.1 k i x, h.2) k (0, ci) = _
      simp only [mce]
      congr 1
      congr 1
      refine (mfs_set (g_o g) (fk ci) 0 i false hf ?_ ?_).symm
      · intro j' hj'
        rw [Nat.zero_add] at hj'
        constructor <;> simp [up2, hj']
      · simp [up2, va_rf, tr]
    · intro j' ct' hj'
      refine mce_cg ?_ ?_ ?_ ct' <;> first | rfl | exact up2_ne _ _ _ _ _ hj'

theorem z_putrF {ix k ci j : Nat} (i : Nat) (hi : fI M pc = some (.putfield ix, 3, nx, tg)) (hT : h.2.2.2.1[k]? = some (0, ci)) (hf : (fk ci)[i]? = some true) (hw : Cond.fieldLink (mY M).cls ix (cF ci i).1 (cF ci i).2.1 (cF ci i).2.2.1 ∈ TT) (hfin : (cF ci i).2.2.2 = true) (hm : (mY M).name = "<init>") (ho : (cF ci i).1 = (mY M).cls) (hr : refKind (cT ci i) = true) (kk : Z g M c sl nx L st (h.1, h.2.1, up2 h.2.2.1 k i (some j), h.2.2.2) Q) : Z g M c sl pc L (.ref j :: .ref k :: st) h Q := by
  intro p e s m args below meth cd hC H locs ls hR
  obtain ⟨hd, hn, ht⟩ := fI_ok hC.2.2.2.2.2.2.2.2.2.2.1 hi
  subst hn
  obtain ⟨hP, hS, hL, hx'⟩ := hR
  refine va_putF hC.1 hC.2.1 hC.2.2.2.2.2.2.2.1 (kc_in ci (fk_ci hf)) (cT ci) (kc_ty ci (fk_ci hf)) (kc_nm ci (fk_ci hf)) hC.2.2.2.2.2.2.1 hC.2.2.2.2.2.2.2.2.1.1 hP mD hS k (mws_at hT) (kc ci (fk_ci hf)) i (fk_lt hf) (hC.2.2.2.2.2.2.2.1 _ hw) (fun _ q => q) hfin (hC.2.2.2.2.2.1.trans hm) ho (kc_ty ci (fk_ci hf) i (fk_lt hf)) (by cases hq : cT ci i <;> first | rfl | (rw [hq] at hr; cases hr)) (by cases hq : cT ci i <;> first | rfl | (rw [hq] at hr; cases hr)) (by rw [mfs_len]; exact (List.getElem?_eq_some_iff.mp hf).1) hd ?_
  intro H1 locs1 hP1 _ hS1
  refine kk p e s m args below meth cd hC H1 locs1 ls ⟨?_, hS1, hL, hx'⟩
  · rw [mws_set (g := g) (h := h) (h' := (h.1, h.2.1, up2 h.2.2.1 k i (some j), h.2.2.2)) rfl hT ?_ ?_] at hP1
    · exact hP1
    · show mce g (h.1, h.2.1, up2 h.2.2.1 k i (some j), h.2.2.2) k (0, ci) = _
      simp only [mce]
      congr 1
      congr 1
      refine (mfs_set (g_o g) (fk ci) 0 i true hf ?_ ?_).symm
      · intro j' hj'
        rw [Nat.zero_add] at hj'
        constructor <;> simp [up2, hj']
      · simp [up2, va_rf, tr]
    · intro j' ct' hj'
      refine mce_cg ?_ ?_ ?_ ct' <;> first | rfl | exact up2_ne _ _ _ _ _ hj'

theorem z_iald {k n : Nat} {i : Int32} (j : Nat) (hi : fI M pc = some (.iaload, 1, nx, tg)) (hT : h.2.2.2.1[k]? = some (1, n)) (hin : vp_in i n) (hj : i.toNatClampNeg = j) (kk : Z g M c sl nx L (.int (h.1 k j) :: st) h Q) : Z g M c sl pc L (.int i :: .ref k :: st) h Q := by
  intro p e s m args below meth cd hC H locs ls hR
  obtain ⟨hd, hn, ht⟩ := fI_ok hC.2.2.2.2.2.2.2.2.2.2.1 hi
  subst hn
  subst hj
  exact va_iald hC.1 hC.2.1 hC.2.2.2.2.2.2.2.2.1.1 hR.1 k 0 (mws_at hT) rfl hin hd (kk p e s m args below meth cd hC H locs ls hR)
theorem z_zald {k n : Nat} {i : Int32} (j : Nat) (hi : fI M pc = some (.baload, 1, nx, tg)) (hT : h.2.2.2.1[k]? = some (2, n)) (hin : vp_in i n) (hj : i.toNatClampNeg = j) (kk : Z g M c sl nx L (.int (h.1 k j) :: st) h Q) : Z g M c sl pc L (.int i :: .ref k :: st) h Q := by
  intro p e s m args below meth cd hC H locs ls hR
  obtain ⟨hd, hn, ht⟩ := fI_ok hC.2.2.2.2.2.2.2.2.2.2.1 hi
  subst hn
  subst hj
  exact va_zald hC.1 hC.2.1 hC.2.2.2.2.2.2.2.2.1.1 hR.1 k 1 (mws_at hT) rfl hin hd (kk p e s m args below meth cd hC H locs ls hR)
theorem z_iast {k n : Nat} {i x : Int32} (j : Nat) (hi : fI M pc = some (.iastore, 1, nx, tg)) (hT : h.2.2.2.1[k]? = some (1, n)) (hin : vp_in i n) (hj : i.toNatClampNeg = j) (kk : Z g M c sl nx L st (up2 h.1 k j x, h.2) Q) : Z g M c sl pc L (.int x :: .int i :: .ref k :: st) h Q := by
  intro p e s m args below meth cd hC H locs ls hR
  obtain ⟨hd, hn, ht⟩ := fI_ok hC.2.2.2.2.2.2.2.2.2.2.1 hi
  subst hn
  subst hj
  obtain ⟨hP, hS, hL, hx'⟩ := hR
  refine va_iast hC.1 hC.2.1 hC.2.2.2.2.2.2.2.2.1.1 hP mD hS k 0 (mws_at hT) rfl hin hd ?_
  intro H1 locs1 hP1 _ hS1
  refine kk p e s m args below meth cd hC H1 locs1 ls ⟨?_, hS1, hL, hx'⟩
  rw [mws_set (g := g) (h := h) (h' := (up2 h.1 k i.toNatClampNeg x, h.2)) rfl hT ?_ ?_] at hP1
  · exact hP1
  · show mce g (up2 h.1 k i.toNatClampNeg x, h.2) k (1, n) = _
    simp only [mce, up2_row]
    rfl
  · intro j' ct' hj'
    refine mce_cg ?_ ?_ ?_ ct' <;> first | rfl | exact up2_ne _ _ _ _ _ hj'
theorem z_zast {k n : Nat} {i x : Int32} (j : Nat) (hi : fI M pc = some (.bastore, 1, nx, tg)) (hT : h.2.2.2.1[k]? = some (2, n)) (hin : vp_in i n) (hj : i.toNatClampNeg = j) (kk : Z g M c sl nx L st (up2 h.1 k j (vp_nar .boolean x), h.2) Q) : Z g M c sl pc L (.int x :: .int i :: .ref k :: st) h Q := by
  intro p e s m args below meth cd hC H locs ls hR
  obtain ⟨hd, hn, ht⟩ := fI_ok hC.2.2.2.2.2.2.2.2.2.2.1 hi
  subst hn
  subst hj
  obtain ⟨hP, hS, hL, hx'⟩ := hR
  refine va_zast hC.1 hC.2.1 hC.2.2.2.2.2.2.2.2.1.1 hP mD hS k 1 (mws_at hT) rfl hin hd ?_
  intro H1 locs1 hP1 _ hS1
  refine kk p e s m args below meth cd hC H1 locs1 ls ⟨?_, hS1, hL, hx'⟩
  rw [mws_set (g := g) (h := h) (h' := (up2 h.1 k i.toNatClampNeg (vp_nar .boolean x), h.2)) rfl hT ?_ ?_] at hP1
  · exact hP1
  · show mce g (up2 h.1 k i.toNatClampNeg (vp_nar .boolean x), h.2) k (2, n) = _
    simp only [mce, up2_row]
    rfl
  · intro j' ct' hj'
    refine mce_cg ?_ ?_ ?_ ct' <;> first | rfl | exact up2_ne _ _ _ _ _ hj'
theorem z_lald {k n : Nat} {i : Int32} (hi : fI M pc = some (.laload, 1, nx, tg)) (hT : h.2.2.2.1[k]? = some (3, n)) (hin : vp_in i n) (kk : Z g M c sl nx L (.long (h.2.1 k i.toNatClampNeg) :: st) h Q) : Z g M c sl pc L (.int i :: .ref k :: st) h Q := by
  intro p e s m args below meth cd hC H locs ls hR
  obtain ⟨hd, hn, ht⟩ := fI_ok hC.2.2.2.2.2.2.2.2.2.2.1 hi
  subst hn
  exact va_lald hC.1 hC.2.1 hC.2.2.2.2.2.2.2.2.1.1 hR.1 k 2 (mws_at hT) rfl hin hd (kk p e s m args below meth cd hC H locs ls hR)
theorem z_last {k n : Nat} {i : Int32} {x : Int64} (hi : fI M pc = some (.lastore, 1, nx, tg)) (hT : h.2.2.2.1[k]? = some (3, n)) (hin : vp_in i n) (kk : Z g M c sl nx L st (h.1, up2 h.2.1 k i.toNatClampNeg x, h.2.2) Q) : Z g M c sl pc L (.long x :: .int i :: .ref k :: st) h Q := by
  intro p e s m args below meth cd hC H locs ls hR
  obtain ⟨hd, hn, ht⟩ := fI_ok hC.2.2.2.2.2.2.2.2.2.2.1 hi
  subst hn
  obtain ⟨hP, hS, hL, hx'⟩ := hR
  refine va_last hC.1 hC.2.1 hC.2.2.2.2.2.2.2.2.1.1 hP mD hS k 2 (mws_at hT) rfl hin hd ?_
  intro H1 locs1 hP1 _ hS1
  refine kk p e s m args below meth cd hC H1 locs1 ls ⟨?_, hS1, hL, hx'⟩
  rw [mws_set (g := g) (h := h) (h' := (h.1, up2 h.2.1 k i.toNatClampNeg x, h.2.2)) rfl hT ?_ ?_] at hP1
  · exact hP1
  · show mce g (h.1, up2 h.2.1 k i.toNatClampNeg x, h.2.2) k (3, n) = _
    simp only [mce, up2_row]
    rfl
  · intro j' ct' hj'
    refine mce_cg ?_ ?_ ?_ ct' <;> first | rfl | exact up2_ne _ _ _ _ _ hj'
theorem z_aaldA {k n j : Nat} {i : Int32} (hi : fI M pc = some (.aaload, 1, nx, tg)) (hT : h.2.2.2.1[k]? = some (4, n)) (hin : vp_in i n) (hj : h.2.2.1 k i.toNatClampNeg = some j) (kk : Z g M c sl nx L (.ref j :: st) h Q) : Z g M c sl pc L (.int i :: .ref k :: st) h Q := by
  intro p e s m args below meth cd hC H locs ls hR
  obtain ⟨hd, hn, ht⟩ := fI_ok hC.2.2.2.2.2.2.2.2.2.2.1 hi
  subst hn
  refine va_aldq hC.1 hC.2.1 hC.2.2.2.2.2.2.2.2.1.1 hR.1 k 3 (mws_at hT) rfl hin hd ?_
  simp only [hj]
  exact kk p e s m args below meth cd hC H locs ls hR
theorem z_aastA {k n j : Nat} {i : Int32} (hi : fI M pc = some (.aastore, 1, nx, tg)) (hT : h.2.2.2.1[k]? = some (4, n)) (hin : vp_in i n) (hj : h.2.2.2.1[j]? = some (0, ciA)) (kk : Z g M c sl nx L st (h.1, h.2.1, up2 h.2.2.1 k i.toNatClampNeg (some j), h.2.2.2) Q) : Z g M c sl pc L (.ref j :: .int i :: .ref k :: st) h Q := by
  intro p e s m args below meth cd hC H locs ls hR
  obtain ⟨hd, hn, ht⟩ := fI_ok hC.2.2.2.2.2.2.2.2.2.2.1 hi
  subst hn
  obtain ⟨hP, hS, hL, hx'⟩ := hR
  refine va_astq hC.1 hC.2.1 hC.2.2.2.2.2.2.2.2.1.1 hP mD hS k 3 j ciA (mws_at hT) rfl (mws_at hj) rfl hin hd ?_
  intro H1 locs1 hP1 _ hS1
  refine kk p e s m args below meth cd hC H1 locs1 ls ⟨?_, hS1, hL, hx'⟩
  rw [mws_set (g := g) (h := h) (h' := (h.1, h.2.1, up2 h.2.2.1 k i.toNatClampNeg (some j), h.2.2.2)) rfl hT ?_ ?_] at hP1
  · exact hP1
  · show mce g (h.1, h.2.1, up2 h.2.2.1 k i.toNatClampNeg (some j), h.2.2.2) k (4, n) = _
    simp only [mce, up2_row]
    congr 7
    funext b
    by_cases hb : b = i.toNatClampNeg <;> simp [va_up, hb]
  · intro j' ct' hj'
    refine mce_cg ?_ ?_ ?_ ct' <;> first | rfl | exact up2_ne _ _ _ _ _ hj'
theorem z_aaldE {k n j : Nat} {i : Int32} (hi : fI M pc = some (.aaload, 1, nx, tg)) (hT : h.2.2.2.1[k]? = some (5, n)) (hin : vp_in i n) (hj : h.2.2.1 k i.toNatClampNeg = some j) (kk : Z g M c sl nx L (.ref j :: st) h Q) : Z g M c sl pc L (.int i :: .ref k :: st) h Q := by
  intro p e s m args below meth cd hC H locs ls hR
  obtain ⟨hd, hn, ht⟩ := fI_ok hC.2.2.2.2.2.2.2.2.2.2.1 hi
  subst hn
  refine va_aldq hC.1 hC.2.1 hC.2.2.2.2.2.2.2.2.1.1 hR.1 k 4 (mws_at hT) rfl hin hd ?_
  simp only [hj]
  exact kk p e s m args below meth cd hC H locs ls hR
theorem z_aastE {k n j : Nat} {i : Int32} (hi : fI M pc = some (.aastore, 1, nx, tg)) (hT : h.2.2.2.1[k]? = some (5, n)) (hin : vp_in i n) (hj : h.2.2.2.1[j]? = some (0, ciE)) (kk : Z g M c sl nx L st (h.1, h.2.1, up2 h.2.2.1 k i.toNatClampNeg (some j), h.2.2.2) Q) : Z g M c sl pc L (.ref j :: .int i :: .ref k :: st) h Q := by
  intro p e s m args below meth cd hC H locs ls hR
  obtain ⟨hd, hn, ht⟩ := fI_ok hC.2.2.2.2.2.2.2.2.2.2.1 hi
  subst hn
  obtain ⟨hP, hS, hL, hx'⟩ := hR
  refine va_astq hC.1 hC.2.1 hC.2.2.2.2.2.2.2.2.1.1 hP mD hS k 4 j ciE (mws_at hT) rfl (mws_at hj) rfl hin hd ?_
  intro H1 locs1 hP1 _ hS1
  refine kk p e s m args below meth cd hC H1 locs1 ls ⟨?_, hS1, hL, hx'⟩
  rw [mws_set (g := g) (h := h) (h' := (h.1, h.2.1, up2 h.2.2.1 k i.toNatClampNeg (some j), h.2.2.2)) rfl hT ?_ ?_] at hP1
  · exact hP1
  · show mce g (h.1, h.2.1, up2 h.2.2.1 k i.toNatClampNeg (some j), h.2.2.2) k (5, n) = _
    simp only [mce, up2_row]
    congr 7
    funext b
    by_cases hb : b = i.toNatClampNeg <;> simp [va_up, hb]
  · intro j' ct' hj'
    refine mce_cg ?_ ?_ ?_ ct' <;> first | rfl | exact up2_ne _ _ _ _ _ hj'
theorem z_aaldI {k n j : Nat} {i : Int32} (hi : fI M pc = some (.aaload, 1, nx, tg)) (hT : h.2.2.2.1[k]? = some (6, n)) (hin : vp_in i n) (hj : h.2.2.1 k i.toNatClampNeg = some j) (kk : Z g M c sl nx L (.ref j :: st) h Q) : Z g M c sl pc L (.int i :: .ref k :: st) h Q := by
  intro p e s m args below meth cd hC H locs ls hR
  obtain ⟨hd, hn, ht⟩ := fI_ok hC.2.2.2.2.2.2.2.2.2.2.1 hi
  subst hn
  refine va_aldq hC.1 hC.2.1 hC.2.2.2.2.2.2.2.2.1.1 hR.1 k 5 (mws_at hT) rfl hin hd ?_
  simp only [hj]
  exact kk p e s m args below meth cd hC H locs ls hR
theorem z_aastI {k n j : Nat} {i : Int32} (hi : fI M pc = some (.aastore, 1, nx, tg)) (hT : h.2.2.2.1[k]? = some (6, n)) (hin : vp_in i n) (hj : h.2.2.2.1[j]? = some (0, ciI)) (kk : Z g M c sl nx L st (h.1, h.2.1, up2 h.2.2.1 k i.toNatClampNeg (some j), h.2.2.2) Q) : Z g M c sl pc L (.ref j :: .int i :: .ref k :: st) h Q := by
  intro p e s m args below meth cd hC H locs ls hR
  obtain ⟨hd, hn, ht⟩ := fI_ok hC.2.2.2.2.2.2.2.2.2.2.1 hi
  subst hn
  obtain ⟨hP, hS, hL, hx'⟩ := hR
  refine va_astq hC.1 hC.2.1 hC.2.2.2.2.2.2.2.2.1.1 hP mD hS k 5 j ciI (mws_at hT) rfl (mws_at hj) rfl hin hd ?_
  intro H1 locs1 hP1 _ hS1
  refine kk p e s m args below meth cd hC H1 locs1 ls ⟨?_, hS1, hL, hx'⟩
  rw [mws_set (g := g) (h := h) (h' := (h.1, h.2.1, up2 h.2.2.1 k i.toNatClampNeg (some j), h.2.2.2)) rfl hT ?_ ?_] at hP1
  · exact hP1
  · show mce g (h.1, h.2.1, up2 h.2.2.1 k i.toNatClampNeg (some j), h.2.2.2) k (6, n) = _
    simp only [mce, up2_row]
    congr 7
    funext b
    by_cases hb : b = i.toNatClampNeg <;> simp [va_up, hb]
  · intro j' ct' hj'
    refine mce_cg ?_ ?_ ?_ ct' <;> first | rfl | exact up2_ne _ _ _ _ _ hj'
theorem z_getsT {ix : Nat} (hi : fI M pc = some (.getstatic ix, 3, nx, tg)) (hw : Cond.fieldLink (mY M).cls ix R_Action "SORTS" "[I" ∈ TT) (kk : Z g M c sl nx L (.retAddr 0 :: st) h Q) : Z g M c sl pc L st h Q := by
  intro p e s m args below meth cd hC H locs ls hR
  obtain ⟨hd, hn, ht⟩ := fI_ok hC.2.2.2.2.2.2.2.2.2.2.1 hi
  subst hn
  exact va_gets hC.1 hC.2.1 hC.2.2.2.2.2.2.2.2.2.1.1 hR.2.1 hC.2.2.2.2.2.2.1 (hC.2.2.2.2.2.2.2.1 _ hw) (fun _ q => q) hd (kk p e s m args below meth cd hC H locs ls hR)
theorem z_ialdT {i : Int32} (hi : fI M pc = some (.iaload, 1, nx, tg)) (hin : vp_in i 40) (kk : Z g M c sl nx L (.int (sortsF i.toNatClampNeg) :: st) h Q) : Z g M c sl pc L (.int i :: .retAddr 0 :: st) h Q := by
  intro p e s m args below meth cd hC H locs ls hR
  obtain ⟨hd, hn, ht⟩ := fI_ok hC.2.2.2.2.2.2.2.2.2.2.1 hi
  subst hn
  exact va_ti hC.1 hC.2.1 hC.2.2.2.2.2.2.2.2.2.1.2.1 hR.2.1 hin rfl hd (kk p e s m args below meth cd hC H locs ls hR)
theorem zA_b {g : Gm} {U : State} {H : Heap} (h : zU g U H) : ¬ zA g (g_b g) := fun q => Nat.not_le_of_lt h.2.2.2.1 q
theorem z_ialdS {i : Int32} {j : Nat} (hi : fI M pc = some (.iaload, 1, nx, tg)) (hin : vp_in i (g_n g)) (kk : Z g M c sl nx L (.int (g_x g i.toNatClampNeg) :: st) h Q) : Z g M c sl pc L (.int i :: .retAddr (j + 1) :: st) h Q := by
  intro p e s m args below meth cd hC H locs ls hR
  obtain ⟨hd, hn, ht⟩ := fI_ok hC.2.2.2.2.2.2.2.2.2.2.1 hi
  subst hn
  have hu := hC.2.2.2.2.2.2.2.2.2.1
  exact va_sld hC.1 hC.2.1 hu.2.2.1 (Nat.lt_of_lt_of_le hu.2.2.2.1 hu.2.2.2.2.1) (zA_b hu) hR.2.1 hin hd (kk p e s m args below meth cd hC H locs ls hR)
theorem z_alenS {j : Nat} (hi : fI M pc = some (.arraylength, 1, nx, tg)) (kk : Z g M c sl nx L (.int (Int32.ofNat (g_n g)) :: st) h Q) : Z g M c sl pc L (.retAddr (j + 1) :: st) h Q := by
  intro p e s m args below meth cd hC H locs ls hR
  obtain ⟨hd, hn, ht⟩ := fI_ok hC.2.2.2.2.2.2.2.2.2.2.1 hi
  subst hn
  have hu := hC.2.2.2.2.2.2.2.2.2.1
  exact va_slen hC.1 hC.2.1 hu.2.2.1 (Nat.lt_of_lt_of_le hu.2.2.2.1 hu.2.2.2.2.1) (zA_b hu) hR.2.1 hd (kk p e s m args below meth cd hC H locs ls hR)
theorem z_iret {x : Int32} (hi : fI M pc = some (.ireturn, 1, nx, tg)) (hr : mR M = some .int) (hc : Nat.ble c (mM M).cells = true) (hs : Nat.ble sl (mM M).slots = true) (hq : Q (.inl (some (.int x))) h) : Z g M c sl pc L [.int x] h Q := by
  intro p e s m args below meth cd hC H locs ls hR
  obtain ⟨hd, hn, ht⟩ := fI_ok hC.2.2.2.2.2.2.2.2.2.2.1 hi
  subst hn
  have hlk := hC.2.2.2.2.1
  refine W.widen (Nat.le_of_ble_eq_true hc) (Nat.le_of_ble_eq_true hs) (W.mono (fun _ => MQ.toX) ?_)
  exact W.iret hC.1 hC.2.1 (hC.2.2.2.1.trans hr) (fun t ht hW => ⟨⟨_, h, hq, rfl, by rw [ht]; exact hR.1⟩, hR.2.1.F ht⟩) hR.2.1.2.2 hd hlk
theorem z_zret {x : Int32} (hi : fI M pc = some (.ireturn, 1, nx, tg)) (hr : mR M = some .boolean) (hx : narrow .boolean (.int x) = .int x) (hc : Nat.ble c (mM M).cells = true) (hs : Nat.ble sl (mM M).slots = true) (hq : Q (.inl (some (.int x))) h) : Z g M c sl pc L [.int x] h Q := by
  intro p e s m args below meth cd hC H locs ls hR
  obtain ⟨hd, hn, ht⟩ := fI_ok hC.2.2.2.2.2.2.2.2.2.2.1 hi
  subst hn
  have hlk := hC.2.2.2.2.1
  refine W.widen (Nat.le_of_ble_eq_true hc) (Nat.le_of_ble_eq_true hs) (W.mono (fun _ => MQ.toX) ?_)
  exact W.zret hC.1 hC.2.1 (hC.2.2.2.1.trans hr) hx (fun t ht hW => ⟨⟨_, h, hq, rfl, by rw [ht]; exact hR.1⟩, hR.2.1.F ht⟩) hR.2.1.2.2 hd hlk
theorem z_lret {x : Int64} (hi : fI M pc = some (.lreturn, 1, nx, tg)) (hr : mR M = some .long) (hc : Nat.ble c (mM M).cells = true) (hs : Nat.ble sl (mM M).slots = true) (hq : Q (.inl (some (.long x))) h) : Z g M c sl pc L [.long x] h Q := by
  intro p e s m args below meth cd hC H locs ls hR
  obtain ⟨hd, hn, ht⟩ := fI_ok hC.2.2.2.2.2.2.2.2.2.2.1 hi
  subst hn
  have hlk := hC.2.2.2.2.1
  refine W.widen (Nat.le_of_ble_eq_true hc) (Nat.le_of_ble_eq_true hs) (W.mono (fun _ => MQ.toX) ?_)
  exact W.lret hC.1 hC.2.1 (hC.2.2.2.1.trans hr) (fun t ht hW => ⟨⟨_, h, hq, rfl, by rw [ht]; exact hR.1⟩, hR.2.1.F ht⟩) hR.2.1.2.2 hd hlk
theorem z_vret (hi : fI M pc = some (.return_, 1, nx, tg)) (hr : mR M = none) (hc : Nat.ble c (mM M).cells = true) (hs : Nat.ble sl (mM M).slots = true) (hq : Q (.inl none) h) : Z g M c sl pc L [] h Q := by
  intro p e s m args below meth cd hC H locs ls hR
  obtain ⟨hd, hn, ht⟩ := fI_ok hC.2.2.2.2.2.2.2.2.2.2.1 hi
  subst hn
  have hlk := hC.2.2.2.2.1
  refine W.widen (Nat.le_of_ble_eq_true hc) (Nat.le_of_ble_eq_true hs) (W.mono (fun _ => MQ.toX) ?_)
  exact W.vret hC.1 hC.2.1 (hC.2.2.2.1.trans hr) (fun t ht hW => ⟨⟨_, h, hq, rfl, by rw [ht]; exact hR.1⟩, hR.2.1.F ht⟩) hR.2.1.2.2 hd hlk
theorem z_aret {C : String} {x : Nat} (hi : fI M pc = some (.areturn, 1, nx, tg)) (hr : mR M = some (.object C)) (hc : Nat.ble c (mM M).cells = true) (hs : Nat.ble sl (mM M).slots = true) (hq : Q (.inl (some (.ref x))) h) : Z g M c sl pc L [.ref x] h Q := by
  intro p e s m args below meth cd hC H locs ls hR
  obtain ⟨hd, hn, ht⟩ := fI_ok hC.2.2.2.2.2.2.2.2.2.2.1 hi
  subst hn
  have hlk := hC.2.2.2.2.1
  refine W.widen (Nat.le_of_ble_eq_true hc) (Nat.le_of_ble_eq_true hs) (W.mono (fun _ => MQ.toX) ?_)
  exact W.aret hC.1 hC.2.1 (hC.2.2.2.1.trans hr) (Or.inl ⟨_, rfl⟩) (Or.inr ⟨_, rfl⟩) (fun t ht hW => ⟨⟨_, h, hq, rfl, by rw [ht]; exact hR.1⟩, hR.2.1.F ht⟩) hR.2.1.2.2 hd hlk
end ZR
