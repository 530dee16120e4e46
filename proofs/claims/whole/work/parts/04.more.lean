theorem kc_def : ∀ ci : Nat, ci < 8 → ∀ j, j < cN ci → ∀ o : Nat, defaultValue (cT ci j) = vp_V (mfs o (fun _ => 0) (fun _ => none) 0 (fk ci)) j
  | 0, _ => fun j hj o => by
    have hj : j < 6 := hj
    match j, hj with
    | 0, _ => rfl
    | 1, _ => rfl
    | 2, _ => rfl
    | 3, _ => rfl
    | 4, _ => rfl
    | 5, _ => rfl
    | k + 6, h => exact absurd h (by omega)
  | 1, _ => fun j hj o => by
    have hj : j < 3 := hj
    match j, hj with
    | 0, _ => rfl
    | 1, _ => rfl
    | 2, _ => rfl
    | k + 3, h => exact absurd h (by omega)
  | 2, _ => fun j hj o => by
    have hj : j < 5 := hj
    match j, hj with
    | 0, _ => rfl
    | 1, _ => rfl
    | 2, _ => rfl
    | 3, _ => rfl
    | 4, _ => rfl
    | k + 5, h => exact absurd h (by omega)
  | 3, _ => fun j hj o => by
    have hj : j < 4 := hj
    match j, hj with
    | 0, _ => rfl
    | 1, _ => rfl
    | 2, _ => rfl
    | 3, _ => rfl
    | k + 4, h => exact absurd h (by omega)
  | 4, _ => fun j hj o => by
    have hj : j < 3 := hj
    match j, hj with
    | 0, _ => rfl
    | 1, _ => rfl
    | 2, _ => rfl
    | k + 3, h => exact absurd h (by omega)
  | 5, _ => fun j hj o => by
    have hj : j < 8 := hj
    match j, hj with
    | 0, _ => rfl
    | 1, _ => rfl
    | 2, _ => rfl
    | 3, _ => rfl
    | 4, _ => rfl
    | 5, _ => rfl
    | 6, _ => rfl
    | 7, _ => rfl
    | k + 8, h => exact absurd h (by omega)
  | 6, _ => fun j hj o => by
    have hj : j < 4 := hj
    match j, hj with
    | 0, _ => rfl
    | 1, _ => rfl
    | 2, _ => rfl
    | 3, _ => rfl
    | k + 4, h => exact absurd h (by omega)
  | 7, _ => fun j hj o => by
    have hj : j < 19 := hj
    match j, hj with
    | 0, _ => rfl
    | 1, _ => rfl
    | 2, _ => rfl
    | 3, _ => rfl
    | 4, _ => rfl
    | 5, _ => rfl
    | 6, _ => rfl
    | 7, _ => rfl
    | 8, _ => rfl
    | 9, _ => rfl
    | 10, _ => rfl
    | 11, _ => rfl
    | 12, _ => rfl
    | 13, _ => rfl
    | 14, _ => rfl
    | 15, _ => rfl
    | 16, _ => rfl
    | 17, _ => rfl
    | 18, _ => rfl
    | k + 19, h => exact absurd h (by omega)
  | k + 8, h => absurd h (by omega)
/-! The layer Z: calls into the JDK (max, min, abs, arraycopy, Object's constructor), making objects and arrays -/
section ZM
variable {g : Gm} {M : MI} {c sl pc nx tg : Nat} {L : List (Option Value)} {st : List Value} {h : Hp} {Q : Rs → Hp → Prop}
theorem cats (g : Gm) (st : List Value) : ((st.map (tr g)).map fun v => v.category) = st.map Value.category := by
  rw [List.map_map]
  exact List.map_congr_left fun v _ => tr_cat g v
def libOk (M : MI) (st : List Value) (c sl n : Nat) : Bool := Nat.ble 1 (mM M).frames && (Nat.ble ((st.map Value.category).sum + n) (mM M).locals && (Nat.ble c (mM M).cells && Nat.ble sl (mM M).slots))
theorem z_max {ix : Nat} {x y : Int32} (hi : fI M pc = some (.invokestatic ix, 3, nx, tg)) (hl : Cond.methodLink (mY M).cls ix Lib.Math.max.name ∈ TT) (h1 : Cond.static Lib.Math.max.name ∈ TT) (h2 : Cond.initialized "java/lang/Math" ∈ TT) (h3 : Cond.code Lib.Math.max.name Lib.Math.max.code 2 (some .int) ∈ TT) (hb : libOk M st c sl 13 = true)
    (k : Z g M c sl nx L (.int (if x < y then y else x) :: st) h Q) : Z g M c sl pc L (.int y :: .int x :: st) h Q := by
  intro p e s m args below meth cd hC H locs ls hR
  obtain ⟨hd, hn, ht⟩ := fI_ok hC.2.2.2.2.2.2.2.2.2.2.1 hi
  subst hn
  simp only [libOk, Bool.and_eq_true] at hb
  have hts := hC.2.2.2.2.2.2.2.1
  exact va_mmax hC.1 hC.2.1 (hC.2.2.1.trans hR.2.2.1.1.symm) hC.2.2.2.2.2.2.1 (hts _ hl) (hts _ h1) (hts _ h2) (hts _ h3) (Nat.le_of_ble_eq_true hb.1) (by rw [cats]; exact Nat.le_of_ble_eq_true hb.2.1) (Nat.le_of_ble_eq_true hb.2.2.1) (Nat.le_of_ble_eq_true hb.2.2.2) hd (k p e s m args below meth cd hC H locs ls hR)
theorem z_min {ix : Nat} {x y : Int32} (hi : fI M pc = some (.invokestatic ix, 3, nx, tg)) (hl : Cond.methodLink (mY M).cls ix Lib.Math.min.name ∈ TT) (h1 : Cond.static Lib.Math.min.name ∈ TT) (h2 : Cond.initialized "java/lang/Math" ∈ TT) (h3 : Cond.code Lib.Math.min.name Lib.Math.min.code 2 (some .int) ∈ TT) (hb : libOk M st c sl 13 = true)
    (k : Z g M c sl nx L (.int (if y < x then y else x) :: st) h Q) : Z g M c sl pc L (.int y :: .int x :: st) h Q := by
  intro p e s m args below meth cd hC H locs ls hR
  obtain ⟨hd, hn, ht⟩ := fI_ok hC.2.2.2.2.2.2.2.2.2.2.1 hi
  subst hn
  simp only [libOk, Bool.and_eq_true] at hb
  have hts := hC.2.2.2.2.2.2.2.1
  exact va_mmin hC.1 hC.2.1 (hC.2.2.1.trans hR.2.2.1.1.symm) hC.2.2.2.2.2.2.1 (hts _ hl) (hts _ h1) (hts _ h2) (hts _ h3) (Nat.le_of_ble_eq_true hb.1) (by rw [cats]; exact Nat.le_of_ble_eq_true hb.2.1) (Nat.le_of_ble_eq_true hb.2.2.1) (Nat.le_of_ble_eq_true hb.2.2.2) hd (k p e s m args below meth cd hC H locs ls hR)
theorem z_abs {ix : Nat} {x : Int32} (hi : fI M pc = some (.invokestatic ix, 3, nx, tg)) (hl : Cond.methodLink (mY M).cls ix Lib.Math.abs.name ∈ TT) (h1 : Cond.static Lib.Math.abs.name ∈ TT) (h2 : Cond.initialized "java/lang/Math" ∈ TT) (h3 : Cond.code Lib.Math.abs.name Lib.Math.abs.code 1 (some .int) ∈ TT) (hb : libOk M st c sl 13 = true)
    (k : Z g M c sl nx L (.int (if 0 ≤ x then x else 0 - x) :: st) h Q) : Z g M c sl pc L (.int x :: st) h Q := by
  intro p e s m args below meth cd hC H locs ls hR
  obtain ⟨hd, hn, ht⟩ := fI_ok hC.2.2.2.2.2.2.2.2.2.2.1 hi
  subst hn
  simp only [libOk, Bool.and_eq_true] at hb
  have hts := hC.2.2.2.2.2.2.2.1
  exact va_mabs hC.1 hC.2.1 (hC.2.2.1.trans hR.2.2.1.1.symm) hC.2.2.2.2.2.2.1 (hts _ hl) (hts _ h1) (hts _ h2) (hts _ h3) (Nat.le_of_ble_eq_true hb.1) (by rw [cats]; exact Nat.le_of_ble_eq_true hb.2.1) (Nat.le_of_ble_eq_true hb.2.2.1) (Nat.le_of_ble_eq_true hb.2.2.2) hd (k p e s m args below meth cd hC H locs ls hR)
theorem z_objInit {ix k : Nat} (hi : fI M pc = some (.invokespecial ix, 3, nx, tg)) (hl : Cond.methodLink (mY M).cls ix Lib.objectInit ∈ TT) (h1 : Cond.instanceMethod Lib.objectInit ∈ TT) (h2 : Cond.code Lib.objectInit ⟨#[0xb1]⟩ 1 none ∈ TT) (hb : libOk M st c sl 12 = true)
    (kk : Z g M c sl nx L st h Q) : Z g M c sl pc L (.ref k :: st) h Q := by
  intro p e s m args below meth cd hC H locs ls hR
  obtain ⟨hd, hn, ht⟩ := fI_ok hC.2.2.2.2.2.2.2.2.2.2.1 hi
  subst hn
  simp only [libOk, Bool.and_eq_true] at hb
  have hts := hC.2.2.2.2.2.2.2.1
  refine W.objInit hC.1 hC.2.1 hC.2.2.2.2.2.2.1 (hts _ hl) (hts _ h1) (hts _ h2) rfl (hR.2.2.1.1.trans hC.2.2.1.symm) rfl hd (Nat.le_of_ble_eq_true hb.1) ?_ (kk p e s m args below meth cd hC H locs ls hR)
  show 2 * 0 + ((st.map (tr g)).map fun v => v.category).sum + 12 ≤ _
  rw [cats, Nat.mul_zero, Nat.zero_add]
  exact Nat.le_of_ble_eq_true hb.2.1
theorem z_copyi {ix k0 k1 n0 n1 : Nat} {sp dp n : Int32} (hi : fI M pc = some (.invokestatic ix, 3, nx, tg)) (hl : Cond.methodLink (mY M).cls ix arraycopyName ∈ TT) (w1 : Cond.native arraycopyName ∈ TT) (w2 : Cond.static arraycopyName ∈ TT) (w3 : Cond.initialized "java/lang/System" ∈ TT) (hb : libOk M st c sl (nativeFrameWords "java/lang/System" "arraycopy" 5 + 11) = true)
    (hT0 : h.2.2.2.1[k0]? = some (1, n0)) (hT1 : h.2.2.2.1[k1]? = some (1, n1)) (h1 : ¬ sp < 0) (h2 : ¬ dp < 0) (h3 : ¬ n < 0) (h4 : sp.toNatClampNeg + n.toNatClampNeg ≤ n0) (h5 : dp.toNatClampNeg + n.toNatClampNeg ≤ n1)
    (kk : Z g M c sl nx L st (cpy2 h.1 k0 k1 sp.toNatClampNeg dp.toNatClampNeg n.toNatClampNeg, h.2) Q) : Z g M c sl pc L (.int n :: .int dp :: .ref k1 :: .int sp :: .ref k0 :: st) h Q := by
  intro p e s m args below meth cd hC H locs ls hR
  obtain ⟨hd, hn, ht⟩ := fI_ok hC.2.2.2.2.2.2.2.2.2.2.1 hi
  subst hn
  simp only [libOk, Bool.and_eq_true] at hb
  have hts := hC.2.2.2.2.2.2.2.1
  obtain ⟨hP, hS, hL, hx⟩ := hR
  refine va_copyi hC.1 hC.2.1 (hC.2.2.1.trans hL.1.symm) hC.2.2.2.2.2.2.1 (hts _ hl) (hts _ w1) (hts _ w2) (hts _ w3) hC.2.2.2.2.2.2.2.2.1.1 hP mD hS k0 k1 0 0 (mws_at hT0) (mws_at hT1) rfl rfl rfl h1 h2 h3 h4 h5 (fun i _ => rfl) (Nat.le_of_ble_eq_true hb.1) (by rw [cats]; exact Nat.le_of_ble_eq_true hb.2.1) hd ?_
  intro H1 locs1 hP1 _ hS1
  refine kk p e s m args below meth cd hC H1 locs1 ls ⟨?_, hS1, hL, hx⟩
  rw [mws_set (g := g) (h := h) (h' := (cpy2 h.1 k0 k1 sp.toNatClampNeg dp.toNatClampNeg n.toNatClampNeg, h.2)) rfl hT1 ?_ ?_] at hP1
  · exact hP1
  · show mce g (cpy2 h.1 k0 k1 sp.toNatClampNeg dp.toNatClampNeg n.toNatClampNeg, h.2) k1 (1, n1) = _
    simp only [mce, cpy2_row]
  · intro j' ct' hj'
    refine mce_cg ?_ ?_ ?_ ct' <;> first | rfl | exact cpy2_ne _ _ _ _ _ _ _ hj'
/-! making -/
def rs2 {α : Type} (S : Nat → Nat → α) (k : Nat) (f : Nat → α) : Nat → Nat → α := fun a => if a = k then f else S a
def newH (h : Hp) (ct : Nat × Nat) : Hp := (rs2 h.1 h.2.2.2.1.length (fun _ => 0), rs2 h.2.1 h.2.2.2.1.length (fun _ => 0), rs2 h.2.2.1 h.2.2.2.1.length (fun _ => none), h.2.2.2.1 ++ [ct], h.2.2.2.2)
theorem mws_new (g : Gm) (h : Hp) (ct : Nat × Nat) : mws g (newH h ct) = mws g h ++ [(g_o g + h.2.2.2.1.length, mce g (newH h ct) h.2.2.2.1.length ct)] := by
  apply List.ext_getElem?
  intro i
  by_cases hi : i < h.2.2.2.1.length
  · obtain ⟨ct', hc⟩ : ∃ ct', h.2.2.2.1[i]? = some ct' := ⟨_, List.getElem?_eq_getElem hi⟩
    rw [List.getElem?_append_left (by rw [mws_len]; exact hi), mws_at hc, mws_at (h := newH h ct) (ct := ct') (by show (h.2.2.2.1 ++ [ct])[i]? = _; rw [List.getElem?_append_left hi]; exact hc)]
    have hne : i ≠ h.2.2.2.1.length := Nat.ne_of_lt hi
    rw [mce_cg (h := h) (h' := newH h ct) (by simp [newH, rs2, hne]) (by simp [newH, rs2, hne]) (by simp [newH, rs2, hne])]
  · by_cases he : i = h.2.2.2.1.length
    · subst he
      rw [mws_at (h := newH h ct) (ct := ct) (by show (h.2.2.2.1 ++ [ct])[_]? = _; simp), List.getElem?_append_right (by rw [mws_len]; exact Nat.le_refl _), mws_len, Nat.sub_self]
      rfl
    · rw [List.getElem?_eq_none (by rw [mws_len]; show (h.2.2.2.1 ++ [ct]).length ≤ i; simp; omega), List.getElem?_eq_none (by simp [mws_len]; omega)]
/-- where the next cell comes to lie -/
theorem z_at {p : Program} {e : Env} {s : State} {m : MethodId} {args : Array Value} {below : List Frame} {meth : Method} {cd : Code} (hC : Cx g M p s m args meth cd) {locs : List Loc} {ls : Array Slot} {T : State} (hR : Rl g M c h L s T.heap locs ls) (X : Stand p (g_l g) e (mM M) s m args below meth cd T locs c sl) (hx : h.2.2.2.2 = true) : T.heap.size = g_o g + h.2.2.2.1.length := by
  have q1 := hR.2.2.2 hx
  have q2 := X.heapSize
  have q3 := mws_size hR.1 (Nat.le_trans hC.2.2.2.2.2.2.2.2.2.1.2.2.2.2.1 hR.2.1.1)
  omega
theorem va_P.push1 {D : va_G} {cl : List vw_C} {ws : va_W} {H H1 : Heap} {q : Nat × va_E} (hP : va_P D cl ws H) (o1 : ∀ a : Nat, a < H.size → H1[a]? = H[a]?) (he : va_at D cl q H1) : va_P D cl (ws ++ [q]) H1 := by
  refine (hP.kept fun k x hx => o1 x.1 ((hP k x hx).lt)).app (fun k x hx => ?_)
  have hz : k < 1 := (List.getElem?_eq_some_iff.mp hx).1
  rw [show k = 0 by omega] at hx
  cases hx
  exact he
theorem va_S.grow {A : Nat → Prop} {H0 H H1 : Heap} {locs : List Loc} (hS : va_S A H0 H locs) (z1 : H1.size = H.size + 1) (o1 : ∀ a : Nat, a < H.size → H1[a]? = H[a]?) : va_S A H0 H1 locs :=
  ⟨Nat.le_trans hS.1 (by omega), fun x h1 h2 => (o1 x (Nat.lt_of_lt_of_le h1 hS.1)).trans (hS.2.1 x h1 h2), hS.2.2⟩
theorem z_new {ix ci : Nat} (hi : fI M pc = some (.new ix, 3, nx, tg)) (hci : ci < 8) (hw : Cond.classLink (mY M).cls ix (cC ci) ∈ TT) (h1 : Cond.instantiable (cC ci) (cN ci) ∈ TT) (h2 : Cond.initialized (cC ci) ∈ TT) (hx : h.2.2.2.2 = true) (hc : Nat.ble (c + 1) (mM M).cells = true) (hs : Nat.ble (sl + cN ci) (mM M).slots = true)
    (kk : Z g M (c + 1) (sl + cN ci) nx L (.ref h.2.2.2.1.length :: st) (newH h (0, ci)) Q) : Z g M c sl pc L st h Q := by
  intro p e s m args below meth cd hC H locs ls hR T hTH X
  obtain ⟨hd, hn, -⟩ := fI_ok hC.2.2.2.2.2.2.2.2.2.2.1 hi
  subst hn
  subst hTH
  have hsz := z_at hC hR X hx
  obtain ⟨hP, hS, hL, hxx⟩ := hR
  have hts := hC.2.2.2.2.2.2.2.1
  have hKn := hC.2.2.2.2.2.2.2.2.1.1.1 ci _ (kc ci hci)
  have K : W p (g_l g) e (mM M) s m args below meth cd T.heap locs c sl (MX below (QX g Q) args s (mM M).cells (mM M).slots (zA g)) (F0 m pc ls (st.map (tr g))) := by
    refine W.newcK hC.1 hC.2.1 hC.2.2.2.2.2.2.1 (hts _ hw) (hts _ h1) (hts _ h2) rfl hd (Nat.le_of_ble_eq_true hc) (Nat.le_of_ble_eq_true hs) hKn.2.1 hsz (fun H1 kC hkC e1 z1 o1 => ?_)
    rw [← hsz] at z1 o1
    refine kk p e s m args below meth cd hC H1 locs ls ⟨?_, hS.grow z1 o1, hL, fun q => ?_⟩
    · rw [mws_new]
      refine hP.push1 o1 ⟨_, kc ci hci, ?_⟩
      refine (u_born (cT ci) hts (kc_in ci hci) hKn hkC e1 (kc_ty ci hci)).to (fun j hj => ?_)
      show defaultValue (cT ci j) = vp_V (mfs (g_o g) ((newH h (0, ci)).1 h.2.2.2.1.length) ((newH h (0, ci)).2.2.1 h.2.2.2.1.length) 0 (fk ci)) j
      rw [show (newH h (0, ci)).1 h.2.2.2.1.length = fun _ => 0 by simp [newH, rs2], show (newH h (0, ci)).2.2.1 h.2.2.2.1.length = fun _ => none by simp [newH, rs2]]
      exact kc_def ci hci j hj (g_o g)
    · have q1 := hxx hx
      show s.heap.size + (c + 1) = g_o g + (h.2.2.2.1 ++ [(0, ci)]).length
      rw [List.length_append, List.length_singleton]
      omega
  exact K T rfl X
theorem z_newarr {at0 : ArrayType} {kd N : Nat} {n : Int32} (hi : fI M pc = some (.newarray at0, 2, nx, tg)) (ht0 : (at0, kd) = (.int, 1) ∨ (at0, kd) = (.boolean, 2) ∨ (at0, kd) = (.long, 3)) (hw : Cond.arrayClass (newarray.typeOf at0) ∈ TT) (hx : h.2.2.2.2 = true) (hn0 : ¬ n < 0) (hN : n.toNatClampNeg = N) (hN1 : Nat.ble N 1000 = true) (hc : Nat.ble (c + 1) (mM M).cells = true) (hs : Nat.ble (sl + N) (mM M).slots = true)
    (kk : Z g M (c + 1) (sl + N) nx L (.ref h.2.2.2.1.length :: st) (newH h (kd, N)) Q) : Z g M c sl pc L (.int n :: st) h Q := by
  intro p e s m args below meth cd hC H locs ls hR T hTH X
  obtain ⟨hd, hn, -⟩ := fI_ok hC.2.2.2.2.2.2.2.2.2.2.1 hi
  subst hn
  subst hTH
  have hsz := z_at hC hR X hx
  obtain ⟨hP, hS, hL, hxx⟩ := hR
  have hts := hC.2.2.2.2.2.2.2.1
  have hK := hC.2.2.2.2.2.2.2.2.1.1
  have hN2 := Nat.le_of_ble_eq_true hN1
  have hby : N * componentBytes (newarray.typeOf at0) ≤ 536870912 := by
    rcases ht0 with q | q | q <;> cases q <;> (simp only [newarray.typeOf, componentBytes]; omega)
  have K : W p (g_l g) e (mM M) s m args below meth cd T.heap locs c sl (MX below (QX g Q) args s (mM M).cells (mM M).slots (zA g)) (F0 m pc ls (.int n :: st.map (tr g))) := by
    refine va_newaK hC.1 hC.2.1 (hts _ hw) rfl hd rfl hn0 hN hby (Nat.le_of_ble_eq_true hc) (Nat.le_of_ble_eq_true hs) hsz (fun H1 cA e1 z1 o1 _ hNm => ?_)
    rw [← hsz] at z1 o1
    refine kk p e s m args below meth cd hC H1 locs ls ⟨?_, hS.grow z1 o1, hL, fun q => ?_⟩
    · rw [mws_new]
      refine hP.push1 o1 ?_
      rcases ht0 with q | q | q <;> cases q
      · have hA : cA = g_A g 0 := Option.some.inj (hNm.symm.trans (hK.2 0 _ rfl).2)
        subst hA
        show H1[g_o g + h.2.2.2.1.length]? = some (vp_cell (g_A g 0) (N, .inl ((newH h (1, N)).1 h.2.2.2.1.length)))
        rw [e1, vp_cell_i, show (newH h (1, N)).1 h.2.2.2.1.length = fun _ => 0 by simp [newH, rs2]]
        rfl
      · have hA : cA = g_A g 1 := Option.some.inj (hNm.symm.trans (hK.2 1 _ rfl).2)
        subst hA
        show H1[g_o g + h.2.2.2.1.length]? = some (vp_cell (g_A g 1) (N, .inl ((newH h (2, N)).1 h.2.2.2.1.length)))
        rw [e1, vp_cell_i, show (newH h (2, N)).1 h.2.2.2.1.length = fun _ => 0 by simp [newH, rs2]]
        rfl
      · have hA : cA = g_A g 2 := Option.some.inj (hNm.symm.trans (hK.2 2 _ rfl).2)
        subst hA
        show H1[g_o g + h.2.2.2.1.length]? = some (vp_cell (g_A g 2) (N, .inr (.inl ((newH h (3, N)).2.1 h.2.2.2.1.length))))
        rw [e1, vp_cell_l, show (newH h (3, N)).2.1 h.2.2.2.1.length = fun _ => 0 by simp [newH, rs2]]
        rfl
    · have q1 := hxx hx
      show s.heap.size + (c + 1) = g_o g + (h.2.2.2.1 ++ [(kd, N)]).length
      rw [List.length_append, List.length_singleton]
      omega
  exact K T rfl X
theorem z_anew {ix kd N : Nat} {n : Int32} {C : String} (hi : fI M pc = some (.anewarray ix, 3, nx, tg)) (hk : (kd = 4 ∧ C = R_Action) ∨ (kd = 5 ∧ C = R_Edit) ∨ (kd = 6 ∧ C = R_Item)) (hw : Cond.classLink (mY M).cls ix C ∈ TT) (hx : h.2.2.2.2 = true) (hn0 : ¬ n < 0) (hN : n.toNatClampNeg = N) (hN1 : Nat.ble N 1000 = true) (hc : Nat.ble (c + 1) (mM M).cells = true) (hs : Nat.ble (sl + N) (mM M).slots = true)
    (kk : Z g M (c + 1) (sl + N) nx L (.ref h.2.2.2.1.length :: st) (newH h (kd, N)) Q) : Z g M c sl pc L (.int n :: st) h Q := by
  intro p e s m args below meth cd hC H locs ls hR T hTH X
  obtain ⟨hd, hn, -⟩ := fI_ok hC.2.2.2.2.2.2.2.2.2.2.1 hi
  subst hn
  subst hTH
  subst hN
  have hsz := z_at hC hR X hx
  obtain ⟨hP, hS, hL, hxx⟩ := hR
  have hts := hC.2.2.2.2.2.2.2.1
  have hK := hC.2.2.2.2.2.2.2.2.1.1
  have hAO := hC.2.2.2.2.2.2.2.2.1.2.1
  have hN2 := Nat.le_of_ble_eq_true hN1
  have hov : (Cond.arrayOver (.object C)).before args s = true := by
    rcases hk with ⟨-, rfl⟩ | ⟨-, rfl⟩ | ⟨-, rfl⟩
    · exact va_AO.use hAO.1
    · exact va_AO.use hAO.2.1
    · exact va_AO.use hAO.2.2
  have K : W p (g_l g) e (mM M) s m args below meth cd T.heap locs c sl (MX below (QX g Q) args s (mM M).cells (mM M).slots (zA g)) (F0 m pc ls (.int n :: st.map (tr g))) := by
    refine W.anew hC.1 hC.2.1 hC.2.2.2.2.2.2.1 (hts _ hw) hov rfl hd rfl hn0 (by omega) (Nat.le_of_ble_eq_true hc) (Nat.le_of_ble_eq_true hs) (fun cA kA comp f1 f2 f3 f4 => ?_)
    generalize hH1 : T.heap.push ({ cls := cA, slots := Array.replicate n.toNatClampNeg .null, vm := .none } : Cell) = H1
    have z1 : H1.size = T.heap.size + 1 := by rw [← hH1, Array.size_push]
    have e1 : H1[T.heap.size]? = some (arrV cA n.toNatClampNeg (fun _ => .null)) := by rw [← hH1, Array.getElem?_push_size, ← arrV_new]
    have o1 : ∀ q : Nat, q < T.heap.size → H1[q]? = T.heap[q]? := fun q hq => by rw [← hH1, Array.getElem?_push, if_neg (Nat.ne_of_lt hq)]
    rw [hsz] at e1 ⊢
    refine kk p e s m args below meth cd hC H1 locs ls ⟨?_, hS.grow z1 o1, hL, fun q => ?_⟩
    · rw [mws_new]
      refine hP.push1 o1 ?_
      have hrow : ∀ kd', (newH h (kd', n.toNatClampNeg)).2.2.1 h.2.2.2.1.length = fun _ => none := fun kd' => by simp [newH, rs2]
      rcases hk with ⟨rfl, rfl⟩ | ⟨rfl, rfl⟩ | ⟨rfl, rfl⟩
      · obtain ⟨_, _, _, _, _, hNm⟩ := (hK.2 3 _ rfl).2
        have hA : cA = g_A g 3 := Option.some.inj (f1.symm.trans hNm)
        subst hA
        show H1[g_o g + h.2.2.2.1.length]? = some (vp_cell (g_A g 3) (n.toNatClampNeg, .inr (.inr (.inr (.inr (fun i => ((newH h (4, n.toNatClampNeg)).2.2.1 h.2.2.2.1.length i).map (g_o g + ·)))))))
        rw [e1, vp_cell_q, hrow]
        rfl
      · obtain ⟨_, _, _, _, _, hNm⟩ := (hK.2 4 _ rfl).2
        have hA : cA = g_A g 4 := Option.some.inj (f1.symm.trans hNm)
        subst hA
        show H1[g_o g + h.2.2.2.1.length]? = some (vp_cell (g_A g 4) (n.toNatClampNeg, .inr (.inr (.inr (.inr (fun i => ((newH h (5, n.toNatClampNeg)).2.2.1 h.2.2.2.1.length i).map (g_o g + ·)))))))
        rw [e1, vp_cell_q, hrow]
        rfl
      · obtain ⟨_, _, _, _, _, hNm⟩ := (hK.2 5 _ rfl).2
        have hA : cA = g_A g 5 := Option.some.inj (f1.symm.trans hNm)
        subst hA
        show H1[g_o g + h.2.2.2.1.length]? = some (vp_cell (g_A g 5) (n.toNatClampNeg, .inr (.inr (.inr (.inr (fun i => ((newH h (6, n.toNatClampNeg)).2.2.1 h.2.2.2.1.length i).map (g_o g + ·)))))))
        rw [e1, vp_cell_q, hrow]
        rfl
    · have q1 := hxx hx
      show s.heap.size + (c + 1) = g_o g + (h.2.2.2.1 ++ [(kd, n.toNatClampNeg)]).length
      rw [List.length_append, List.length_singleton]
      omega
  exact K T rfl X
/-- nothing more will be made: the places of new cells need no longer be known -/
theorem z_froz (k : Z g M c sl pc L st (h.1, h.2.1, h.2.2.1, h.2.2.2.1, false) Q) : Z g M c sl pc L st h Q := by
  intro p e s m args below meth cd hC H locs ls hR
  exact k p e s m args below meth cd hC H locs ls ⟨hR.1, hR.2.1, hR.2.2.1, fun q => by cases q⟩
end ZM
/-! calls by kind of answer, where nothing is made: the rest G of the picture stays -/
def Qi (G : Gp) (post : Int32 → Mem → Prop) (ex : Nat → Mem → Prop) : Rs → Hp → Prop := fun r h => (∃ (x : Int32) (S : Mem), r = .inl (some (.int x)) ∧ h = (S, G) ∧ post x S) ∨ ∃ (n : Nat) (S : Mem), r = .inr n ∧ h = (S, G) ∧ ex n S
def Ql (G : Gp) (post : Int64 → Mem → Prop) (ex : Nat → Mem → Prop) : Rs → Hp → Prop := fun r h => (∃ (x : Int64) (S : Mem), r = .inl (some (.long x)) ∧ h = (S, G) ∧ post x S) ∨ ∃ (n : Nat) (S : Mem), r = .inr n ∧ h = (S, G) ∧ ex n S
def Qr (G : Gp) (post : Nat → Mem → Prop) (ex : Nat → Mem → Prop) : Rs → Hp → Prop := fun r h => (∃ (x : Nat) (S : Mem), r = .inl (some (.ref x)) ∧ h = (S, G) ∧ post x S) ∨ ∃ (n : Nat) (S : Mem), r = .inr n ∧ h = (S, G) ∧ ex n S
def Qv (G : Gp) (post : Mem → Prop) (ex : Nat → Mem → Prop) : Rs → Hp → Prop := fun r h => (∃ S : Mem, r = .inl none ∧ h = (S, G) ∧ post S) ∨ ∃ (n : Nat) (S : Mem), r = .inr n ∧ h = (S, G) ∧ ex n S
abbrev noEx : Nat → Mem → Prop := fun _ _ => False
/-- what an instance method, a static method must have to be called -/
def CV (M : MI) (n : Nat) : Prop := CO M ∧ Cond.instanceMethod (mY M) ∈ TT ∧ Cond.selects (mY M).cls (mY M) (mY M) ∈ TT ∧ (parseMethodDescriptor (mY M).desc).map (fun d => d.parameters.length) = some n
def CS (M : MI) (n : Nat) : Prop := CO M ∧ Cond.static (mY M) ∈ TT ∧ (parseMethodDescriptor (mY M).desc).map (fun d => d.parameters.length) = some n
section ZK
variable {g : Gm} {M : MI} {c sl pc nx tg : Nat} {L : List (Option Value)} {st : List Value} {S : Mem} {G : Gp} {Q : Rs → Hp → Prop}
theorem z_cvi {M' : MI} {ix k ci : Nat} {post : Int32 → Mem → Prop} {ex : Nat → Mem → Prop} (as : List Value) (hx : G.2.2.2 = false) (hi : fI M pc = some (.invokevirtual ix, 3, nx, tg)) (hl : Cond.methodLink (mY M).cls ix (mY M') ∈ TT) (hV : CV M' as.length) (hT : G.2.2.1[k]? = some (0, ci)) (hci : ci < 8) (hcc : cC ci = (mY M').cls)
    (hlen : Nat.ble (entL (.ref k :: as)).length (mL M') = true) (hrm : rmOk M M' c sl = true) (hst : Nat.ble (st.map Value.category).sum 8 = true)
    (callee : Z g M' 0 0 0 (entryL (.ref k :: as) (mL M')) [] (S, G) (Qi G post ex)) (kr : ∀ (x : Int32) (S' : Mem), post x S' → Z g M (c + (mM M').cells) (sl + (mM M').slots) nx L (.int x :: st) (S', G) Q) (kt : ∀ (n : Nat) (S' : Mem), ex n S' → mX M = [] ∧ Q (.inr n) (S', G)) : Z g M c sl pc L (as.reverse ++ .ref k :: st) (S, G) Q :=
  z_cv as hi hl hV.1 hV.2.1 hV.2.2.1 hV.2.2.2 hT hci hcc hlen hrm hst callee
    (by
      rintro r h' (⟨x, S', -, rfl, -⟩ | ⟨n, S', -, rfl, -⟩) hq <;> exact absurd (hx.symm.trans hq) (by decide))
    (by
      rintro v h' (⟨x, S', hv, rfl, hp⟩ | ⟨n, S', hv, -, -⟩)
      · cases hv
        exact kr x S' hp
      · cases hv)
    (by
      rintro n h' (⟨x, S', hv, -, -⟩ | ⟨n', S', hv, rfl, hp⟩)
      · cases hv
      · cases hv
        exact kt n S' hp)
theorem z_csi {M' : MI} {ix : Nat} {post : Int32 → Mem → Prop} {ex : Nat → Mem → Prop} (as : List Value) (hx : G.2.2.2 = false) (hi : fI M pc = some (.invokestatic ix, 3, nx, tg)) (hl : Cond.methodLink (mY M).cls ix (mY M') ∈ TT) (hV : CS M' as.length)
    (hlen : Nat.ble (entL as).length (mL M') = true) (hrm : rmOk M M' c sl = true) (hst : Nat.ble (st.map Value.category).sum 8 = true)
    (callee : Z g M' 0 0 0 (entryL as (mL M')) [] (S, G) (Qi G post ex)) (kr : ∀ (x : Int32) (S' : Mem), post x S' → Z g M (c + (mM M').cells) (sl + (mM M').slots) nx L (.int x :: st) (S', G) Q) (kt : ∀ (n : Nat) (S' : Mem), ex n S' → mX M = [] ∧ Q (.inr n) (S', G)) : Z g M c sl pc L (as.reverse ++ st) (S, G) Q :=
  z_cs as hi hl hV.1 hV.2.1 hV.2.2 hlen hrm hst callee
    (by
      rintro r h' (⟨x, S', -, rfl, -⟩ | ⟨n, S', -, rfl, -⟩) hq <;> exact absurd (hx.symm.trans hq) (by decide))
    (by
      rintro v h' (⟨x, S', hv, rfl, hp⟩ | ⟨n, S', hv, -, -⟩)
      · cases hv
        exact kr x S' hp
      · cases hv)
    (by
      rintro n h' (⟨x, S', hv, -, -⟩ | ⟨n', S', hv, rfl, hp⟩)
      · cases hv
      · cases hv
        exact kt n S' hp)
theorem z_cvl {M' : MI} {ix k ci : Nat} {post : Int64 → Mem → Prop} {ex : Nat → Mem → Prop} (as : List Value) (hx : G.2.2.2 = false) (hi : fI M pc = some (.invokevirtual ix, 3, nx, tg)) (hl : Cond.methodLink (mY M).cls ix (mY M') ∈ TT) (hV : CV M' as.length) (hT : G.2.2.1[k]? = some (0, ci)) (hci : ci < 8) (hcc : cC ci = (mY M').cls)
    (hlen : Nat.ble (entL (.ref k :: as)).length (mL M') = true) (hrm : rmOk M M' c sl = true) (hst : Nat.ble (st.map Value.category).sum 8 = true)
    (callee : Z g M' 0 0 0 (entryL (.ref k :: as) (mL M')) [] (S, G) (Ql G post ex)) (kr : ∀ (x : Int64) (S' : Mem), post x S' → Z g M (c + (mM M').cells) (sl + (mM M').slots) nx L (.long x :: st) (S', G) Q) (kt : ∀ (n : Nat) (S' : Mem), ex n S' → mX M = [] ∧ Q (.inr n) (S', G)) : Z g M c sl pc L (as.reverse ++ .ref k :: st) (S, G) Q :=
  z_cv as hi hl hV.1 hV.2.1 hV.2.2.1 hV.2.2.2 hT hci hcc hlen hrm hst callee
    (by
      rintro r h' (⟨x, S', -, rfl, -⟩ | ⟨n, S', -, rfl, -⟩) hq <;> exact absurd (hx.symm.trans hq) (by decide))
    (by
      rintro v h' (⟨x, S', hv, rfl, hp⟩ | ⟨n, S', hv, -, -⟩)
      · cases hv
        exact kr x S' hp
      · cases hv)
    (by
      rintro n h' (⟨x, S', hv, -, -⟩ | ⟨n', S', hv, rfl, hp⟩)
      · cases hv
      · cases hv
        exact kt n S' hp)
theorem z_csl {M' : MI} {ix : Nat} {post : Int64 → Mem → Prop} {ex : Nat → Mem → Prop} (as : List Value) (hx : G.2.2.2 = false) (hi : fI M pc = some (.invokestatic ix, 3, nx, tg)) (hl : Cond.methodLink (mY M).cls ix (mY M') ∈ TT) (hV : CS M' as.length)
    (hlen : Nat.ble (entL as).length (mL M') = true) (hrm : rmOk M M' c sl = true) (hst : Nat.ble (st.map Value.category).sum 8 = true)
    (callee : Z g M' 0 0 0 (entryL as (mL M')) [] (S, G) (Ql G post ex)) (kr : ∀ (x : Int64) (S' : Mem), post x S' → Z g M (c + (mM M').cells) (sl + (mM M').slots) nx L (.long x :: st) (S', G) Q) (kt : ∀ (n : Nat) (S' : Mem), ex n S' → mX M = [] ∧ Q (.inr n) (S', G)) : Z g M c sl pc L (as.reverse ++ st) (S, G) Q :=
  z_cs as hi hl hV.1 hV.2.1 hV.2.2 hlen hrm hst callee
    (by
      rintro r h' (⟨x, S', -, rfl, -⟩ | ⟨n, S', -, rfl, -⟩) hq <;> exact absurd (hx.symm.trans hq) (by decide))
    (by
      rintro v h' (⟨x, S', hv, rfl, hp⟩ | ⟨n, S', hv, -, -⟩)
      · cases hv
        exact kr x S' hp
      · cases hv)
    (by
      rintro n h' (⟨x, S', hv, -, -⟩ | ⟨n', S', hv, rfl, hp⟩)
      · cases hv
      · cases hv
        exact kt n S' hp)
theorem z_cvr {M' : MI} {ix k ci : Nat} {post : Nat → Mem → Prop} {ex : Nat → Mem → Prop} (as : List Value) (hx : G.2.2.2 = false) (hi : fI M pc = some (.invokevirtual ix, 3, nx, tg)) (hl : Cond.methodLink (mY M).cls ix (mY M') ∈ TT) (hV : CV M' as.length) (hT : G.2.2.1[k]? = some (0, ci)) (hci : ci < 8) (hcc : cC ci = (mY M').cls)
    (hlen : Nat.ble (entL (.ref k :: as)).length (mL M') = true) (hrm : rmOk M M' c sl = true) (hst : Nat.ble (st.map Value.category).sum 8 = true)
    (callee : Z g M' 0 0 0 (entryL (.ref k :: as) (mL M')) [] (S, G) (Qr G post ex)) (kr : ∀ (x : Nat) (S' : Mem), post x S' → Z g M (c + (mM M').cells) (sl + (mM M').slots) nx L (.ref x :: st) (S', G) Q) (kt : ∀ (n : Nat) (S' : Mem), ex n S' → mX M = [] ∧ Q (.inr n) (S', G)) : Z g M c sl pc L (as.reverse ++ .ref k :: st) (S, G) Q :=
  z_cv as hi hl hV.1 hV.2.1 hV.2.2.1 hV.2.2.2 hT hci hcc hlen hrm hst callee
    (by
      rintro r h' (⟨x, S', -, rfl, -⟩ | ⟨n, S', -, rfl, -⟩) hq <;> exact absurd (hx.symm.trans hq) (by decide))
    (by
      rintro v h' (⟨x, S', hv, rfl, hp⟩ | ⟨n, S', hv, -, -⟩)
      · cases hv
        exact kr x S' hp
      · cases hv)
    (by
      rintro n h' (⟨x, S', hv, -, -⟩ | ⟨n', S', hv, rfl, hp⟩)
      · cases hv
      · cases hv
        exact kt n S' hp)
theorem z_csr {M' : MI} {ix : Nat} {post : Nat → Mem → Prop} {ex : Nat → Mem → Prop} (as : List Value) (hx : G.2.2.2 = false) (hi : fI M pc = some (.invokestatic ix, 3, nx, tg)) (hl : Cond.methodLink (mY M).cls ix (mY M') ∈ TT) (hV : CS M' as.length)
    (hlen : Nat.ble (entL as).length (mL M') = true) (hrm : rmOk M M' c sl = true) (hst : Nat.ble (st.map Value.category).sum 8 = true)
    (callee : Z g M' 0 0 0 (entryL as (mL M')) [] (S, G) (Qr G post ex)) (kr : ∀ (x : Nat) (S' : Mem), post x S' → Z g M (c + (mM M').cells) (sl + (mM M').slots) nx L (.ref x :: st) (S', G) Q) (kt : ∀ (n : Nat) (S' : Mem), ex n S' → mX M = [] ∧ Q (.inr n) (S', G)) : Z g M c sl pc L (as.reverse ++ st) (S, G) Q :=
  z_cs as hi hl hV.1 hV.2.1 hV.2.2 hlen hrm hst callee
    (by
      rintro r h' (⟨x, S', -, rfl, -⟩ | ⟨n, S', -, rfl, -⟩) hq <;> exact absurd (hx.symm.trans hq) (by decide))
    (by
      rintro v h' (⟨x, S', hv, rfl, hp⟩ | ⟨n, S', hv, -, -⟩)
      · cases hv
        exact kr x S' hp
      · cases hv)
    (by
      rintro n h' (⟨x, S', hv, -, -⟩ | ⟨n', S', hv, rfl, hp⟩)
      · cases hv
      · cases hv
        exact kt n S' hp)
theorem z_cvv {M' : MI} {ix k ci : Nat} {post : Mem → Prop} {ex : Nat → Mem → Prop} (as : List Value) (hx : G.2.2.2 = false) (hi : fI M pc = some (.invokevirtual ix, 3, nx, tg)) (hl : Cond.methodLink (mY M).cls ix (mY M') ∈ TT) (hV : CV M' as.length) (hT : G.2.2.1[k]? = some (0, ci)) (hci : ci < 8) (hcc : cC ci = (mY M').cls)
    (hlen : Nat.ble (entL (.ref k :: as)).length (mL M') = true) (hrm : rmOk M M' c sl = true) (hst : Nat.ble (st.map Value.category).sum 8 = true)
    (callee : Z g M' 0 0 0 (entryL (.ref k :: as) (mL M')) [] (S, G) (Qv G post ex)) (kr : ∀ S' : Mem, post S' → Z g M (c + (mM M').cells) (sl + (mM M').slots) nx L st (S', G) Q) (kt : ∀ (n : Nat) (S' : Mem), ex n S' → mX M = [] ∧ Q (.inr n) (S', G)) : Z g M c sl pc L (as.reverse ++ .ref k :: st) (S, G) Q :=
  z_cv as hi hl hV.1 hV.2.1 hV.2.2.1 hV.2.2.2 hT hci hcc hlen hrm hst callee
    (by
      rintro r h' (⟨S', -, rfl, -⟩ | ⟨n, S', -, rfl, -⟩) hq <;> exact absurd (hx.symm.trans hq) (by decide))
    (by
      rintro v h' (⟨S', hv, rfl, hp⟩ | ⟨n, S', hv, -, -⟩)
      · cases hv
        exact kr S' hp
      · cases hv)
    (by
      rintro n h' (⟨S', hv, -, -⟩ | ⟨n', S', hv, rfl, hp⟩)
      · cases hv
      · cases hv
        exact kt n S' hp)
theorem z_csv {M' : MI} {ix : Nat} {post : Mem → Prop} {ex : Nat → Mem → Prop} (as : List Value) (hx : G.2.2.2 = false) (hi : fI M pc = some (.invokestatic ix, 3, nx, tg)) (hl : Cond.methodLink (mY M).cls ix (mY M') ∈ TT) (hV : CS M' as.length)
    (hlen : Nat.ble (entL as).length (mL M') = true) (hrm : rmOk M M' c sl = true) (hst : Nat.ble (st.map Value.category).sum 8 = true)
    (callee : Z g M' 0 0 0 (entryL as (mL M')) [] (S, G) (Qv G post ex)) (kr : ∀ S' : Mem, post S' → Z g M (c + (mM M').cells) (sl + (mM M').slots) nx L st (S', G) Q) (kt : ∀ (n : Nat) (S' : Mem), ex n S' → mX M = [] ∧ Q (.inr n) (S', G)) : Z g M c sl pc L (as.reverse ++ st) (S, G) Q :=
  z_cs as hi hl hV.1 hV.2.1 hV.2.2 hlen hrm hst callee
    (by
      rintro r h' (⟨S', -, rfl, -⟩ | ⟨n, S', -, rfl, -⟩) hq <;> exact absurd (hx.symm.trans hq) (by decide))
    (by
      rintro v h' (⟨S', hv, rfl, hp⟩ | ⟨n, S', hv, -, -⟩)
      · cases hv
        exact kr S' hp
      · cases hv)
    (by
      rintro n h' (⟨S', hv, -, -⟩ | ⟨n', S', hv, rfl, hp⟩)
      · cases hv
      · cases hv
        exact kt n S' hp)
end ZK
