/-- no two of one name, at most 13, names below 24 -/
def Gd (D : List Ob) : Prop := (∀ (i j : Nat) (a b : Ob), D[i]? = some a → D[j]? = some b → a.nm = b.nm → i = j) ∧ D.length ≤ 13 ∧ ∀ (i : Nat) (a : Ob), D[i]? = some a → a.nm < 24
/-- parents stand earlier -/
def Up (D : List Ob) : Prop := ∀ (i : Nat) (m : Ob), D[i]? = some m → m.p = none ∨ ∃ (j : Nat) (g : Ob), j < i ∧ D[j]? = some g ∧ m.p = some g.nm
/-- from k to before e stands what is in the one at k -/
def Blk (D : List Ob) (k e : Nat) : Prop := k < e ∧ e ≤ D.length ∧ (∀ (i : Nat) (m : Ob), k < i → i < e → D[i]? = some m → ∃ (j : Nat) (g : Ob), k ≤ j ∧ j < i ∧ D[j]? = some g ∧ m.p = some g.nm) ∧ (∀ (i : Nat) (m : Ob), (i < k ∨ e ≤ i) → D[i]? = some m → ∀ (j : Nat) (g : Ob), k ≤ j → j < e → D[j]? = some g → m.p ≠ some g.nm)
theorem at_lt {D : List Ob} {i : Nat} {m : Ob} (h : D[i]? = some m) : i < D.length := (List.getElem?_eq_some_iff.mp h).1
theorem at_mem {D : List Ob} {i : Nat} {m : Ob} (h : D[i]? = some m) : m ∈ D := List.mem_of_getElem? h
theorem at_some {D : List Ob} {i : Nat} (h : i < D.length) : ∃ m, D[i]? = some m := ⟨D[i], List.getElem?_eq_getElem h⟩
theorem at_cut {D : List Ob} {i : Nat} {m : Ob} (h : D[i]? = some m) : ∃ a b, D = a ++ m :: b ∧ a.length = i := by
  obtain ⟨h1, h2⟩ := List.getElem?_eq_some_iff.mp h
  refine ⟨D.take i, D.drop (i + 1), ?_, by rw [List.length_take]; omega⟩
  rw [← h2]
  exact (List.take_append_drop i D).symm.trans (by rw [List.drop_eq_getElem_cons h1])
theorem mem_l {A B : List Ob} {m : Ob} (h : m ∈ A) : ∃ j, j < A.length ∧ (A ++ B)[j]? = some m := by
  obtain ⟨j, h1, h2⟩ := List.mem_iff_getElem.mp h
  exact ⟨j, h1, by rw [List.getElem?_append_left h1, List.getElem?_eq_getElem h1, h2]⟩
theorem mem_r {A B : List Ob} {m : Ob} (h : m ∈ B) : ∃ j, A.length ≤ j ∧ (A ++ B)[j]? = some m := by
  obtain ⟨j, h1, h2⟩ := List.mem_iff_getElem.mp h
  exact ⟨A.length + j, by omega, by rw [List.getElem?_append_right (by omega), Nat.add_sub_cancel_left, List.getElem?_eq_getElem h1, h2]⟩
theorem up_of {D : List Ob} (h : Fo none D) : Up D := by
  intro i m hm
  obtain ⟨a, b, he, hl⟩ := at_cut hm
  rcases fo_up h he with h1 | ⟨g, hg, h1⟩
  · exact Or.inl h1
  · obtain ⟨j, hj, hjg⟩ := mem_l (B := m :: b) hg
    exact Or.inr ⟨j, g, by omega, by rw [he]; exact hjg, h1⟩
/-- parents of what stands around a block are not in the block -/
theorem blk_of {D l1 r u1 s1 sub s2 u2 : List Ob} {o : Ob} (hG : Gd D) (he : D = l1 ++ o :: r) (hs : Sp l1 o r u1 s1 sub s2 u2) : Blk D l1.length (l1.length + 1 + sub.length) := by
  obtain ⟨e1, e2, co, f1, f2, bl⟩ := hs
  have heD : D = l1 ++ ((o :: sub) ++ (s2 ++ u2)) := by rw [he, e2]; simp
  have hq : o.p = none ∨ ∃ x, x ∈ u1 ∧ o.p = some x.nm := by
    rcases co_hd co with ⟨h, -⟩ | ⟨x, v, hx, hy⟩
    · exact Or.inl h
    · exact Or.inr ⟨x, by rw [hx]; simp, hy⟩
  have out : ∀ m, (m ∈ l1 ∨ m ∈ s2 ++ u2) → m.p = none ∨ ∃ g, (g ∈ l1 ∨ g ∈ s2 ++ u2) ∧ m.p = some g.nm := by
    intro m hm
    have hsib : m.p = o.p → m.p = none ∨ ∃ g, (g ∈ l1 ∨ g ∈ s2 ++ u2) ∧ m.p = some g.nm := by
      intro h
      rcases hq with h' | ⟨x, hx, h'⟩
      · exact Or.inl (h.trans h')
      · exact Or.inr ⟨x, Or.inl (by rw [e1]; simp [hx]), h.trans h'⟩
    have hctx : (m ∈ u1 ∨ m ∈ u2) → m.p = none ∨ ∃ g, (g ∈ l1 ∨ g ∈ s2 ++ u2) ∧ m.p = some g.nm := by
      intro h
      rcases co_par co h with h' | ⟨x, hx, h'⟩
      · exact Or.inl h'
      · refine Or.inr ⟨x, ?_, h'⟩
        rcases hx with hx | hx
        · exact Or.inl (by rw [e1]; simp [hx])
        · exact Or.inr (by simp [hx])
    rw [e1] at hm
    simp only [List.mem_append] at hm
    rcases hm with (hm | hm) | hm | hm
    · exact hctx (Or.inl hm)
    · rcases fo_par f1 hm with h | ⟨x, hx, h⟩
      · exact hsib h
      · exact Or.inr ⟨x, Or.inl (by rw [e1]; simp [hx]), h⟩
    · rcases fo_par f2 hm with h | ⟨x, hx, h⟩
      · exact hsib h
      · exact Or.inr ⟨x, Or.inr (by simp [hx]), h⟩
    · exact hctx (Or.inr hm)
  have pos : ∀ g, (g ∈ l1 ∨ g ∈ s2 ++ u2) → ∃ j, (j < l1.length ∨ l1.length + 1 + sub.length ≤ j) ∧ D[j]? = some g := by
    intro g hg
    rcases hg with hg | hg
    · obtain ⟨j, h1, h2⟩ := mem_l (B := (o :: sub) ++ (s2 ++ u2)) hg
      exact ⟨j, Or.inl h1, by rw [heD]; exact h2⟩
    · obtain ⟨j, h1, h2⟩ := mem_r (A := l1 ++ (o :: sub)) hg
      refine ⟨j, Or.inr ?_, by rw [heD, ← List.append_assoc]; exact h2⟩
      simp only [List.length_append, List.length_cons] at h1
      omega
  refine ⟨by omega, ?_, ?_, ?_⟩
  · rw [heD]
    simp only [List.length_append, List.length_cons]
    omega
  · intro i m h1 h2 hm
    rw [heD, List.getElem?_append_right (by omega), List.getElem?_append_left (by simp only [List.length_cons]; omega)] at hm
    obtain ⟨i', rfl⟩ : ∃ i', i = l1.length + 1 + i' := ⟨i - l1.length - 1, by omega⟩
    rw [show l1.length + 1 + i' - l1.length = i' + 1 from by omega, List.getElem?_cons_succ] at hm
    rcases bl with ⟨-, hb⟩ | ⟨-, -, hb⟩
    · subst hb
      simp at hm
    · obtain ⟨a, b, hab, hl⟩ := at_cut hm
      rcases fo_up hb hab with h | ⟨g, hg, h⟩
      · exact ⟨l1.length, o, Nat.le_refl _, by omega, by rw [he, List.getElem?_append_right (Nat.le_refl _), Nat.sub_self]; rfl, h⟩
      · obtain ⟨j, hj, hjg⟩ := mem_l (B := m :: b ++ (s2 ++ u2)) hg
        refine ⟨l1.length + 1 + j, g, by omega, by omega, ?_, h⟩
        rw [heD, hab, List.getElem?_append_right (by omega), show l1.length + 1 + j - l1.length = j + 1 from by omega, List.cons_append, List.getElem?_cons_succ, List.append_assoc]
        exact hjg
  · intro i m hi hm j g h1 h2 hg hp
    have hm' : m ∈ l1 ∨ m ∈ s2 ++ u2 := by
      rw [heD] at hm
      rcases hi with hi | hi
      · rw [List.getElem?_append_left hi] at hm
        exact Or.inl (at_mem hm)
      · rw [List.getElem?_append_right (by omega), List.getElem?_append_right (by simp only [List.length_cons]; omega)] at hm
        exact Or.inr (at_mem hm)
    rcases out m hm' with h | ⟨x, hx, h⟩
    · rw [h] at hp; cases hp
    · obtain ⟨j', h3, h4⟩ := pos x hx
      have hnm : x.nm = g.nm := Option.some.inj (h.symm.trans hp)
      have := hG.1 j' j x g h4 hg hnm
      omega
theorem blk_at {D : List Ob} (hF : Fo none D) (hG : Gd D) {k : Nat} {o : Ob} (hk : D[k]? = some o) : ∃ e, Blk D k e := by
  obtain ⟨a, b, he, hl⟩ := at_cut hk
  obtain ⟨u1, s1, sub, s2, u2, hs⟩ := split hF he
  exact ⟨_, hl ▸ blk_of hG he hs⟩
theorem n8 {k c : Nat} (hk : k < 14) (hc : c < 8) : 8 * nI k + nI c = nI (8 * k + c) := by
  have h8 : (8 : Int32) = nI 8 := rfl
  rw [h8]
  unfold nI
  rw [← Int32.ofNat_mul, ← Int32.ofNat_add]
theorem q_in {c N : Nat} (h : c < N) (hN : N < 2 ^ 31) : vp_in (nI c) N := by
  unfold vp_in
  rw [nI_clamp (by omega)]
  have := nI_pos (n := c) (by omega)
  rintro (h1 | h1)
  · exact this h1
  · omega
theorem q_le {a b : Nat} (ha : a < 2 ^ 31) (hb : b < 2 ^ 31) : (nI a ≤ nI b) ↔ a ≤ b := by
  rw [Int32.le_iff_toInt_le, nI_toInt ha, nI_toInt hb]; omega
theorem q_lt {a b : Nat} (ha : a < 2 ^ 31) (hb : b < 2 ^ 31) : (nI a < nI b) ↔ a < b := by
  rw [Int32.lt_iff_toInt_lt, nI_toInt ha, nI_toInt hb]; omega
theorem q_eq {a b : Nat} (ha : a < 2 ^ 31) (hb : b < 2 ^ 31) : (nI a = nI b) ↔ a = b := by
  refine ⟨fun h => ?_, fun h => by rw [h]⟩
  have := congrArg Int32.toInt h
  rw [nI_toInt ha, nI_toInt hb] at this
  omega
theorem q_1 (a : Nat) : nI a + 1 = nI (a + 1) := (nI_succ a).symm
theorem q_m1 (a : Nat) : nI (a + 1) + (-1) = nI a := by
  rw [nI_succ]
  simp [Int32.add_assoc]
theorem q_add (a b : Nat) : nI a + nI b = nI (a + b) := (Int32.ofNat_add a b).symm
theorem q_sub {a b : Nat} (h : b ≤ a) : nI a - nI b = nI (a - b) := by
  have h1 : nI (a - b) + nI b = nI a := by rw [q_add]; congr 1; omega
  rw [← h1, Int32.add_sub_cancel]
theorem q_neg {a : Nat} (ha : a < 2 ^ 31) : ¬ nI a = -1 := by
  intro h
  have := congrArg Int32.toInt h
  rw [nI_toInt ha] at this
  have h2 : (-1 : Int32).toInt = -1 := rfl
  omega
theorem q_ge0 {a : Nat} (ha : a < 2 ^ 31) : 0 ≤ nI a := by
  rw [Int32.le_iff_toInt_le, nI_toInt ha]
  exact Int.natCast_nonneg a
theorem q_nlt0 {a : Nat} (ha : a < 2 ^ 31) : ¬ nI a < 0 := by
  rw [Int32.lt_iff_toInt_lt, nI_toInt ha]
  exact Int.not_lt.mpr (Int.natCast_nonneg a)

theorem vi0 {k : Nat} (hk : k < 14) : vp_in ((8 * nI k) + 0) 112 := by
  rw [show (8 * nI k) + 0 = nI (8 * k + 0) from n8 (c := 0) hk (by omega)]
  exact q_in (by omega) (by omega)
theorem ix0 {k : Nat} (hk : k < 14) : ((8 * nI k) + 0).toNatClampNeg = 8 * k + 0 := by
  rw [show (8 * nI k) + 0 = nI (8 * k + 0) from n8 (c := 0) hk (by omega)]
  exact nI_clamp (by omega)
theorem vi1 {k : Nat} (hk : k < 14) : vp_in ((8 * nI k) + 1) 112 := by
  rw [show (8 * nI k) + 1 = nI (8 * k + 1) from n8 (c := 1) hk (by omega)]
  exact q_in (by omega) (by omega)
theorem ix1 {k : Nat} (hk : k < 14) : ((8 * nI k) + 1).toNatClampNeg = 8 * k + 1 := by
  rw [show (8 * nI k) + 1 = nI (8 * k + 1) from n8 (c := 1) hk (by omega)]
  exact nI_clamp (by omega)
theorem vi2 {k : Nat} (hk : k < 14) : vp_in ((8 * nI k) + 2) 112 := by
  rw [show (8 * nI k) + 2 = nI (8 * k + 2) from n8 (c := 2) hk (by omega)]
  exact q_in (by omega) (by omega)
theorem ix2 {k : Nat} (hk : k < 14) : ((8 * nI k) + 2).toNatClampNeg = 8 * k + 2 := by
  rw [show (8 * nI k) + 2 = nI (8 * k + 2) from n8 (c := 2) hk (by omega)]
  exact nI_clamp (by omega)
theorem vi3 {k : Nat} (hk : k < 14) : vp_in ((8 * nI k) + 3) 112 := by
  rw [show (8 * nI k) + 3 = nI (8 * k + 3) from n8 (c := 3) hk (by omega)]
  exact q_in (by omega) (by omega)
theorem ix3 {k : Nat} (hk : k < 14) : ((8 * nI k) + 3).toNatClampNeg = 8 * k + 3 := by
  rw [show (8 * nI k) + 3 = nI (8 * k + 3) from n8 (c := 3) hk (by omega)]
  exact nI_clamp (by omega)
theorem vi4 {k : Nat} (hk : k < 14) : vp_in ((8 * nI k) + 4) 112 := by
  rw [show (8 * nI k) + 4 = nI (8 * k + 4) from n8 (c := 4) hk (by omega)]
  exact q_in (by omega) (by omega)
theorem ix4 {k : Nat} (hk : k < 14) : ((8 * nI k) + 4).toNatClampNeg = 8 * k + 4 := by
  rw [show (8 * nI k) + 4 = nI (8 * k + 4) from n8 (c := 4) hk (by omega)]
  exact nI_clamp (by omega)
theorem vi5 {k : Nat} (hk : k < 14) : vp_in ((8 * nI k) + 5) 112 := by
  rw [show (8 * nI k) + 5 = nI (8 * k + 5) from n8 (c := 5) hk (by omega)]
  exact q_in (by omega) (by omega)
theorem ix5 {k : Nat} (hk : k < 14) : ((8 * nI k) + 5).toNatClampNeg = 8 * k + 5 := by
  rw [show (8 * nI k) + 5 = nI (8 * k + 5) from n8 (c := 5) hk (by omega)]
  exact nI_clamp (by omega)
theorem vi6 {k : Nat} (hk : k < 14) : vp_in ((8 * nI k) + 6) 112 := by
  rw [show (8 * nI k) + 6 = nI (8 * k + 6) from n8 (c := 6) hk (by omega)]
  exact q_in (by omega) (by omega)
theorem ix6 {k : Nat} (hk : k < 14) : ((8 * nI k) + 6).toNatClampNeg = 8 * k + 6 := by
  rw [show (8 * nI k) + 6 = nI (8 * k + 6) from n8 (c := 6) hk (by omega)]
  exact nI_clamp (by omega)
theorem vi7 {k : Nat} (hk : k < 14) : vp_in ((8 * nI k) + 7) 112 := by
  rw [show (8 * nI k) + 7 = nI (8 * k + 7) from n8 (c := 7) hk (by omega)]
  exact q_in (by omega) (by omega)
theorem ix7 {k : Nat} (hk : k < 14) : ((8 * nI k) + 7).toNatClampNeg = 8 * k + 7 := by
  rw [show (8 * nI k) + 7 = nI (8 * k + 7) from n8 (c := 7) hk (by omega)]
  exact nI_clamp (by omega)
