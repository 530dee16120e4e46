theorem co_inv {q : Option Nat} {u1 u2 : List Ob} (h : Co q u1 u2) : (q = none ∧ u1 = [] ∧ u2 = []) ∨ ∃ (g : Ob) (v1 l1 l2 v2 : List Ob), q = some g.nm ∧ u1 = v1 ++ (l1 ++ [g]) ∧ u2 = l2 ++ v2 ∧ g.fm = 3 ∧ Co g.p v1 v2 ∧ Fo g.p l1 ∧ Fo g.p l2 := by
  refine Co.ind (M := fun q u1 u2 => (q = none ∧ u1 = [] ∧ u2 = []) ∨ ∃ (g : Ob) (v1 l1 l2 v2 : List Ob), q = some g.nm ∧ u1 = v1 ++ (l1 ++ [g]) ∧ u2 = l2 ++ v2 ∧ g.fm = 3 ∧ Co g.p v1 v2 ∧ Fo g.p l1 ∧ Fo g.p l2) ?_ ?_ h
  · exact Or.inl ⟨rfl, rfl, rfl⟩
  · intro g v1 l1 l2 v2 h1 h2 h3 h4 _
    exact Or.inr ⟨g, v1, l1, l2, v2, rfl, rfl, rfl, h4, h1, h2, h3⟩
theorem gd_iff {D : List Ob} : Gd D ↔ (D.map Ob.nm).Nodup ∧ D.length ≤ 13 ∧ ∀ o ∈ D, o.nm < 24 := by
  constructor
  · rintro ⟨h1, h2, h3⟩
    refine ⟨?_, h2, fun o ho => ?_⟩
    · unfold List.Nodup
      rw [List.pairwise_iff_getElem]
      intro i j hi hj hij h
      rw [List.getElem_map, List.getElem_map] at h
      rw [List.length_map] at hi hj
      have := h1 i j _ _ (List.getElem?_eq_getElem hi) (List.getElem?_eq_getElem hj) h
      omega
    · obtain ⟨i, h4, h5⟩ := List.mem_iff_getElem.mp ho
      exact h3 i o (by rw [List.getElem?_eq_getElem h4, h5])
  · rintro ⟨h1, h2, h3⟩
    refine ⟨fun i j a b ha hb hab => ?_, h2, fun i a ha => h3 a (at_mem ha)⟩
    unfold List.Nodup at h1
    rw [List.pairwise_iff_getElem] at h1
    obtain ⟨la, ea⟩ := List.getElem?_eq_some_iff.mp ha
    obtain ⟨lb, eb⟩ := List.getElem?_eq_some_iff.mp hb
    rcases Nat.lt_trichotomy i j with h | h | h
    · refine absurd ?_ (h1 i j (by rw [List.length_map]; exact la) (by rw [List.length_map]; exact lb) h)
      rw [List.getElem_map, List.getElem_map, ea, eb, hab]
    · exact h
    · refine absurd ?_ (h1 j i (by rw [List.length_map]; exact lb) (by rw [List.length_map]; exact la) h)
      rw [List.getElem_map, List.getElem_map, ea, eb, hab]
theorem gd_perm {D D' : List Ob} (hp : D'.Perm D) (h : Gd D) : Gd D' := by
  rw [gd_iff] at h ⊢
  refine ⟨(hp.map _).nodup_iff.mpr h.1, by rw [hp.length_eq]; exact h.2.1, fun o ho => h.2.2 o (hp.mem_iff.mp ho)⟩
theorem gd_sub {D D' : List Ob} (hp : D'.Sublist D) (h : Gd D) : Gd D' := by
  rw [gd_iff] at h ⊢
  refine ⟨h.1.sublist (hp.map _), Nat.le_trans hp.length_le h.2.1, fun o ho => h.2.2 o (hp.subset ho)⟩
theorem gd_names {D D' : List Ob} (hp : D'.map Ob.nm = D.map Ob.nm) (h : Gd D) : Gd D' := by
  rw [gd_iff] at h ⊢
  have hl : D'.length = D.length := by
    have := congrArg List.length hp
    rwa [List.length_map, List.length_map] at this
  refine ⟨hp ▸ h.1, by omega, fun o ho => ?_⟩
  have : o.nm ∈ D.map Ob.nm := hp ▸ List.mem_map_of_mem ho
  obtain ⟨x, hx, he⟩ := List.mem_map.mp this
  rw [← he]
  exact h.2.2 x hx
/-- the block of an object, out of what stands around -/
theorem blk_co {u1 s1 sub s2 u2 : List Ob} {o : Ob} (hG : Gd (u1 ++ (s1 ++ (o :: (sub ++ (s2 ++ u2)))))) (co : Co o.p u1 u2) (f1 : Fo o.p s1) (f2 : Fo o.p s2) (hb : Fo (some o.nm) sub) : Blk (u1 ++ (s1 ++ (o :: (sub ++ (s2 ++ u2))))) (u1.length + s1.length) (u1.length + s1.length + 1 + sub.length) := by
  have heD : u1 ++ (s1 ++ (o :: (sub ++ (s2 ++ u2)))) = (u1 ++ s1) ++ ((o :: sub) ++ (s2 ++ u2)) := by simp
  have hlen : (u1 ++ s1).length = u1.length + s1.length := List.length_append
  generalize hD : u1 ++ (s1 ++ (o :: (sub ++ (s2 ++ u2)))) = D at hG heD ⊢
  have hq : o.p = none ∨ ∃ x, x ∈ u1 ∧ o.p = some x.nm := by
    rcases co_hd co with ⟨h, -⟩ | ⟨x, v, hx, hy⟩
    · exact Or.inl h
    · exact Or.inr ⟨x, by rw [hx]; simp, hy⟩
  have out : ∀ m, (m ∈ u1 ++ s1 ∨ m ∈ s2 ++ u2) → m.p = none ∨ ∃ g, (g ∈ u1 ++ s1 ∨ g ∈ s2 ++ u2) ∧ m.p = some g.nm := by
    intro m hm
    have hsib : m.p = o.p → m.p = none ∨ ∃ g, (g ∈ u1 ++ s1 ∨ g ∈ s2 ++ u2) ∧ m.p = some g.nm := by
      intro h
      rcases hq with h' | ⟨x, hx, h'⟩
      · exact Or.inl (h.trans h')
      · exact Or.inr ⟨x, Or.inl (by simp [hx]), h.trans h'⟩
    have hctx : (m ∈ u1 ∨ m ∈ u2) → m.p = none ∨ ∃ g, (g ∈ u1 ++ s1 ∨ g ∈ s2 ++ u2) ∧ m.p = some g.nm := by
      intro h
      rcases co_par co h with h' | ⟨x, hx, h'⟩
      · exact Or.inl h'
      · refine Or.inr ⟨x, ?_, h'⟩
        rcases hx with hx | hx
        · exact Or.inl (by simp [hx])
        · exact Or.inr (by simp [hx])
    simp only [List.mem_append] at hm
    rcases hm with (hm | hm) | hm | hm
    · exact hctx (Or.inl hm)
    · rcases fo_par f1 hm with h | ⟨x, hx, h⟩
      · exact hsib h
      · exact Or.inr ⟨x, Or.inl (by simp [hx]), h⟩
    · rcases fo_par f2 hm with h | ⟨x, hx, h⟩
      · exact hsib h
      · exact Or.inr ⟨x, Or.inr (by simp [hx]), h⟩
    · exact hctx (Or.inr hm)
  have pos : ∀ g, (g ∈ u1 ++ s1 ∨ g ∈ s2 ++ u2) → ∃ j, (j < u1.length + s1.length ∨ u1.length + s1.length + 1 + sub.length ≤ j) ∧ D[j]? = some g := by
    intro g hg
    rcases hg with hg | hg
    · obtain ⟨j, h1, h2⟩ := mem_l (B := (o :: sub) ++ (s2 ++ u2)) hg
      exact ⟨j, Or.inl (by omega), by rw [heD]; exact h2⟩
    · obtain ⟨j, h1, h2⟩ := mem_r (A := (u1 ++ s1) ++ (o :: sub)) hg
      refine ⟨j, Or.inr ?_, by rw [heD, ← List.append_assoc]; exact h2⟩
      simp only [List.length_append, List.length_cons] at h1
      omega
  refine ⟨by omega, ?_, ?_, ?_⟩
  · rw [heD]
    simp only [List.length_append, List.length_cons]
    omega
  · intro i m h1 h2 hm
    rw [heD, List.getElem?_append_right (by omega), List.getElem?_append_left (by simp only [List.length_cons]; omega)] at hm
    obtain ⟨i', rfl⟩ : ∃ i', i = (u1 ++ s1).length + 1 + i' := ⟨i - (u1 ++ s1).length - 1, by omega⟩
    rw [show (u1 ++ s1).length + 1 + i' - (u1 ++ s1).length = i' + 1 from by omega, List.getElem?_cons_succ] at hm
    obtain ⟨a, b, hab, hl⟩ := at_cut hm
    rcases fo_up hb hab with h | ⟨g, hg, h⟩
    · exact ⟨(u1 ++ s1).length, o, by omega, by omega, by rw [heD, List.getElem?_append_right (Nat.le_refl _), Nat.sub_self]; rfl, h⟩
    · obtain ⟨j, hj, hjg⟩ := mem_l (B := m :: b ++ (s2 ++ u2)) hg
      refine ⟨(u1 ++ s1).length + 1 + j, g, by omega, by omega, ?_, h⟩
      rw [heD, hab, List.getElem?_append_right (by omega), show (u1 ++ s1).length + 1 + j - (u1 ++ s1).length = j + 1 from by omega, List.cons_append, List.getElem?_cons_succ, List.append_assoc]
      exact hjg
  · intro i m hi hm j g h1 h2 hg hp
    have hm' : m ∈ u1 ++ s1 ∨ m ∈ s2 ++ u2 := by
      rw [heD] at hm
      rcases hi with hi | hi
      · rw [List.getElem?_append_left (by omega)] at hm
        exact Or.inl (at_mem hm)
      · rw [List.getElem?_append_right (by omega), List.getElem?_append_right (by simp only [List.length_cons]; omega)] at hm
        exact Or.inr (at_mem hm)
    rcases out m hm' with h | ⟨x, hx, h⟩
    · rw [h] at hp; cases hp
    · obtain ⟨j', h3, h4⟩ := pos x hx
      have hnm : x.nm = g.nm := Option.some.inj (h.symm.trans hp)
      have := hG.1 j' j x g h4 hg hnm
      omega
theorem at_app {a b : List Ob} {o : Ob} : (a ++ o :: b)[a.length]? = some o := by
  rw [List.getElem?_append_right (Nat.le_refl _), Nat.sub_self]; rfl
/-- places in a row that lost its middle -/
theorem rm_at {a b c : List Ob} (i : Nat) : (a ++ c)[i]? = (a ++ (b ++ c))[if i < a.length then i else i + b.length]? := by
  split
  · rename_i h
    rw [List.getElem?_append_left h, List.getElem?_append_left h]
  · rename_i h
    rw [List.getElem?_append_right (by omega), List.getElem?_append_right (by omega), List.getElem?_append_right (by omega)]
    congr 1
    omega
theorem up_rm {a b c : List Ob} (hU : Up (a ++ (b ++ c))) (hB : Blk (a ++ (b ++ c)) a.length (a.length + b.length)) : Up (a ++ c) := by
  intro i m hm
  rw [rm_at (b := b)] at hm
  have hout : (if i < a.length then i else i + b.length) < a.length ∨ a.length + b.length ≤ (if i < a.length then i else i + b.length) := by
    split <;> omega
  rcases hU _ m hm with h | ⟨j, g, hj, hg, h⟩
  · exact Or.inl h
  · right
    by_cases h1 : j < a.length
    · refine ⟨j, g, ?_, by rw [rm_at (b := b), if_pos h1]; exact hg, h⟩
      split at hj <;> omega
    · by_cases h2 : j < a.length + b.length
      · exact absurd h (hB.2.2.2 _ m hout hm j g (by omega) h2 hg)
      · refine ⟨j - b.length, g, ?_, ?_, h⟩
        · split at hj <;> omega
        · rw [rm_at (b := b), if_neg (by omega), show j - b.length + b.length = j by omega]
          exact hg
theorem takeOut_app {post : Mem → Prop} {S : Mem} {a b c : List Ob} (hR : RD S (a ++ (b ++ c))) (hl : (a ++ (b ++ c)).length ≤ 14) {f t : Nat} (hf : f = a.length) (ht : t = a.length + b.length) (hp : ∀ S', RD S' (a ++ c) → Fq t1 S S' → post S') : r_takeOut post S (nI f) (nI t) := by
  subst hf ht
  have hlen : (a ++ (b ++ c)).length = a.length + (b.length + c.length) := by simp
  refine takeOut_ok hR (by omega) (by omega) hl (fun S' h1 h2 => hp S' ?_ h2)
  rw [List.take_left', show a ++ (b ++ c) = (a ++ b) ++ c by simp, List.drop_left' (by simp)] at h1
  · exact h1
  · rfl
theorem lift_app {post : Mem → Prop} {S : Mem} {a b c : List Ob} (hR : RD S (a ++ (b ++ c))) (hl : (a ++ (b ++ c)).length ≤ 14) {f t : Nat} (hf : f = a.length) (ht : t = a.length + b.length) (hp : ∀ S', RD S' (a ++ c) → (∀ (x : Nat) (o : Ob), b[x]? = some o → Rw 156 S' x o) → Fq t2 S S' → post S') : r_lift post S (nI f) (nI t) := by
  subst hf ht
  have hlen : (a ++ (b ++ c)).length = a.length + (b.length + c.length) := by simp
  refine lift_ok hR (by omega) (by omega) hl (fun S' h1 h3 h2 => hp S' ?_ ?_ h2)
  · rw [List.take_left', show a ++ (b ++ c) = (a ++ b) ++ c by simp, List.drop_left' (by simp)] at h1
    · exact h1
    · rfl
  · intro x o hx
    have hlt := at_lt hx
    have := h3 (a.length + x) o (by rw [List.getElem?_append_right (by omega), Nat.add_sub_cancel_left, List.getElem?_append_left hlt]; exact hx) (by omega) (by omega)
    rwa [Nat.add_sub_cancel_left] at this
theorem lay_app {post : Mem → Prop} {S : Mem} {a b c : List Ob} (hR : RD S (a ++ c)) (hl : (a ++ (b ++ c)).length ≤ 14) {k many : Nat} (hk : k = a.length) (hm : many = b.length) (hB : ∀ (x : Nat) (o : Ob), b[x]? = some o → Rw 156 S x o) (hp : ∀ S', RD S' (a ++ (b ++ c)) → Fq t1 S S' → post S') : r_lay post S (nI k) (nI many) := by
  subst hk
  have hlen : (a ++ (b ++ c)).length = a.length + (b.length + c.length) := by simp
  have hlen2 : (a ++ c).length = a.length + c.length := by simp
  refine lay_ok hR (by omega) hm (by omega) hB (fun S' h1 h2 => hp S' ?_ h2)
  rw [List.take_left', List.drop_left'] at h1
  · exact h1
  · rfl
  · rfl
