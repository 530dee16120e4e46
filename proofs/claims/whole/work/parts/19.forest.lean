/-- an object of the drawing: its name, its form (3: a group), its box, its colour, its parent -/
def Ob : Type := Nat × Int32 × Int32 × Int32 × Int32 × Int32 × Int32 × Option Nat
def mkOb (nm : Nat) (fm l t w h c : Int32) (p : Option Nat) : Ob := (nm, fm, l, t, w, h, c, p)
def Ob.nm (o : Ob) : Nat := o.1
def Ob.fm (o : Ob) : Int32 := o.2.1
def Ob.l (o : Ob) : Int32 := o.2.2.1
def Ob.t (o : Ob) : Int32 := o.2.2.2.1
def Ob.w (o : Ob) : Int32 := o.2.2.2.2.1
def Ob.h (o : Ob) : Int32 := o.2.2.2.2.2.1
def Ob.c (o : Ob) : Int32 := o.2.2.2.2.2.2.1
def Ob.p (o : Ob) : Option Nat := o.2.2.2.2.2.2.2
section
variable (nm : Nat) (fm l t w h c : Int32) (p : Option Nat)
theorem mk_nm : (mkOb nm fm l t w h c p).nm = nm := rfl
theorem mk_fm : (mkOb nm fm l t w h c p).fm = fm := rfl
theorem mk_l : (mkOb nm fm l t w h c p).l = l := rfl
theorem mk_t : (mkOb nm fm l t w h c p).t = t := rfl
theorem mk_w : (mkOb nm fm l t w h c p).w = w := rfl
theorem mk_h : (mkOb nm fm l t w h c p).h = h := rfl
theorem mk_c : (mkOb nm fm l t w h c p).c = c := rfl
theorem mk_p : (mkOb nm fm l t w h c p).p = p := rfl
end
def pI : Option Nat → Int32
  | none => -1
  | some x => nI x
/-- a row of trees, each standing as a group and, right behind it, what is in it; q is the parent of the trees -/
def FoC (P : Option Nat → List Ob → Prop) : Prop := (∀ q, P q []) ∧ (∀ (q : Option Nat) (o : Ob) (r : List Ob), o.p = q → o.fm ≠ 3 → P q r → P q (o :: r)) ∧ (∀ (q : Option Nat) (o : Ob) (s r : List Ob), o.p = q → o.fm = 3 → s ≠ [] → P (some o.nm) s → P q r → P q (o :: (s ++ r)))
def Fo (q : Option Nat) (D : List Ob) : Prop := ∀ P, FoC P → P q D
theorem Fo.nil {q : Option Nat} : Fo q [] := fun _ h => h.1 q
theorem Fo.sh {q : Option Nat} {o : Ob} {r : List Ob} (h1 : o.p = q) (h2 : o.fm ≠ 3) (h3 : Fo q r) : Fo q (o :: r) := fun P h => h.2.1 q o r h1 h2 (h3 P h)
theorem Fo.gr {q : Option Nat} {o : Ob} {s r : List Ob} (h1 : o.p = q) (h2 : o.fm = 3) (h3 : s ≠ []) (h4 : Fo (some o.nm) s) (h5 : Fo q r) : Fo q (o :: (s ++ r)) := fun P h => h.2.2 q o s r h1 h2 h3 (h4 P h) (h5 P h)
theorem Fo.ind {M : Option Nat → List Ob → Prop} (nil : ∀ {q : Option Nat}, M q []) (sh : ∀ {q : Option Nat} {o : Ob} {r : List Ob}, o.p = q → o.fm ≠ 3 → Fo q r → M q r → M q (o :: r)) (gr : ∀ {q : Option Nat} {o : Ob} {s r : List Ob}, o.p = q → o.fm = 3 → s ≠ [] → Fo (some o.nm) s → Fo q r → M (some o.nm) s → M q r → M q (o :: (s ++ r))) {q : Option Nat} {D : List Ob} (h : Fo q D) : M q D :=
  (h (fun q D => Fo q D ∧ M q D) ⟨fun _ => ⟨Fo.nil, nil⟩, fun _ _ _ h1 h2 h3 => ⟨Fo.sh h1 h2 h3.1, sh h1 h2 h3.1 h3.2⟩, fun _ _ _ _ h1 h2 h3 h4 h5 => ⟨Fo.gr h1 h2 h3 h4.1 h5.1, gr h1 h2 h3 h4.1 h5.1 h4.2 h5.2⟩⟩).2
/-- what stands around all members of q -/
def CoC (P : Option Nat → List Ob → List Ob → Prop) : Prop := P none [] [] ∧ (∀ (g : Ob) (v1 l1 l2 v2 : List Ob), P g.p v1 v2 → Fo g.p l1 → Fo g.p l2 → g.fm = 3 → P (some g.nm) (v1 ++ (l1 ++ [g])) (l2 ++ v2))
def Co (q : Option Nat) (u1 u2 : List Ob) : Prop := ∀ P, CoC P → P q u1 u2
theorem Co.top : Co none [] [] := fun _ h => h.1
theorem Co.down {g : Ob} {v1 l1 l2 v2 : List Ob} (h1 : Co g.p v1 v2) (h2 : Fo g.p l1) (h3 : Fo g.p l2) (h4 : g.fm = 3) : Co (some g.nm) (v1 ++ (l1 ++ [g])) (l2 ++ v2) := fun P h => h.2 g v1 l1 l2 v2 (h1 P h) h2 h3 h4
theorem Co.ind {M : Option Nat → List Ob → List Ob → Prop} (top : M none [] []) (down : ∀ {g : Ob} {v1 l1 l2 v2 : List Ob}, Co g.p v1 v2 → Fo g.p l1 → Fo g.p l2 → g.fm = 3 → M g.p v1 v2 → M (some g.nm) (v1 ++ (l1 ++ [g])) (l2 ++ v2)) {q : Option Nat} {u1 u2 : List Ob} (h : Co q u1 u2) : M q u1 u2 :=
  (h (fun q a b => Co q a b ∧ M q a b) ⟨⟨Co.top, top⟩, fun _ _ _ _ _ h1 h2 h3 h4 => ⟨Co.down h1.1 h2 h3 h4, down h1.1 h2 h3 h4 h1.2⟩⟩).2
def Bl (o : Ob) (s : List Ob) : Prop := (o.fm ≠ 3 ∧ s = []) ∨ (o.fm = 3 ∧ s ≠ [] ∧ Fo (some o.nm) s)
theorem fo_app {q : Option Nat} {a b : List Ob} (ha : Fo q a) (hb : Fo q b) : Fo q (a ++ b) := by
  revert hb
  refine Fo.ind (M := fun q a => Fo q b → Fo q (a ++ b)) ?_ ?_ ?_ ha
  · exact fun hb => hb
  · exact fun h1 h2 _ ih hb => Fo.sh h1 h2 (ih hb)
  · intro q o s r h1 h2 h3 h4 _ _ ih hb
    rw [List.cons_append, List.append_assoc]
    exact Fo.gr h1 h2 h3 h4 (ih hb)
theorem fo_blk {q : Option Nat} {o : Ob} {s r : List Ob} (h1 : o.p = q) (h2 : Bl o s) (h3 : Fo q r) : Fo q (o :: (s ++ r)) := by
  rcases h2 with ⟨ha, rfl⟩ | ⟨ha, hb, hc⟩
  · exact Fo.sh h1 ha h3
  · exact Fo.gr h1 ha hb hc h3
theorem fo_blk1 {q : Option Nat} {o : Ob} {s : List Ob} (h1 : o.p = q) (h2 : Bl o s) : Fo q (o :: s) := by
  have h := fo_blk h1 h2 Fo.nil
  rwa [List.append_nil] at h
theorem plug {q : Option Nat} {u1 u2 : List Ob} (hc : Co q u1 u2) : ∀ {B : List Ob}, Fo q B → (B ≠ [] ∨ q = none) → Fo none (u1 ++ (B ++ u2)) := by
  refine Co.ind (M := fun q u1 u2 => ∀ {B : List Ob}, Fo q B → (B ≠ [] ∨ q = none) → Fo none (u1 ++ (B ++ u2))) ?_ ?_ hc
  · intro B hB _
    rwa [List.nil_append, List.append_nil]
  · intro g v1 l1 l2 v2 h1 h2 h3 h4 ih B hB hn
    have hn' : B ≠ [] := hn.resolve_right (by simp)
    have h := ih (B := l1 ++ (g :: (B ++ l2))) (fo_app h2 (Fo.gr rfl h4 hn' hB h3)) (Or.inl (by simp))
    simpa [List.append_assoc] using h
/-- an object in a row of trees: what is in it, its siblings, what stands around -/
def Sp (l1 : List Ob) (o : Ob) (r : List Ob) (u1 s1 sub s2 u2 : List Ob) : Prop := l1 = u1 ++ s1 ∧ r = sub ++ (s2 ++ u2) ∧ Co o.p u1 u2 ∧ Fo o.p s1 ∧ Fo o.p s2 ∧ Bl o sub
theorem split_gen {q : Option Nat} {B : List Ob} (hB : Fo q B) : ∀ {u1 u2 s l1 r : List Ob} {o : Ob}, Co q u1 u2 → Fo q s → B = l1 ++ o :: r → ∃ v1 s1 sub s2 v2, u1 ++ (s ++ l1) = v1 ++ s1 ∧ r ++ u2 = sub ++ (s2 ++ v2) ∧ Co o.p v1 v2 ∧ Fo o.p s1 ∧ Fo o.p s2 ∧ Bl o sub := by
  refine Fo.ind (M := fun q B => ∀ {u1 u2 s l1 r : List Ob} {o : Ob}, Co q u1 u2 → Fo q s → B = l1 ++ o :: r → ∃ v1 s1 sub s2 v2, u1 ++ (s ++ l1) = v1 ++ s1 ∧ r ++ u2 = sub ++ (s2 ++ v2) ∧ Co o.p v1 v2 ∧ Fo o.p s1 ∧ Fo o.p s2 ∧ Bl o sub) ?_ ?_ ?_ hB
  · intro q u1 u2 s l1 r o _ _ he
    simp at he
  · intro q o' r' h1 h2 h3 ih u1 u2 s l1 r o hc hs he
    cases l1 with
    | nil =>
      rw [List.nil_append] at he
      obtain ⟨rfl, rfl⟩ := List.cons.inj he
      subst h1
      exact ⟨u1, s, [], r', u2, by simp, by simp, hc, hs, h3, Or.inl ⟨h2, rfl⟩⟩
    | cons x l1' =>
      rw [List.cons_append] at he
      have he2 := List.cons.inj he
      clear he
      obtain ⟨rfl, he⟩ := he2
      obtain ⟨v1, s1, sub, s2, v2, g1, g2⟩ := ih (s := s ++ [o']) hc (fo_app hs (Fo.sh h1 h2 Fo.nil)) he
      exact ⟨v1, s1, sub, s2, v2, by simpa using g1, g2⟩
  · intro q o' s' r' h1 h2 h3 h4 h5 ih4 ih5 u1 u2 s l1 r o hc hs he
    cases l1 with
    | nil =>
      rw [List.nil_append] at he
      obtain ⟨rfl, rfl⟩ := List.cons.inj he
      subst h1
      exact ⟨u1, s, s', r', u2, by simp, by simp, hc, hs, h5, Or.inr ⟨h2, h3, h4⟩⟩
    | cons x l1' =>
      rw [List.cons_append] at he
      have he2 := List.cons.inj he
      clear he
      obtain ⟨rfl, he⟩ := he2
      rcases List.append_eq_append_iff.mp he with ⟨y, ha, hb⟩ | ⟨y, ha, hb⟩
      · obtain ⟨v1, s1, sub, s2, v2, g1, g2⟩ := ih5 (s := s ++ (o' :: s')) (l1 := y) hc (fo_app hs (fo_blk1 h1 (Or.inr ⟨h2, h3, h4⟩))) hb
        exact ⟨v1, s1, sub, s2, v2, by rw [ha]; simpa using g1, g2⟩
      · cases y with
        | nil =>
          rw [List.nil_append] at hb
          obtain ⟨v1, s1, sub, s2, v2, g1, g2⟩ := ih5 (s := s ++ (o' :: s')) (l1 := []) hc (fo_app hs (fo_blk1 h1 (Or.inr ⟨h2, h3, h4⟩))) (by rw [List.nil_append]; exact hb.symm)
          refine ⟨v1, s1, sub, s2, v2, ?_, g2⟩
          rw [List.append_nil] at ha
          rw [← ha]; simpa using g1
        | cons z y' =>
          rw [List.cons_append] at hb
          have hb2 := List.cons.inj hb
          clear hb
          obtain ⟨rfl, hb⟩ := hb2
          have hc' : Co (some o'.nm) (u1 ++ (s ++ [o'])) (r' ++ u2) := by
            subst h1
            exact Co.down hc hs h5 h2
          obtain ⟨v1, s1, sub, s2, v2, g1, g2, g3⟩ := ih4 (s := []) (l1 := l1') hc' Fo.nil ha
          exact ⟨v1, s1, sub, s2, v2, by simpa using g1, by rw [hb]; simpa using g2, g3⟩
theorem split {D l1 r : List Ob} {o : Ob} (h : Fo none D) (he : D = l1 ++ o :: r) : ∃ u1 s1 sub s2 u2, Sp l1 o r u1 s1 sub s2 u2 := by
  obtain ⟨v1, s1, sub, s2, v2, g1, g2, g3, g4, g5, g6⟩ := split_gen h (s := []) Co.top Fo.nil he
  exact ⟨v1, s1, sub, s2, v2, ⟨by simpa using g1, by simpa using g2, g3, g4, g5, g6⟩⟩
theorem fo_up {q : Option Nat} {B : List Ob} (hB : Fo q B) : ∀ {l1 r : List Ob} {o : Ob}, B = l1 ++ o :: r → o.p = q ∨ ∃ g ∈ l1, o.p = some g.nm := by
  refine Fo.ind (M := fun q B => ∀ {l1 r : List Ob} {o : Ob}, B = l1 ++ o :: r → o.p = q ∨ ∃ g ∈ l1, o.p = some g.nm) ?_ ?_ ?_ hB
  · intro q l1 r o he
    simp at he
  · intro q o' r' h1 h2 h3 ih l1 r o he
    cases l1 with
    | nil =>
      rw [List.nil_append] at he
      obtain ⟨rfl, rfl⟩ := List.cons.inj he
      exact Or.inl h1
    | cons x l1' =>
      rw [List.cons_append] at he
      have he2 := List.cons.inj he
      clear he
      obtain ⟨rfl, he⟩ := he2
      rcases ih he with h | ⟨g, hg, h⟩
      · exact Or.inl h
      · exact Or.inr ⟨g, List.mem_cons_of_mem _ hg, h⟩
  · intro q o' s' r' h1 h2 h3 h4 h5 ih4 ih5 l1 r o he
    cases l1 with
    | nil =>
      rw [List.nil_append] at he
      obtain ⟨rfl, rfl⟩ := List.cons.inj he
      exact Or.inl h1
    | cons x l1' =>
      rw [List.cons_append] at he
      have he2 := List.cons.inj he
      clear he
      obtain ⟨rfl, he⟩ := he2
      rcases List.append_eq_append_iff.mp he with ⟨y, ha, hb⟩ | ⟨y, ha, hb⟩
      · rcases ih5 hb with h | ⟨g, hg, h⟩
        · exact Or.inl h
        · exact Or.inr ⟨g, by rw [ha]; simp [hg], h⟩
      · cases y with
        | nil =>
          rw [List.nil_append] at hb
          rcases ih5 (l1 := []) (by rw [List.nil_append]; exact hb.symm) with h | ⟨g, hg, h⟩
          · exact Or.inl h
          · cases hg
        | cons z y' =>
          rw [List.cons_append] at hb
          have hb2 := List.cons.inj hb
          clear hb
          obtain ⟨rfl, hb⟩ := hb2
          rcases ih4 ha with h | ⟨g, hg, h⟩
          · exact Or.inr ⟨o', List.mem_cons_self, h⟩
          · exact Or.inr ⟨g, List.mem_cons_of_mem _ hg, h⟩
theorem fo_par {q : Option Nat} {B : List Ob} (hB : Fo q B) {m : Ob} (hm : m ∈ B) : m.p = q ∨ ∃ g ∈ B, m.p = some g.nm := by
  obtain ⟨l1, r, he⟩ := List.append_of_mem hm
  rcases fo_up hB he with h | ⟨g, hg, h⟩
  · exact Or.inl h
  · exact Or.inr ⟨g, by rw [he]; simp [hg], h⟩
theorem co_hd {q : Option Nat} {u1 u2 : List Ob} (h : Co q u1 u2) : (q = none ∧ u1 = [] ∧ u2 = []) ∨ ∃ g v, u1 = v ++ [g] ∧ q = some g.nm := by
  refine Co.ind (M := fun q u1 u2 => (q = none ∧ u1 = [] ∧ u2 = []) ∨ ∃ g v, u1 = v ++ [g] ∧ q = some g.nm) ?_ ?_ h
  · exact Or.inl ⟨rfl, rfl, rfl⟩
  · intro g v1 l1 l2 v2 _ _ _ _ _
    exact Or.inr ⟨g, v1 ++ l1, by simp, rfl⟩
theorem co_par {q : Option Nat} {u1 u2 : List Ob} (h : Co q u1 u2) : ∀ {m : Ob}, m ∈ u1 ∨ m ∈ u2 → m.p = none ∨ ∃ g, (g ∈ u1 ∨ g ∈ u2) ∧ m.p = some g.nm := by
  refine Co.ind (M := fun q u1 u2 => ∀ {m : Ob}, m ∈ u1 ∨ m ∈ u2 → m.p = none ∨ ∃ g, (g ∈ u1 ∨ g ∈ u2) ∧ m.p = some g.nm) ?_ ?_ h
  · intro m hm
    simp at hm
  · intro g v1 l1 l2 v2 h1 h2 h3 h4 ih m hm
    have hq : g.p = none ∨ ∃ x, x ∈ v1 ∧ g.p = some x.nm := by
      rcases co_hd h1 with ⟨h, -⟩ | ⟨x, v, hx, hy⟩
      · exact Or.inl h
      · exact Or.inr ⟨x, by rw [hx]; simp, hy⟩
    have key : m.p = g.p ∨ (m ∈ v1 ∨ m ∈ v2) ∨ (∃ x, (x ∈ l1 ∨ x ∈ l2) ∧ m.p = some x.nm) := by
      simp only [List.mem_append, List.mem_singleton] at hm
      rcases hm with (hm | hm | hm) | hm | hm
      · exact Or.inr (Or.inl (Or.inl hm))
      · rcases fo_par h2 hm with h | ⟨x, hx, h⟩
        · exact Or.inl h
        · exact Or.inr (Or.inr ⟨x, Or.inl hx, h⟩)
      · exact Or.inl (by rw [hm])
      · rcases fo_par h3 hm with h | ⟨x, hx, h⟩
        · exact Or.inl h
        · exact Or.inr (Or.inr ⟨x, Or.inr hx, h⟩)
      · exact Or.inr (Or.inl (Or.inr hm))
    rcases key with h | h | ⟨x, hx, h⟩
    · rcases hq with h' | ⟨x, hx, h'⟩
      · exact Or.inl (h.trans h')
      · exact Or.inr ⟨x, Or.inl (by simp [hx]), h.trans h'⟩
    · rcases ih h with h' | ⟨x, hx, h'⟩
      · exact Or.inl h'
      · refine Or.inr ⟨x, ?_, h'⟩
        rcases hx with hx | hx
        · exact Or.inl (by simp [hx])
        · exact Or.inr (by simp [hx])
    · refine Or.inr ⟨x, ?_, h⟩
      rcases hx with hx | hx
      · exact Or.inl (by simp [hx])
      · exact Or.inr (by simp [hx])
