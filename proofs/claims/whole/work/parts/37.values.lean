theorem add_toInt {a b : Int32} (h1 : -2147483648 ≤ a.toInt + b.toInt) (h2 : a.toInt + b.toInt < 2147483648) : (a + b).toInt = a.toInt + b.toInt := by
  rw [Int32.toInt_add]
  simp only [Int.bmod]
  omega
theorem sub_toInt {a b : Int32} (h1 : -2147483648 ≤ a.toInt - b.toInt) (h2 : a.toInt - b.toInt < 2147483648) : (a - b).toInt = a.toInt - b.toInt := by
  rw [Int32.toInt_sub]
  simp only [Int.bmod]
  omega
theorem mul_toInt {a b : Int32} {c : Int} (hc : a.toInt * b.toInt = c) (h1 : -2147483648 ≤ c) (h2 : c < 2147483648) : (a * b).toInt = c := by
  rw [Int32.toInt_mul, hc]
  simp only [Int.bmod]
  omega
theorem div_toInt {a b : Int32} (ha : 0 ≤ a.toInt) (hb : 0 < b.toInt) : (a / b).toInt = a.toInt / b.toInt := by
  have h1 : 0 ≤ a.toInt / b.toInt := Int.ediv_nonneg ha (Int.le_of_lt hb)
  have h2 : a.toInt / b.toInt ≤ a.toInt := Int.ediv_le_self _ ha
  have h3 : a.toInt < 2 ^ 31 := Int32.toInt_lt a
  rw [Int32.toInt_div, Int.tdiv_eq_ediv_of_nonneg ha]
  generalize a.toInt / b.toInt = z at h1 h2 ⊢
  simp only [Int.bmod]
  omega
theorem div_in {a b : Int32} (ha : 0 ≤ a.toInt) (hb : 0 < b.toInt) : 0 ≤ (a / b).toInt ∧ (a / b).toInt ≤ a.toInt := by
  rw [div_toInt ha hb]
  exact ⟨Int.ediv_nonneg ha (Int.le_of_lt hb), Int.ediv_le_self _ ha⟩
theorem c200 : (200 : Int32).toInt = 200 := by decide
theorem cm200 : (-200 : Int32).toInt = -200 := by decide
def small (x : Int32) : Prop := -100000 ≤ x.toInt ∧ x.toInt ≤ 100000
/-- an object within the limits -/
def wfO (o : Ob) : Prop := (o.fm = 3 ∧ o.c = -1) ∨ ((o.fm = 0 ∨ o.fm = 1 ∨ o.fm = 2) ∧ -200 ≤ o.l.toInt ∧ -200 ≤ o.t.toInt ∧ 1 ≤ o.w.toInt ∧ 1 ≤ o.h.toInt ∧ o.l.toInt + o.w.toInt ≤ 200 ∧ o.t.toInt + o.h.toInt ≤ 200)
theorem wf_sh {o : Ob} (h : wfO o) (h3 : o.fm ≠ 3) : (o.fm = 0 ∨ o.fm = 1 ∨ o.fm = 2) ∧ -200 ≤ o.l.toInt ∧ -200 ≤ o.t.toInt ∧ 1 ≤ o.w.toInt ∧ 1 ≤ o.h.toInt ∧ o.l.toInt + o.w.toInt ≤ 200 ∧ o.t.toInt + o.h.toInt ≤ 200 := h.resolve_left (fun q => h3 q.1)
theorem ok_iff {o : Ob} (h3 : o.fm ≠ 3) (hl : small o.l) (ht : small o.t) (hw : small o.w) (hh : small o.h) : okO o ↔ -200 ≤ o.l.toInt ∧ -200 ≤ o.t.toInt ∧ o.l.toInt + o.w.toInt ≤ 200 ∧ o.t.toInt + o.h.toInt ≤ 200 := by
  unfold small at hl ht hw hh
  have e1 : o.l < -200 ↔ o.l.toInt < -200 := by rw [Int32.lt_iff_toInt_lt, cm200]
  have e2 : o.t < -200 ↔ o.t.toInt < -200 := by rw [Int32.lt_iff_toInt_lt, cm200]
  have e3 : 200 < o.l + o.w ↔ 200 < o.l.toInt + o.w.toInt := by rw [Int32.lt_iff_toInt_lt, c200, add_toInt (by omega) (by omega)]
  have e4 : 200 < o.t + o.h ↔ 200 < o.t.toInt + o.h.toInt := by rw [Int32.lt_iff_toInt_lt, c200, add_toInt (by omega) (by omega)]
  unfold okO
  rw [e1, e2, e3, e4]
  constructor
  · intro h
    have := h.resolve_left h3
    omega
  · intro h
    right
    omega
theorem wf_ok {o : Ob} (h : wfO o) : okO o := by
  by_cases h3 : o.fm = 3
  · exact Or.inl h3
  · obtain ⟨-, h1, h2, h4, h5, h6, h7⟩ := wf_sh h h3
    exact (ok_iff h3 ⟨by omega, by omega⟩ ⟨by omega, by omega⟩ ⟨by omega, by omega⟩ ⟨by omega, by omega⟩).mpr ⟨h1, h2, h6, h7⟩
theorem fm_ne {f : Int32} (h : f = 0 ∨ f = 1 ∨ f = 2) : f ≠ 3 := by
  rcases h with rfl | rfl | rfl <;> decide
theorem wf_of {o : Ob} (hfm : o.fm = 0 ∨ o.fm = 1 ∨ o.fm = 2) (hl : small o.l) (ht : small o.t) (hw : small o.w) (hh : small o.h) (hw1 : 1 ≤ o.w.toInt) (hh1 : 1 ≤ o.h.toInt) (hok : okO o) : wfO o := by
  obtain ⟨a, b, c, d⟩ := (ok_iff (fm_ne hfm) hl ht hw hh).mp hok
  exact Or.inr ⟨hfm, a, b, hw1, hh1, c, d⟩
theorem shf_wf {m : Ob} {x y : Int32} (hm : wfO m) (hx : -2000 ≤ x.toInt ∧ x.toInt ≤ 2000) (hy : -2000 ≤ y.toInt ∧ y.toInt ≤ 2000) (hok : okO (shf x y m)) : wfO (shf x y m) := by
  by_cases h3 : m.fm = 3
  · unfold shf
    rw [if_pos h3]
    exact hm
  · obtain ⟨h0, h1, h2, h4, h5, h6, h7⟩ := wf_sh hm h3
    unfold shf at hok ⊢
    rw [if_neg h3] at hok ⊢
    refine wf_of h0 ?_ ?_ ⟨?_, ?_⟩ ⟨?_, ?_⟩ h4 h5 hok
    · show small (m.l + x)
      unfold small
      rw [add_toInt (by omega) (by omega)]
      omega
    · show small (m.t + y)
      unfold small
      rw [add_toInt (by omega) (by omega)]
      omega
    · show -100000 ≤ m.w.toInt
      omega
    · show m.w.toInt ≤ 100000
      omega
    · show -100000 ≤ m.h.toInt
      omega
    · show m.h.toInt ≤ 100000
      omega
theorem pnt_wf {m : Ob} {b : Int32} (hm : wfO m) : wfO (pnt b m) := by
  unfold pnt
  by_cases h3 : m.fm = 3
  · rw [if_pos h3]
    exact hm
  · rw [if_neg h3]
    have := wf_sh hm h3
    exact Or.inr this
theorem mul_in {v p : Int32} (h0 : 0 ≤ v.toInt) (h1 : v.toInt ≤ 1000) (hp : 1 ≤ p.toInt) (hp9 : p.toInt ≤ 9) : 0 ≤ (v * p).toInt ∧ (v * p).toInt ≤ 9000 := by
  have h2 : 0 ≤ v.toInt * p.toInt := Int.mul_nonneg h0 (by omega)
  have h3 : v.toInt * p.toInt ≤ 1000 * 9 := Int.mul_le_mul h1 hp9 (by omega) (by omega)
  rw [mul_toInt rfl (by omega) (by omega)]
  omega
theorem mx1_in {v : Int32} (h : v.toInt ≤ 9000) : 1 ≤ (mx1 v).toInt ∧ (mx1 v).toInt ≤ 9000 := by
  have h1 : (1 : Int32).toInt = 1 := by decide
  unfold mx1
  by_cases hv : 1 ≤ v
  · rw [if_pos hv]
    rw [Int32.le_iff_toInt_le, h1] at hv
    omega
  · rw [if_neg hv, h1]
    omega
theorem scl_wf {m : Ob} {bl bt p q : Int32} (hm : wfO m) (hbl : -200 ≤ bl.toInt) (hbl2 : m.fm ≠ 3 → bl.toInt ≤ m.l.toInt) (hbt : -200 ≤ bt.toInt) (hbt2 : m.fm ≠ 3 → bt.toInt ≤ m.t.toInt) (hp : 1 ≤ p.toInt) (hp9 : p.toInt ≤ 9) (hq : 1 ≤ q.toInt) (hok : okO (scl bl bt p q m)) : wfO (scl bl bt p q m) := by
  by_cases h3 : m.fm = 3
  · unfold scl
    rw [if_pos h3]
    exact hm
  · obtain ⟨h0, h1, h2, h4, h5, h6, h7⟩ := wf_sh hm h3
    have g1 := hbl2 h3
    have g2 := hbt2 h3
    have a1 : (m.l - bl).toInt = m.l.toInt - bl.toInt := sub_toInt (by omega) (by omega)
    have a2 : (m.t - bt).toInt = m.t.toInt - bt.toInt := sub_toInt (by omega) (by omega)
    have b1 := mul_in (v := m.l - bl) (p := p) (by omega) (by omega) hp hp9
    have b2 := mul_in (v := m.t - bt) (p := p) (by omega) (by omega) hp hp9
    have b3 := mul_in (v := m.w) (p := p) (by omega) (by omega) hp hp9
    have b4 := mul_in (v := m.h) (p := p) (by omega) (by omega) hp hp9
    have c1 := div_in (b := q) b1.1 (by omega)
    have c2 := div_in (b := q) b2.1 (by omega)
    have c3 := div_in (b := q) b3.1 (by omega)
    have c4 := div_in (b := q) b4.1 (by omega)
    have d3 := mx1_in (v := (m.w * p) / q) (by omega)
    have d4 := mx1_in (v := (m.h * p) / q) (by omega)
    unfold scl at hok ⊢
    rw [if_neg h3] at hok ⊢
    refine wf_of h0 ?_ ?_ ⟨?_, ?_⟩ ⟨?_, ?_⟩ d3.1 d4.1 hok
    · show small (bl + ((m.l - bl) * p) / q)
      unfold small
      rw [add_toInt (by omega) (by omega)]
      omega
    · show small (bt + ((m.t - bt) * p) / q)
      unfold small
      rw [add_toInt (by omega) (by omega)]
      omega
    · show -100000 ≤ (mx1 ((m.w * p) / q)).toInt
      omega
    · show (mx1 ((m.w * p) / q)).toInt ≤ 100000
      omega
    · show -100000 ≤ (mx1 ((m.h * p) / q)).toInt
      omega
    · show (mx1 ((m.h * p) / q)).toInt ≤ 100000
      omega
theorem dbl_wf {n : Nat} {m : Ob} {x y : Int32} (hm : wfO m) (h3 : m.fm ≠ 3) (hx : -2000 ≤ x.toInt ∧ x.toInt ≤ 2000) (hy : -2000 ≤ y.toInt ∧ y.toInt ≤ 2000) (hok : okO (shf x y m)) : wfO (dbl n x y m) := by
  have h := shf_wf hm hx hy hok
  unfold shf at h
  rw [if_neg h3] at h
  exact h
theorem dbl_ok {n : Nat} {m : Ob} {x y : Int32} (h3 : m.fm ≠ 3) : okO (dbl n x y m) ↔ okO (shf x y m) := by
  unfold shf
  rw [if_neg h3]
  exact Iff.rfl
theorem mkd_wf {n : Nat} {A0 A1 A2 A3 : Int32} (h0 : A0 = 0 ∨ A0 = 1 ∨ A0 = 2) (h1 : -200 ≤ A1.toInt ∧ A1.toInt ≤ 200) (h2 : -200 ≤ A2.toInt ∧ A2.toInt ≤ 200) (hw : 1 ≤ (A3 - A3 / 128 * 128).toInt ∧ (A3 - A3 / 128 * 128).toInt ≤ 100) (hh : 1 ≤ (A3 / 128).toInt ∧ (A3 / 128).toInt ≤ 100) (hok : okO (mkd n A0 A1 A2 A3)) : wfO (mkd n A0 A1 A2 A3) := by
  refine wf_of h0 ⟨?_, ?_⟩ ⟨?_, ?_⟩ ⟨?_, ?_⟩ ⟨?_, ?_⟩ hw.1 hh.1 hok
  · show -100000 ≤ A1.toInt
    omega
  · show A1.toInt ≤ 100000
    omega
  · show -100000 ≤ A2.toInt
    omega
  · show A2.toInt ≤ 100000
    omega
  · show -100000 ≤ (A3 - A3 / 128 * 128).toInt
    omega
  · show (A3 - A3 / 128 * 128).toInt ≤ 100000
    omega
  · show -100000 ≤ (A3 / 128).toInt
    omega
  · show (A3 / 128).toInt ≤ 100000
    omega
theorem lo_le {f : Ob → Int32} : ∀ (B : List Ob) (a : Int32), (lo B f a).toInt ≤ a.toInt ∧ ∀ o ∈ B, o.fm ≠ 3 → (lo B f a).toInt ≤ (f o).toInt := by
  intro B
  induction B with
  | nil => exact fun a => ⟨Int.le_refl _, fun o ho => by cases ho⟩
  | cons x r ih =>
    intro a
    have h := ih (if x.fm = 3 then a else if a ≤ f x then a else f x)
    have he : lo (x :: r) f a = lo r f (if x.fm = 3 then a else if a ≤ f x then a else f x) := rfl
    rw [he]
    have h1 : (if x.fm = 3 then a else if a ≤ f x then a else f x).toInt ≤ a.toInt ∧ (x.fm ≠ 3 → (if x.fm = 3 then a else if a ≤ f x then a else f x).toInt ≤ (f x).toInt) := by
      by_cases hx : x.fm = 3
      · rw [if_pos hx]
        exact ⟨Int.le_refl _, fun q => absurd hx q⟩
      · rw [if_neg hx]
        by_cases ha : a ≤ f x
        · rw [if_pos ha]
          exact ⟨Int.le_refl _, fun _ => Int32.le_iff_toInt_le.mp ha⟩
        · rw [if_neg ha]
          rw [Int32.le_iff_toInt_le] at ha
          exact ⟨by omega, fun _ => Int.le_refl _⟩
    refine ⟨by omega, fun o ho h3 => ?_⟩
    rcases List.mem_cons.mp ho with rfl | ho
    · have := h1.2 h3
      omega
    · exact h.2 o ho h3
theorem lo_ge {f : Ob → Int32} {c : Int} : ∀ (B : List Ob) (a : Int32), c ≤ a.toInt → (∀ o ∈ B, o.fm ≠ 3 → c ≤ (f o).toInt) → c ≤ (lo B f a).toInt := by
  intro B
  induction B with
  | nil => exact fun a h _ => h
  | cons x r ih =>
    intro a ha hB
    refine ih (if x.fm = 3 then a else if a ≤ f x then a else f x) ?_ (fun o ho => hB o (List.mem_cons_of_mem _ ho))
    by_cases hx : x.fm = 3
    · rw [if_pos hx]; exact ha
    · rw [if_neg hx]
      split
      · exact ha
      · exact hB x List.mem_cons_self hx
theorem hi_ge {f : Ob → Int32} : ∀ (B : List Ob) (a : Int32), a.toInt ≤ (hi B f a).toInt ∧ ∀ o ∈ B, o.fm ≠ 3 → (f o).toInt ≤ (hi B f a).toInt := by
  intro B
  induction B with
  | nil => exact fun a => ⟨Int.le_refl _, fun o ho => by cases ho⟩
  | cons x r ih =>
    intro a
    have h := ih (if x.fm = 3 then a else if f x ≤ a then a else f x)
    have he : hi (x :: r) f a = hi r f (if x.fm = 3 then a else if f x ≤ a then a else f x) := rfl
    rw [he]
    have h1 : a.toInt ≤ (if x.fm = 3 then a else if f x ≤ a then a else f x).toInt ∧ (x.fm ≠ 3 → (f x).toInt ≤ (if x.fm = 3 then a else if f x ≤ a then a else f x).toInt) := by
      by_cases hx : x.fm = 3
      · rw [if_pos hx]
        exact ⟨Int.le_refl _, fun q => absurd hx q⟩
      · rw [if_neg hx]
        by_cases ha : f x ≤ a
        · rw [if_pos ha]
          exact ⟨Int.le_refl _, fun _ => Int32.le_iff_toInt_le.mp ha⟩
        · rw [if_neg ha]
          rw [Int32.le_iff_toInt_le] at ha
          exact ⟨by omega, fun _ => Int.le_refl _⟩
    refine ⟨by omega, fun o ho h3 => ?_⟩
    rcases List.mem_cons.mp ho with rfl | ho
    · have := h1.2 h3
      omega
    · exact h.2 o ho h3
theorem hi_le {f : Ob → Int32} {c : Int} : ∀ (B : List Ob) (a : Int32), a.toInt ≤ c → (∀ o ∈ B, o.fm ≠ 3 → (f o).toInt ≤ c) → (hi B f a).toInt ≤ c := by
  intro B
  induction B with
  | nil => exact fun a h _ => h
  | cons x r ih =>
    intro a ha hB
    refine ih (if x.fm = 3 then a else if f x ≤ a then a else f x) ?_ (fun o ho => hB o (List.mem_cons_of_mem _ ho))
    by_cases hx : x.fm = 3
    · rw [if_pos hx]; exact ha
    · rw [if_neg hx]
      split
      · exact ha
      · exact hB x List.mem_cons_self hx
theorem cK : (100000 : Int32).toInt = 100000 := by decide
theorem cmK : (-100000 : Int32).toInt = -100000 := by decide
theorem cM : (2147483647 : Int32).toInt = 2147483647 := by decide
theorem cmM : (-2147483648 : Int32).toInt = -2147483648 := by decide
theorem wf_sums {o : Ob} (h : wfO o) (h3 : o.fm ≠ 3) : (o.l + o.w).toInt = o.l.toInt + o.w.toInt ∧ (o.t + o.h).toInt = o.t.toInt + o.h.toInt := by
  obtain ⟨-, h1, h2, h4, h5, h6, h7⟩ := wf_sh h h3
  exact ⟨add_toInt (by omega) (by omega), add_toInt (by omega) (by omega)⟩
/-- the box of a block: the two sides start from other values -/
theorem box_eq {B : List Ob} (hB : ∃ m ∈ B, m.fm ≠ 3) (hw : ∀ m ∈ B, wfO m) : lo B Ob.l 100000 = lo B Ob.l 2147483647 ∧ lo B Ob.t 100000 = lo B Ob.t 2147483647 ∧ hi B (fun o => o.l + o.w) (-100000) = hi B (fun o => o.l + o.w) (-2147483648) ∧ hi B (fun o => o.t + o.h) (-100000) = hi B (fun o => o.t + o.h) (-2147483648) := by
  obtain ⟨m, hm, h3⟩ := hB
  obtain ⟨-, h1, h2, h4, h5, h6, h7⟩ := wf_sh (hw m hm) h3
  obtain ⟨s1, s2⟩ := wf_sums (hw m hm) h3
  refine ⟨lo_eq B _ _ ⟨m, hm, h3, ?_, ?_⟩, lo_eq B _ _ ⟨m, hm, h3, ?_, ?_⟩, hi_eq B _ _ ⟨m, hm, h3, ?_, ?_⟩, hi_eq B _ _ ⟨m, hm, h3, ?_, ?_⟩⟩
  · rw [Int32.le_iff_toInt_le, cK]; omega
  · rw [Int32.le_iff_toInt_le, cM]; omega
  · rw [Int32.le_iff_toInt_le, cK]; omega
  · rw [Int32.le_iff_toInt_le, cM]; omega
  · rw [Int32.le_iff_toInt_le, cmK]; show _ ≤ (m.l + m.w).toInt; omega
  · rw [Int32.le_iff_toInt_le, cmM]; show _ ≤ (m.l + m.w).toInt; omega
  · rw [Int32.le_iff_toInt_le, cmK]; show _ ≤ (m.t + m.h).toInt; omega
  · rw [Int32.le_iff_toInt_le, cmM]; show _ ≤ (m.t + m.h).toInt; omega
theorem box_in {B : List Ob} (hB : ∃ m ∈ B, m.fm ≠ 3) (hw : ∀ m ∈ B, wfO m) : (-200 ≤ (lo B Ob.l 100000).toInt ∧ (lo B Ob.l 100000).toInt ≤ 200) ∧ (-200 ≤ (lo B Ob.t 100000).toInt ∧ (lo B Ob.t 100000).toInt ≤ 200) ∧ (-200 ≤ (hi B (fun o => o.l + o.w) (-100000)).toInt ∧ (hi B (fun o => o.l + o.w) (-100000)).toInt ≤ 200) ∧ (-200 ≤ (hi B (fun o => o.t + o.h) (-100000)).toInt ∧ (hi B (fun o => o.t + o.h) (-100000)).toInt ≤ 200) := by
  obtain ⟨m, hm, h3⟩ := hB
  obtain ⟨-, h1, h2, h4, h5, h6, h7⟩ := wf_sh (hw m hm) h3
  obtain ⟨s1, s2⟩ := wf_sums (hw m hm) h3
  refine ⟨⟨lo_ge B _ (by rw [cK]; omega) (fun o ho q => (wf_sh (hw o ho) q).2.1), ?_⟩, ⟨lo_ge B _ (by rw [cK]; omega) (fun o ho q => (wf_sh (hw o ho) q).2.2.1), ?_⟩, ⟨?_, hi_le B _ (by rw [cmK]; omega) (fun o ho q => ?_)⟩, ⟨?_, hi_le B _ (by rw [cmK]; omega) (fun o ho q => ?_)⟩⟩
  · have := (lo_le (f := Ob.l) B 100000).2 m hm h3
    omega
  · have := (lo_le (f := Ob.t) B 100000).2 m hm h3
    omega
  · have := (hi_ge (f := fun o => o.l + o.w) B (-100000)).2 m hm h3
    omega
  · have g := wf_sh (hw o ho) q
    have := (wf_sums (hw o ho) q).1
    omega
  · have := (hi_ge (f := fun o => o.t + o.h) B (-100000)).2 m hm h3
    omega
  · have g := wf_sh (hw o ho) q
    have := (wf_sums (hw o ho) q).2
    omega
/-- a drawing that the first n actions can have made -/
def WF (D : List Ob) (n : Nat) : Prop := Fo none D ∧ Gd D ∧ D.length ≤ 12 ∧ ∀ o ∈ D, o.nm < n ∧ wfO o
theorem wf_lim {D : List Ob} {n : Nat} (h : WF D n) : Lim D := ⟨h.2.2.1, fun i o ho => wf_ok (h.2.2.2 o (at_mem ho)).2⟩
theorem wf_mono {D : List Ob} {n : Nat} (h : WF D n) : WF D (n + 1) := ⟨h.1, h.2.1, h.2.2.1, fun o ho => ⟨by have := (h.2.2.2 o ho).1; omega, (h.2.2.2 o ho).2⟩⟩
theorem wf_c {D : List Ob} {n : Nat} (h : WF D n) : ∀ o ∈ D, o.fm = 3 → o.c = -1 := by
  intro o ho h3
  rcases (h.2.2.2 o ho).2 with q | q
  · exact q.2
  · exact absurd h3 (fm_ne q.1)
theorem sp_of {D : List Ob} {n x : Nat} (hW : WF D n) (hx : ∃ o ∈ D, o.nm = x) : ∃ (u1 s1 : List Ob) (o : Ob) (sub s2 u2 : List Ob), D = u1 ++ (s1 ++ (o :: (sub ++ (s2 ++ u2)))) ∧ o.nm = x ∧ Co o.p u1 u2 ∧ Fo o.p s1 ∧ Fo o.p s2 ∧ Bl o sub := by
  obtain ⟨o, ho, hn⟩ := hx
  obtain ⟨l1, r, he⟩ := List.append_of_mem ho
  obtain ⟨u1, s1, sub, s2, u2, h1, h2, h3, h4, h5, h6⟩ := split hW.1 he
  exact ⟨u1, s1, o, sub, s2, u2, by rw [he, h1, h2]; simp, hn, h3, h4, h5, h6⟩
theorem fo_map {f : Ob → Ob} (hf : fsk f) {q : Option Nat} {D : List Ob} (h : Fo q D) : Fo q (D.map f) := by
  refine Fo.ind (M := fun q D => Fo q (D.map f)) ?_ ?_ ?_ h
  · exact Fo.nil
  · intro q o r h1 h2 _ ih
    exact Fo.sh ((hf o).2.1.trans h1) (by rw [(hf o).2.2]; exact h2) ih
  · intro q o s r h1 h2 h3 _ _ ih4 ih5
    rw [List.map_cons, List.map_append]
    exact Fo.gr ((hf o).2.1.trans h1) ((hf o).2.2.trans h2) (by simp [h3]) (by rw [(hf o).1]; exact ih4) ih5
theorem bl_map {f : Ob → Ob} (hf : fsk f) {o : Ob} {sub : List Ob} (h : Bl o sub) : Bl (f o) (sub.map f) := by
  rcases h with ⟨h1, rfl⟩ | ⟨h1, h2, h3⟩
  · exact Or.inl ⟨by rw [(hf o).2.2]; exact h1, rfl⟩
  · exact Or.inr ⟨(hf o).2.2.trans h1, by simp [h2], by rw [(hf o).1]; exact fo_map hf h3⟩
theorem wf_map {n : Nat} {u1 s1 sub s2 u2 : List Ob} {o : Ob} (hW : WF (u1 ++ (s1 ++ (o :: (sub ++ (s2 ++ u2))))) n) (co : Co o.p u1 u2) (f1 : Fo o.p s1) (f2 : Fo o.p s2) (bl : Bl o sub) {f : Ob → Ob} (hf : fsk f) (hw : ∀ m ∈ o :: sub, wfO (f m)) : WF ((u1 ++ s1) ++ ((o :: sub).map f ++ (s2 ++ u2))) n := by
  have heq : u1 ++ (s1 ++ (o :: (sub ++ (s2 ++ u2)))) = (u1 ++ s1) ++ ((o :: sub) ++ (s2 ++ u2)) := by simp
  rw [heq] at hW
  obtain ⟨h1, h2, h3, h4⟩ := hW
  refine ⟨?_, ?_, ?_, ?_⟩
  · have := plug co (B := s1 ++ (f o :: (sub.map f ++ s2))) (fo_app f1 (fo_blk (hf o).2.1 (bl_map hf bl) f2)) (Or.inl (by simp))
    simpa using this
  · rw [← mp_mid]
    exact gd_mp (fun z => (hf z).1) h2
  · simp only [List.length_append, List.length_map] at h3 ⊢
    exact h3
  · intro m hm
    have hin : ∀ z, z ∈ u1 ++ s1 ∨ z ∈ o :: sub ∨ z ∈ s2 ++ u2 → z.nm < n ∧ wfO z := fun z hz => h4 z (List.mem_append.mpr (hz.imp_right List.mem_append.mpr))
    rcases List.mem_append.mp hm with hm | hm
    · exact hin m (Or.inl hm)
    · rcases List.mem_append.mp hm with hm | hm
      · obtain ⟨z, hz, rfl⟩ := List.mem_map.mp hm
        exact ⟨by rw [(hf z).1]; exact (hin z (Or.inr (Or.inl hz))).1, hw z hz⟩
      · exact hin m (Or.inr (Or.inr hm))
