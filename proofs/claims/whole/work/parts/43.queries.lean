theorem top_dec (D : List Ob) (x y : Int32) : (∀ (i : Nat) (o : Ob), D[i]? = some o → ¬ cov o x y) ∨ ∃ (k : Nat) (o : Ob), D[k]? = some o ∧ cov o x y ∧ ∀ (j : Nat) (o' : Ob), k < j → D[j]? = some o' → ¬ cov o' x y := by
  have key : ∀ r, r ≤ D.length → (∀ (i : Nat) (o : Ob), D.length - r ≤ i → D[i]? = some o → ¬ cov o x y) ∨ ∃ (k : Nat) (o : Ob), D[k]? = some o ∧ cov o x y ∧ ∀ (j : Nat) (o' : Ob), k < j → D[j]? = some o' → ¬ cov o' x y := by
    intro r
    induction r with
    | zero =>
      intro _
      refine Or.inl (fun i o h1 h2 => ?_)
      have := at_lt h2
      omega
    | succ r ih =>
      intro hr
      rcases ih (by omega) with h | h
      · obtain ⟨o, ho⟩ := at_some (D := D) (i := D.length - (r + 1)) (by omega)
        by_cases hc : cov o x y
        · exact Or.inr ⟨_, o, ho, hc, fun j o' h1 h2 => h j o' (by omega) h2⟩
        · refine Or.inl (fun i o' h1 h2 => ?_)
          by_cases hi : i = D.length - (r + 1)
          · subst hi
            rw [Option.some.inj (h2.symm.trans ho)]
            exact hc
          · exact h i o' (by omega) h2
      · exact Or.inr h
  rcases key D.length (Nat.le_refl _) with h | h
  · exact Or.inl (fun i o h1 => h i o (by omega) h1)
  · exact Or.inr h
theorem rtop_none {post : Int32 → Mem → Prop} {S : Mem} {D : List Ob} {n : Nat} {x y : Int32} (hR : RD S D) (hW : WF D n) (hno : ∀ (i : Nat) (o : Ob), D[i]? = some o → ¬ cov o x y) (hp : post (-1) S) : r_covering post S x y := by
  have hl := hW.2.2.1
  have key : ∀ (m i : Nat), i + m = D.length → r_covering_L5 post (m + 1) S x y (-1) (nI i) := by
    intro m
    induction m with
    | zero =>
      intro i hi
      unfold r_covering_L5
      rw [hR.1, q_le (by omega) (by omega)]
      exact ⟨fun _ => hp, fun h => absurd (show D.length ≤ i by omega) h⟩
    | succ m ih =>
      intro i hi
      obtain ⟨o, ho⟩ := at_some (D := D) (i := i) (by omega)
      unfold r_covering_L5
      rw [hR.1, q_le (by omega) (by omega)]
      refine ⟨fun h => absurd h (by omega), fun _ => rcov (by omega) (rd_at hR ho) (hW.2.2.2 o (at_mem ho)).2 (fun c => absurd c (hno i o ho)) (fun _ => ?_)⟩
      rw [if_pos rfl, q_1]
      exact ih (i + 1) (by omega)
  exact ⟨D.length + 1, key D.length 0 (by omega)⟩
theorem rtop_some {post : Int32 → Mem → Prop} {S : Mem} {D : List Ob} {n : Nat} {x y : Int32} (hR : RD S D) (hW : WF D n) {k : Nat} {o : Ob} (hk : D[k]? = some o) (hc : cov o x y) (hmax : ∀ (j : Nat) (o' : Ob), k < j → D[j]? = some o' → ¬ cov o' x y) (hp : post (nI k) S) : r_covering post S x y := by
  have hl := hW.2.2.1
  have hkl := at_lt hk
  have key : ∀ (m i : Nat) (acc : Int32), i + m = D.length → (i ≤ k ∨ acc = nI k) → r_covering_L5 post (m + 1) S x y acc (nI i) := by
    intro m
    induction m with
    | zero =>
      intro i acc hi ha
      unfold r_covering_L5
      rw [hR.1, q_le (by omega) (by omega)]
      exact ⟨fun _ => ha.resolve_left (by omega) ▸ hp, fun h => absurd (show D.length ≤ i by omega) h⟩
    | succ m ih =>
      intro i acc hi ha
      obtain ⟨z, hz⟩ := at_some (D := D) (i := i) (by omega)
      unfold r_covering_L5
      rw [hR.1, q_le (by omega) (by omega)]
      refine ⟨fun h => absurd h (by omega), fun _ => rcov (by omega) (rd_at hR hz) (hW.2.2.2 z (at_mem hz)).2 (fun c => ?_) (fun c => ?_)⟩
      · rw [if_neg (by decide), q_1]
        refine ih (i + 1) _ (by omega) ?_
        by_cases hik : i = k
        · exact Or.inr (by rw [hik])
        · by_cases hlt : k < i
          · exact absurd c (hmax i z hlt hz)
          · exact Or.inl (by omega)
      · rw [if_pos rfl, q_1]
        refine ih (i + 1) _ (by omega) ?_
        by_cases hik : i = k
        · subst hik
          rw [Option.some.inj (hz.symm.trans hk)] at c
          exact absurd hc c
        · by_cases hlt : k < i
          · exact Or.inr (ha.resolve_left (by omega))
          · exact Or.inl (by omega)
  exact ⟨D.length + 1, key D.length 0 (-1) (by omega) (Or.inl (by omega))⟩
theorem ctop {post : Int32 → Mem → Prop} {S : Mem} {d : Nat} {D : List Ob} {n : Nat} {x y : Int32} (hC : CD S d D) (hW : WF D n) (hq : (∀ (i : Nat) (o : Ob), D[i]? = some o → ¬ cov o x y) → post (-1) S) (hs : ∀ (k : Nat) (o : Ob), D[k]? = some o → cov o x y → (∀ (j : Nat) (o' : Ob), k < j → D[j]? = some o' → ¬ cov o' x y) → post (nI o.nm) S) : cw_topShapeAt post S d x y := by
  have hl := hW.2.2.1
  have key : ∀ (m : Nat), m ≤ D.length → (∀ (i : Nat) (o : Ob), m ≤ i → D[i]? = some o → ¬ cov o x y) → cw_topShapeAt_L7 post (m + 1) S d x y (nI m - 1) := by
    intro m
    induction m with
    | zero =>
      intro _ hno
      unfold cw_topShapeAt_L7
      have h1 : nI 0 - 1 < 0 := by decide +kernel
      exact ⟨fun _ => hq (fun i o h => hno i o (by omega) h), fun h => absurd h1 h⟩
    | succ m ih =>
      intro hm hno
      obtain ⟨o, ho⟩ := at_some (D := D) (i := m) (by omega)
      have hn := gd_lt hW.2.1 (at_mem ho)
      have e1 : nI (m + 1) - 1 = nI m := by
        rw [show (1 : Int32) = nI 1 from rfl, q_sub (by omega)]; congr 1
      have e2 : nI m + (-1) = nI m - 1 := (Int32.sub_eq_add_neg _ _).symm
      unfold cw_topShapeAt_L7
      rw [e1, nI_clamp (show m < 2 ^ 31 by omega), hC.1.2 m o ho, nI_clamp (show o.nm < 2 ^ 31 by omega), e2]
      refine ⟨fun h => absurd h (q_nlt0 (by omega)), fun _ => ⟨q_in (by omega) (by omega), q_in (by omega) (by omega), ccov (hC.2.1 o (at_mem ho)) (hW.2.2.2 o (at_mem ho)).2 (fun c => ⟨fun h => absurd h (by decide), fun _ => ⟨q_in (by omega) (by omega), ?_⟩⟩) (fun c => ⟨fun _ => ?_, fun h => absurd rfl h⟩)⟩⟩
      · rw [hC.1.2 m o ho]
        exact hs m o ho c (fun j o' h1 h2 => hno j o' (by omega) h2)
      · refine ih (by omega) (fun i o' h1 h2 => ?_)
        by_cases him : i = m
        · subst him
          rw [Option.some.inj (h2.symm.trans ho)]
          exact c
        · exact hno i o' (by omega) h2
  unfold cw_topShapeAt
  rw [hC.1.1]
  exact ⟨D.length + 1, key D.length (Nat.le_refl _) (fun i o h1 h2 => by have := at_lt h2; omega)⟩
theorem col_ex (D : List Ob) (x y : Int32) : ∃ v : Int32, ((∀ (i : Nat) (o : Ob), D[i]? = some o → ¬ cov o x y) ∧ v = -1) ∨ ∃ (k : Nat) (o : Ob), D[k]? = some o ∧ cov o x y ∧ (∀ (j : Nat) (o' : Ob), k < j → D[j]? = some o' → ¬ cov o' x y) ∧ v = o.c := by
  rcases top_dec D x y with h | ⟨k, o, h1, h2, h3⟩
  · exact ⟨-1, Or.inl ⟨h, rfl⟩⟩
  · exact ⟨o.c, Or.inr ⟨k, o, h1, h2, h3, rfl⟩⟩
noncomputable def colr (D : List Ob) (x y : Int32) : Int32 := Classical.choose (col_ex D x y)
theorem top_one {D : List Ob} {x y : Int32} {k k' : Nat} {o o' : Ob} (h1 : D[k]? = some o) (h2 : cov o x y) (h3 : ∀ (j : Nat) (z : Ob), k < j → D[j]? = some z → ¬ cov z x y) (g1 : D[k']? = some o') (g2 : cov o' x y) (g3 : ∀ (j : Nat) (z : Ob), k' < j → D[j]? = some z → ¬ cov z x y) : k = k' ∧ o = o' := by
  have : k = k' := by
    rcases Nat.lt_trichotomy k k' with h | h | h
    · exact absurd g2 (h3 k' o' h g1)
    · exact h
    · exact absurd h2 (g3 k o h h1)
  subst this
  exact ⟨rfl, Option.some.inj (h1.symm.trans g1)⟩
theorem ccol {post : Int32 → Mem → Prop} {S : Mem} {d : Nat} {D : List Ob} {n : Nat} {x y : Int32} (hC : CD S d D) (hW : WF D n) (hp : post (colr D x y) S) : cw_colourAt post S d x y := by
  have hsp := Classical.choose_spec (col_ex D x y)
  change ((∀ (i : Nat) (o : Ob), D[i]? = some o → ¬ cov o x y) ∧ colr D x y = -1) ∨ ∃ (k : Nat) (o : Ob), D[k]? = some o ∧ cov o x y ∧ (∀ (j : Nat) (o' : Ob), k < j → D[j]? = some o' → ¬ cov o' x y) ∧ colr D x y = o.c at hsp
  refine ctop hC hW (fun hno => ⟨fun h => absurd rfl h, ?_⟩) (fun k o h1 h2 h3 => ?_)
  · rw [if_pos rfl]
    rcases hsp with ⟨-, hv⟩ | ⟨k, o, h1, h2, -⟩
    · rw [← hv]; exact hp
    · exact absurd h2 (hno k o h1)
  · have hn := gd_lt hW.2.1 (at_mem h1)
    rw [if_neg (q_neg (by omega)), nI_clamp (by omega), (hC.2.1 o (at_mem h1)).2.1]
    refine ⟨fun _ => q_in (by omega) (by omega), ?_⟩
    rcases hsp with ⟨hno, -⟩ | ⟨k', o', g1, g2, g3, hv⟩
    · exact absurd h2 (hno k o h1)
    · rw [(top_one h1 h2 h3 g1 g2 g3).2, ← hv]
      exact hp
theorem rcol {K : Int32 → Mem → Prop} {S : Mem} {D : List Ob} {n : Nat} {x y : Int32} (hR : RD S D) (hW : WF D n) (hp : K (colr D x y) S) : r_covering (fun r1 S1 => ((0 ≤ r1 → (vp_in ((8 * r1) + 6) 112))) ∧ K (if 0 ≤ r1 then (S1 154 ((8 * r1) + 6).toNatClampNeg) else (-1) : Int32) S1) S x y := by
  have hl := hW.2.2.1
  rcases Classical.choose_spec (col_ex D x y) with ⟨hno, hv⟩ | ⟨k, o, h1, h2, h3, hv⟩
  · refine rtop_none hR hW hno ⟨fun h => absurd h (by decide), ?_⟩
    rw [if_neg (by decide), ← hv]
    exact hp
  · have hkl := at_lt h1
    refine rtop_some hR hW h1 h2 h3 ⟨fun _ => vi6 (by omega), ?_⟩
    rw [if_pos (q_ge0 (by omega)), ix6 (by omega), (rd_at hR h1).2.2.1, ← hv]
    exact hp
/-- how many of the first j places show the colour -/
noncomputable def shw (D : List Ob) (x y : Int32) (n : Nat) (c : Int32) : Nat → Int32
  | 0 => 0
  | j + 1 => if colr D (x + nI (j % n)) (y + nI (j / n)) = c then shw D x y n c j + 1 else shw D x y n c j
theorem cshown_in {post : Int32 → Mem → Prop} {ex : Nat → Mem → Prop} {K : Mem → Int32 → Int32 → Int32 → Int32 → Int32 → Int32 → Prop} {S : Mem} {D : List Ob} {nn : Nat} {x y c : Int32} {n r : Nat} (hC : CD S 87 D) (hW : WF D nn) (hn : n ≤ 8) (hr : r < n) (hK : K S x y (nI n) c (shw D x y n c (r * n + n)) (nI (r + 1))) : ∀ (m q : Nat), q + m = n → cd_shown_L34 post ex K (m + 1) S x y (nI n) c (shw D x y n c (r * n + q)) (nI r) (nI q) := by
  intro m
  induction m with
  | zero =>
    intro q hq
    have : q = n := by omega
    subst this
    unfold cd_shown_L34
    rw [q_1]
    exact ⟨fun _ => hK, fun h => absurd (Int32.le_refl _) h⟩
  | succ m ih =>
    intro q hq
    have hqn : q < n := by omega
    have hmod : (r * n + q) % n = q := by rw [Nat.add_comm, Nat.add_mul_mod_self_right, Nat.mod_eq_of_lt hqn]
    have hdiv : (r * n + q) / n = r := by rw [Nat.add_comm, Nat.add_mul_div_right _ _ (by omega), Nat.div_eq_of_lt hqn, Nat.zero_add]
    have hst : shw D x y n c (r * n + (q + 1)) = if colr D (x + nI q) (y + nI r) = c then shw D x y n c (r * n + q) + 1 else shw D x y n c (r * n + q) := by
      show (if colr D (x + nI ((r * n + q) % n)) (y + nI ((r * n + q) / n)) = c then shw D x y n c (r * n + q) + 1 else shw D x y n c (r * n + q)) = _
      rw [hmod, hdiv]
    have := ih (q + 1) (by omega)
    rw [hst] at this
    unfold cd_shown_L34
    rw [q_le (show n < 2 ^ 31 by omega) (show q < 2 ^ 31 by omega), q_1 q]
    refine ⟨fun h => absurd h (by omega), fun _ => ccol hC hW ⟨fun h => ?_, fun h => ?_⟩⟩
    · rwa [if_neg h] at this
    · rwa [if_pos h] at this
theorem cshown {post : Int32 → Mem → Prop} {ex : Nat → Mem → Prop} {S : Mem} {D : List Ob} {nn : Nat} {x y c : Int32} {n : Nat} (hC : CD S 87 D) (hW : WF D nn) (hn : n ≤ 8) (hp : post (shw D x y n c (n * n)) S) : ∃ N, cd_shown_L25 post ex N S x y (nI n) c 0 0 := by
  have key : ∀ (m r : Nat), r + m = n → cd_shown_L25 post ex (m + 1) S x y (nI n) c (shw D x y n c (r * n)) (nI r) := by
    intro m
    induction m with
    | zero =>
      intro r hr
      have : r = n := by omega
      subst this
      unfold cd_shown_L25
      exact ⟨fun _ => hp, fun h => absurd (Int32.le_refl _) h⟩
    | succ m ih =>
      intro r hr
      unfold cd_shown_L25
      rw [q_le (show n < 2 ^ 31 by omega) (show r < 2 ^ 31 by omega)]
      refine ⟨fun h => absurd h (by omega), fun _ => ⟨n + 1, ?_⟩⟩
      refine cshown_in hC hW hn (by omega) ?_ n 0 (by omega)
      have := ih (r + 1) (by omega)
      rwa [Nat.succ_mul] at this
  refine ⟨n + 1, ?_⟩
  have := key n 0 (by omega)
  rw [Nat.zero_mul] at this
  exact this
theorem q_div {a b : Nat} (ha : a < 2 ^ 31) (hb : b < 2 ^ 31) (hb0 : 0 < b) : nI a / nI b = nI (a / b) := by
  apply Int32.toInt_inj.mp
  have h1 : a / b ≤ a := Nat.div_le_self a b
  rw [div_toInt (by rw [nI_toInt ha]; omega) (by rw [nI_toInt hb]; omega), nI_toInt ha, nI_toInt hb, nI_toInt (by omega)]
  exact (Int.natCast_ediv a b).symm
theorem q_mod {a b : Nat} (ha : a < 2 ^ 31) (hb : b < 2 ^ 31) (hb0 : 0 < b) : nI a - nI a / nI b * nI b = nI (a % b) := by
  have h1 : a / b * b ≤ a := Nat.div_mul_le_self a b
  rw [q_div ha hb hb0, q_mul, q_sub h1]
  congr 1
  have := Nat.div_add_mod a b
  rw [Nat.mul_comm] at this
  omega
theorem rshown {post : Int32 → Mem → Prop} {S : Mem} {D : List Ob} {nn : Nat} {x y c : Int32} {n : Nat} (hR : RD S D) (hW : WF D nn) (h1 : 1 ≤ n) (hn : n ≤ 8) (h0 : S 148 0 = 0) (hp : post (shw D x y n c (n * n)) S) : ∃ N, r_shown_L26 post N S x y (nI n) c 0 0 := by
  have hnn : n * n ≤ 64 := by
    have := Nat.mul_le_mul hn hn
    omega
  have key : ∀ (m j : Nat), j + m = n * n → r_shown_L26 post (m + 1) S x y (nI n) c (shw D x y n c j) (nI j) := by
    intro m
    induction m with
    | zero =>
      intro j hj
      have : j = n * n := by omega
      subst this
      unfold r_shown_L26
      rw [q_mul]
      exact ⟨fun _ => hp, fun h => absurd (Int32.le_refl _) h⟩
    | succ m ih =>
      intro j hj
      have hne : ¬ nI n = 0 := by
        rw [show (0 : Int32) = nI 0 from rfl, q_eq (by omega) (by omega)]
        omega
      have := ih (j + 1) (by omega)
      unfold r_shown_L26
      rw [q_mul, q_le (by omega) (by omega), q_mod (by omega) (by omega) (by omega), q_div (by omega) (by omega) (by omega), q_1]
      refine ⟨fun h => absurd h (by omega), fun _ => ⟨fun h => absurd h0 h, fun _ => ⟨hne, hne, ?_⟩⟩⟩
      exact rcol (K := fun v S1 => r_shown_L26 post (m + 1) S1 x y (nI n) c (if v = c then (shw D x y n c j + 1) else shw D x y n c j : Int32) (nI (j + 1))) hR hW this
  exact ⟨n * n + 1, key (n * n) 0 (by omega)⟩
def lies (o : Ob) (x0 y0 x1 y1 : Int32) : Prop := o.fm ≠ 3 ∧ ¬ o.l < x0 ∧ ¬ o.t < y0 ∧ ¬ x1 < o.l + o.w ∧ ¬ y1 < o.t + o.h
noncomputable def ins (x0 y0 x1 y1 k : Int32) : List Ob → Nat → Int32
  | [], _ => -1
  | o :: r, c => @ite _ (lies o x0 y0 x1 y1) (Classical.propDecidable _) (if nI c = k then nI o.nm else ins x0 y0 x1 y1 k r (c + 1)) (ins x0 y0 x1 y1 k r c)
theorem lies_if {o : Ob} {x0 y0 x1 y1 : Int32} : (lies o x0 y0 x1 y1 ∧ (if o.fm = 3 then 0 else (if o.l < x0 then 0 else (if o.t < y0 then 0 else (if x1 < (o.l + o.w) then 0 else (if y1 < (o.t + o.h) then 0 else 1 : Int32) : Int32) : Int32) : Int32) : Int32) = 1) ∨ (¬ lies o x0 y0 x1 y1 ∧ (if o.fm = 3 then 0 else (if o.l < x0 then 0 else (if o.t < y0 then 0 else (if x1 < (o.l + o.w) then 0 else (if y1 < (o.t + o.h) then 0 else 1 : Int32) : Int32) : Int32) : Int32) : Int32) = 0) := by
  by_cases h3 : o.fm = 3
  · exact Or.inr ⟨fun h => h.1 h3, if_pos h3⟩
  rw [if_neg h3]
  by_cases c1 : o.l < x0
  · exact Or.inr ⟨fun h => h.2.1 c1, if_pos c1⟩
  rw [if_neg c1]
  by_cases c2 : o.t < y0
  · exact Or.inr ⟨fun h => h.2.2.1 c2, if_pos c2⟩
  rw [if_neg c2]
  by_cases c3 : x1 < o.l + o.w
  · exact Or.inr ⟨fun h => h.2.2.2.1 c3, if_pos c3⟩
  rw [if_neg c3]
  by_cases c4 : y1 < o.t + o.h
  · exact Or.inr ⟨fun h => h.2.2.2.2 c4, if_pos c4⟩
  rw [if_neg c4]
  exact Or.inl ⟨⟨h3, c1, c2, c3, c4⟩, rfl⟩
theorem clies {post : Int32 → Mem → Prop} {S : Mem} {q : Nat} {o : Ob} {x0 y0 x1 y1 : Int32} (hI : It S q o) (hy : lies o x0 y0 x1 y1 → post 1 S) (hn : ¬ lies o x0 y0 x1 y1 → post 0 S) : ci_liesIn post S q x0 y0 x1 y1 := by
  unfold ci_liesIn ci_isShape
  dsimp only
  rw [hI.1]
  by_cases h3 : o.fm = 3
  · rw [if_pos h3, if_pos rfl]
    exact ⟨nar0, nar0, hn (fun h => h.1 h3)⟩
  · obtain ⟨e2, e3, e4, e5⟩ := hI.2.2.2 h3
    have hl := lies_if (o := o) (x0 := x0) (y0 := y0) (x1 := x1) (y1 := y1)
    rw [if_neg h3] at hl
    rw [if_neg h3, if_neg (show ¬ (1 : Int32) = 0 by decide), e2, e3, e4, e5]
    rcases hl with ⟨hl, hv⟩ | ⟨hl, hv⟩
    · rw [hv]
      exact ⟨nar1, nar1, hy hl⟩
    · rw [hv]
      exact ⟨nar1, nar0, hn hl⟩
theorem cinside {post : Int32 → Mem → Prop} {S : Mem} {D : List Ob} {nn : Nat} {x0 y0 x1 y1 k : Int32} (hC : CD S 87 D) (hW : WF D nn) (hp : post (ins x0 y0 x1 y1 k D 0) S) : cd_inside post S x0 y0 x1 y1 k := by
  have hl := hW.2.2.1
  have key : ∀ (m i c : Nat), i + m = D.length → c ≤ i → post (ins x0 y0 x1 y1 k (D.drop i) c) S → cd_inside_L6 post (m + 1) S x0 y0 x1 y1 k (nI c) (nI i) := by
    intro m
    induction m with
    | zero =>
      intro i c hi hc hq
      unfold cd_inside_L6
      rw [hC.1.1, q_le (by omega) (by omega)]
      rw [List.drop_eq_nil_of_le (by omega)] at hq
      exact ⟨fun _ => hq, fun h => absurd (show D.length ≤ i by omega) h⟩
    | succ m ih =>
      intro i c hi hc hq
      obtain ⟨o, ho⟩ := at_some (D := D) (i := i) (by omega)
      have hn := gd_lt hW.2.1 (at_mem ho)
      obtain ⟨h1, h2⟩ := List.getElem?_eq_some_iff.mp ho
      rw [List.drop_eq_getElem_cons h1, h2] at hq
      unfold ins at hq
      have hod : S 113 i = nI o.nm := hC.1.2 i o ho
      unfold cd_inside_L6
      rw [hC.1.1, q_le (by omega) (by omega), nI_clamp (show i < 2 ^ 31 by omega), hod, nI_clamp (show o.nm < 2 ^ 31 by omega), q_1, q_1]
      refine ⟨fun h => absurd h (by omega), fun _ => ⟨q_in (by omega) (by omega), q_in (by omega) (by omega), clies (hC.2.1 o (at_mem ho)) (fun hl => ⟨fun h => absurd h (by decide), fun _ => ⟨fun hne => ?_, fun he => ?_⟩⟩) (fun hl => ⟨fun _ => ?_, fun h => absurd rfl h⟩)⟩⟩
      · rw [if_pos hl, if_neg hne] at hq
        exact ih (i + 1) (c + 1) (by omega) (by omega) hq
      · rw [if_pos hl, if_pos he] at hq
        exact hq
      · rw [if_neg hl] at hq
        exact ih (i + 1) c (by omega) (by omega) hq
  exact ⟨D.length + 1, key D.length 0 0 (by omega) (by omega) (by rw [List.drop_zero]; exact hp)⟩
theorem sub2 (k a b : Int32) : k - a - b = k - (a + b) := by
  have h : k - a - b + (a + b) = k := by rw [Int32.add_comm a b, ← Int32.add_assoc, Int32.sub_add_cancel, Int32.sub_add_cancel]
  calc k - a - b = (k - a - b + (a + b)) - (a + b) := (Int32.add_sub_cancel _ _).symm
    _ = k - (a + b) := by rw [h]
theorem sub_0 {k a : Int32} : k - a = 0 ↔ a = k := by
  constructor
  · intro h
    have := Int32.sub_add_cancel k a
    rw [h, Int32.zero_add] at this
    exact this
  · intro h
    rw [h, Int32.sub_self]
theorem rinside {post : Int32 → Mem → Prop} {S : Mem} {D : List Ob} {nn : Nat} {x0 y0 x1 y1 k : Int32} (hR : RD S D) (hW : WF D nn) (hp : post (ins x0 y0 x1 y1 k D 0) S) : ∃ N, r_inside_L12 post N S x0 y0 x1 y1 k 0 := by
  have hl := hW.2.2.1
  have key : ∀ (m i c : Nat), i + m = D.length → c ≤ i → post (ins x0 y0 x1 y1 k (D.drop i) c) S → r_inside_L12 post (m + 1) S x0 y0 x1 y1 (k - nI c) (nI i) := by
    intro m
    induction m with
    | zero =>
      intro i c hi hc hq
      unfold r_inside_L12
      rw [hR.1, q_le (by omega) (by omega)]
      rw [List.drop_eq_nil_of_le (by omega)] at hq
      exact ⟨fun _ => hq, fun h => absurd (show D.length ≤ i by omega) h⟩
    | succ m ih =>
      intro i c hi hc hq
      obtain ⟨o, ho⟩ := at_some (D := D) (i := i) (by omega)
      have hn := gd_lt hW.2.1 (at_mem ho)
      obtain ⟨h1, h2⟩ := List.getElem?_eq_some_iff.mp ho
      rw [List.drop_eq_getElem_cons h1, h2] at hq
      unfold ins at hq
      obtain ⟨r0, r1, r6, r7, rb⟩ := rd_at hR ho
      have e1 : k - nI c - 1 = k - nI (c + 1) := by rw [sub2, q_1]
      unfold r_inside_L12 r_inside_J118
      rw [hR.1, q_le (by omega) (by omega), ix0 (by omega), ix1 (by omega), ix2 (by omega), ix3 (by omega), ix4 (by omega), ix5 (by omega), r0, r1, q_1, e1, sub_0]
      refine ⟨fun h => absurd h (by omega), fun _ => ⟨vi1 (by omega), fun _ => ⟨vi2 (by omega), fun _ => ⟨vi3 (by omega), fun _ => ⟨vi2 (by omega), vi4 (by omega), fun _ => ⟨vi3 (by omega), vi5 (by omega)⟩⟩⟩⟩, ?_⟩⟩
      have hli := lies_if (o := o) (x0 := x0) (y0 := y0) (x1 := x1) (y1 := y1)
      have hsame : (if o.fm = 3 then 0 else (if (S 154 (8 * i + 2)) < x0 then 0 else (if (S 154 (8 * i + 3)) < y0 then 0 else (if x1 < ((S 154 (8 * i + 2)) + (S 154 (8 * i + 4))) then 0 else (if y1 < ((S 154 (8 * i + 3)) + (S 154 (8 * i + 5))) then 0 else 1 : Int32) : Int32) : Int32) : Int32) : Int32) = (if o.fm = 3 then 0 else (if o.l < x0 then 0 else (if o.t < y0 then 0 else (if x1 < (o.l + o.w) then 0 else (if y1 < (o.t + o.h) then 0 else 1 : Int32) : Int32) : Int32) : Int32) : Int32) := by
        by_cases h3 : o.fm = 3
        · rw [if_pos h3, if_pos h3]
        · obtain ⟨e2, e3, e4, e5⟩ := rb h3
          rw [e2, e3, e4, e5]
      rw [hsame]
      rcases hli with ⟨hl', hv⟩ | ⟨hl', hv⟩
      · rw [hv, if_neg (show ¬ (1 : Int32) = 0 by decide)]
        rw [if_pos hl'] at hq
        refine ⟨fun h => absurd h (by decide), fun _ => ⟨fun hne => ?_, fun he => ⟨vi0 (by omega), ?_⟩⟩⟩
        · rw [if_neg hne] at hq
          exact ih (i + 1) (c + 1) (by omega) (by omega) hq
        · rw [if_pos he] at hq
          exact hq
      · rw [hv, if_pos (show (0 : Int32) = 0 from rfl)]
        rw [if_neg hl'] at hq
        refine ⟨fun _ => ih (i + 1) c (by omega) (by omega) hq, fun h => absurd rfl h⟩
  refine ⟨D.length + 1, ?_⟩
  have := key D.length 0 0 (by omega) (by omega) (by rw [List.drop_zero]; exact hp)
  rw [show nI 0 = 0 from rfl, Int32.sub_zero] at this
  exact this
