/-- row k of the reference's array a holds o; the box of a group is not looked at -/
def Rw (a : Nat) (S : Mem) (k : Nat) (o : Ob) : Prop := S a (8 * k + 0) = nI o.nm ∧ S a (8 * k + 1) = o.fm ∧ S a (8 * k + 6) = o.c ∧ S a (8 * k + 7) = pI o.p ∧ (o.fm ≠ 3 → S a (8 * k + 2) = o.l ∧ S a (8 * k + 3) = o.t ∧ S a (8 * k + 4) = o.w ∧ S a (8 * k + 5) = o.h)
/-- the reference's drawing is D -/
def RD (S : Mem) (D : List Ob) : Prop := S 148 7 = nI D.length ∧ ∀ (k : Nat) (o : Ob), D[k]? = some o → Rw 154 S k o
/-- nothing but the cells of t differs -/
def Fq (t : Nat → Nat → Prop) (S S' : Mem) : Prop := ∀ a i : Nat, ¬ t a i → S' a i = S a i
theorem Fq.rf {t : Nat → Nat → Prop} {S : Mem} : Fq t S S := fun _ _ _ => rfl
theorem Fq.tr {t : Nat → Nat → Prop} {S S1 S2 : Mem} (h1 : Fq t S S1) (h2 : Fq t S1 S2) : Fq t S S2 := fun a i h => (h2 a i h).trans (h1 a i h)
theorem Fq.mono {t t' : Nat → Nat → Prop} {S S1 : Mem} (h1 : Fq t S S1) (h : ∀ a i, t a i → t' a i) : Fq t' S S1 := fun a i h' => h1 a i (fun q => h' (h a i q))
def t1 (a i : Nat) : Prop := a = 154 ∨ (a = 148 ∧ i = 7)
def t2 (a i : Nat) : Prop := a = 154 ∨ a = 156 ∨ (a = 148 ∧ i = 7)
def tAc (a i : Nat) : Prop := a = 154 ∨ a = 156 ∨ (a = 148 ∧ (i = 7 ∨ (12 ≤ i ∧ i ≤ 15)))
theorem t1_2 (a i : Nat) (h : t1 a i) : t2 a i := by unfold t1 at h; unfold t2; omega
theorem t1_Ac (a i : Nat) (h : t1 a i) : tAc a i := by unfold t1 at h; unfold tAc; omega
theorem t2_Ac (a i : Nat) (h : t2 a i) : tAc a i := by unfold t2 at h; unfold tAc; omega
theorem rw_of {a b : Nat} {S S' : Mem} {k j : Nat} {o : Ob} (h : Rw a S k o) (he : ∀ c : Nat, c < 8 → S' b (8 * j + c) = S a (8 * k + c)) : Rw b S' j o := by
  obtain ⟨h0, h1, h6, h7, hb⟩ := h
  refine ⟨(he 0 (by omega)).trans h0, (he 1 (by omega)).trans h1, (he 6 (by omega)).trans h6, (he 7 (by omega)).trans h7, fun h => ?_⟩
  obtain ⟨h2, h3, h4, h5⟩ := hb h
  exact ⟨(he 2 (by omega)).trans h2, (he 3 (by omega)).trans h3, (he 4 (by omega)).trans h4, (he 5 (by omega)).trans h5⟩
theorem cpy_at (S : Mem) (a b p q n x i : Nat) : cpy2 S a b p q n x i = if x = b ∧ q ≤ i ∧ i < q + n then S a (p + (i - q)) else S x i := by
  unfold cpy2 va_cpy
  by_cases hx : x = b
  · subst hx
    simp
  · simp [hx]
theorem cpy_0 (S : Mem) (a b p q : Nat) : cpy2 S a b p q 0 = S := by
  funext x i
  rw [cpy_at, if_neg (by omega)]
theorem cpy_step (S : Mem) (a b p q n : Nat) : up2 (cpy2 S a b p q n) b (q + n) (S a (p + n)) = cpy2 S a b p q (n + 1) := by
  funext x i
  unfold up2
  rw [cpy_at, cpy_at]
  by_cases h : x = b ∧ i = q + n
  · obtain ⟨rfl, rfl⟩ := h
    rw [if_pos ⟨rfl, rfl⟩, if_pos ⟨rfl, by omega, by omega⟩, Nat.add_sub_cancel_left]
  · rw [if_neg h]
    by_cases h2 : x = b ∧ q ≤ i ∧ i < q + n
    · rw [if_pos h2, if_pos ⟨h2.1, h2.2.1, by omega⟩]
    · rw [if_neg h2, if_neg (by omega)]
theorem rw_cpy {S : Mem} {a b k0 j0 m n : Nat} {o : Ob} (h : Rw a S (k0 + m) o) (hm : m < n) : Rw b (cpy2 S a b (8 * k0) (8 * j0) (8 * n)) (j0 + m) o := by
  refine rw_of h (fun c hc => ?_)
  rw [cpy_at, if_pos ⟨rfl, by omega, by omega⟩]
  congr 1
  omega
theorem rw_cpy_out {S : Mem} {a b k0 j0 m n x : Nat} {o : Ob} (h : Rw x S m o) (hm : x ≠ b ∨ m < j0 ∨ j0 + n ≤ m) : Rw x (cpy2 S a b (8 * k0) (8 * j0) (8 * n)) m o := by
  refine rw_of h (fun c hc => ?_)
  rw [cpy_at, if_neg (by omega)]
theorem rd_at {S : Mem} {D : List Ob} (h : RD S D) {k : Nat} {o : Ob} (hk : D[k]? = some o) : Rw 154 S k o := h.2 k o hk
/-- find: the place of a name -/
theorem find_some {post : Int32 → Mem → Prop} {S : Mem} {D : List Ob} (hR : RD S D) (hG : Gd D) {k : Nat} {o : Ob} (hk : D[k]? = some o) (hp : post (nI k) S) : r_find post S (nI o.nm) := by
  have hlen := hG.2.1
  have key : ∀ (m i : Nat) (acc : Int32), i + m = D.length → (i ≤ k ∨ acc = nI k) → r_find_L4 post (m + 1) S (nI o.nm) acc (nI i) := by
    intro m
    induction m with
    | zero =>
      intro i acc hi ha
      have := at_lt hk
      have hacc : acc = nI k := ha.resolve_left (by omega)
      unfold r_find_L4
      rw [hR.1, q_le (by omega) (by omega)]
      exact ⟨fun _ => hacc ▸ hp, fun h => absurd (show D.length ≤ i by omega) h⟩
    | succ m ih =>
      intro i acc hi ha
      obtain ⟨x, hx⟩ := at_some (D := D) (i := i) (by omega)
      unfold r_find_L4
      rw [hR.1, q_le (by omega) (by omega), ix0 (by omega), (rd_at hR hx).1, q_1]
      refine ⟨fun h => absurd h (by omega), fun _ => ⟨vi0 (by omega), ih (i + 1) _ (by omega) ?_⟩⟩
      have hnx := hG.2.2 _ _ hx
      have hno := hG.2.2 _ _ hk
      by_cases hik : i = k
      · subst hik
        have : x = o := Option.some.inj (hx.symm.trans hk)
        subst this
        exact Or.inr (if_pos rfl)
      · by_cases hlt : i ≤ k
        · exact Or.inl (by omega)
        · right
          rw [if_neg, ha.resolve_left hlt]
          rw [q_eq (by omega) (by omega)]
          exact fun h => hik (hG.1 _ _ _ _ hx hk h)
  exact ⟨D.length + 1, key D.length 0 (-1) (by omega) (Or.inl (by omega))⟩
theorem find_none {post : Int32 → Mem → Prop} {S : Mem} {D : List Ob} (hR : RD S D) (hG : Gd D) {x : Nat} (hx : x < 24) (hno : ∀ (i : Nat) (o : Ob), D[i]? = some o → o.nm ≠ x) (hp : post (-1) S) : r_find post S (nI x) := by
  have hlen := hG.2.1
  have key : ∀ (m i : Nat), i + m = D.length → r_find_L4 post (m + 1) S (nI x) (-1) (nI i) := by
    intro m
    induction m with
    | zero =>
      intro i hi
      unfold r_find_L4
      rw [hR.1, q_le (by omega) (by omega)]
      exact ⟨fun _ => hp, fun h => absurd (show D.length ≤ i by omega) h⟩
    | succ m ih =>
      intro i hi
      obtain ⟨y, hy⟩ := at_some (D := D) (i := i) (by omega)
      have hny := hG.2.2 _ _ hy
      unfold r_find_L4
      rw [hR.1, q_le (by omega) (by omega), ix0 (by omega), (rd_at hR hy).1, q_1, if_neg (by rw [q_eq (by omega) (by omega)]; exact hno _ _ hy)]
      exact ⟨fun h => absurd h (by omega), fun _ => ⟨vi0 (by omega), ih (i + 1) (by omega)⟩⟩
  exact ⟨D.length + 1, key D.length 0 (by omega)⟩
theorem nar1 : vp_nar .boolean 1 = 1 := by decide +kernel
theorem nar0 : vp_nar .boolean 0 = 0 := by decide +kernel
theorem isIn_in {post : Int32 → Mem → Prop} {S : Mem} {D : List Ob} (hR : RD S D) (hG : Gd D) {k e : Nat} {o : Ob} (hB : Blk D k e) (hk : D[k]? = some o) (hp : post 1 S) : ∀ (i : Nat), k ≤ i → i < e → r_isIn post S (nI i) (nI o.nm) := by
  have hlen := hG.2.1
  have key : ∀ (i n : Nat), k ≤ i → i < e → i + 2 ≤ n → r_isIn_L2 post n S (nI o.nm) (nI i) := by
    intro i
    induction i using Nat.strongRecOn with
    | _ i ih =>
      intro n h1 h2 h3
      obtain ⟨n', rfl⟩ : ∃ n', n = n' + 1 := ⟨n - 1, by omega⟩
      have hil : i < D.length := Nat.lt_of_lt_of_le h2 hB.2.1
      obtain ⟨m, hm⟩ := at_some hil
      have hnm := hG.2.2 _ _ hm
      have hno := hG.2.2 _ _ hk
      have hr := rd_at hR hm
      unfold r_isIn_L2 r_isIn_J45
      rw [ix0 (by omega), ix7 (by omega), hr.1, hr.2.2.2.1, q_eq (by omega) (by omega), if_neg (q_nlt0 (by omega))]
      refine ⟨fun h => absurd h (q_nlt0 (by omega)), fun _ => ⟨vi0 (by omega), fun _ => ⟨nar1, hp⟩, fun hne => ⟨vi7 (by omega), ?_, ?_⟩⟩⟩
      all_goals
        have hik : k < i := by
          rcases Nat.lt_or_ge k i with h | h
          · exact h
          · have : i = k := by omega
            subst this
            exact absurd (by rw [Option.some.inj (hm.symm.trans hk)]) hne
        obtain ⟨j, g, hj1, hj2, hg, hpg⟩ := hB.2.2.1 i m hik h2 hm
        have hng := hG.2.2 _ _ hg
        rw [hpg]
      · exact fun _ => ⟨vi7 (by omega), find_some hR hG hg (ih j hj2 n' hj1 (by omega) (by omega))⟩
      · exact fun h => absurd (q_ge0 (a := g.nm) (by omega)) h
  exact fun i h1 h2 => ⟨i + 2, key i (i + 2) h1 h2 (Nat.le_refl _)⟩
theorem isIn_out {post : Int32 → Mem → Prop} {S : Mem} {D : List Ob} (hR : RD S D) (hG : Gd D) (hU : Up D) {k e : Nat} {o : Ob} (hB : Blk D k e) (hk : D[k]? = some o) (hp : post 0 S) : ∀ (i : Nat), i < D.length → (i < k ∨ e ≤ i) → r_isIn post S (nI i) (nI o.nm) := by
  have hlen := hG.2.1
  have key : ∀ (i n : Nat), i < D.length → (i < k ∨ e ≤ i) → i + 2 ≤ n → r_isIn_L2 post n S (nI o.nm) (nI i) := by
    intro i
    induction i using Nat.strongRecOn with
    | _ i ih =>
      intro n h1 h2 h3
      obtain ⟨n', rfl⟩ : ∃ n', n = n' + 1 := ⟨n - 1, by omega⟩
      obtain ⟨m, hm⟩ := at_some h1
      have hnm := hG.2.2 _ _ hm
      have hno := hG.2.2 _ _ hk
      have hr := rd_at hR hm
      have hke := hB.1
      unfold r_isIn_L2
      rw [ix0 (by omega), ix7 (by omega), hr.1, hr.2.2.2.1, q_eq (by omega) (by omega)]
      refine ⟨fun h => absurd h (q_nlt0 (by omega)), fun _ => ⟨vi0 (by omega), fun h => ?_, fun hne => ⟨vi7 (by omega), ?_, ?_⟩⟩⟩
      · have := hG.1 _ _ _ _ hm hk h
        omega
      · intro h0
        refine ⟨vi7 (by omega), ?_⟩
        rcases hU i m hm with h | ⟨j, g, hj, hg, h⟩
        · rw [h] at h0
          exact absurd h0 (by decide)
        · rw [h]
          refine find_some hR hG hg (ih j hj n' (at_lt hg) ?_ (by omega))
          rcases Nat.lt_or_ge j k with hjk | hjk
          · exact Or.inl hjk
          · right
            rcases Nat.lt_or_ge j e with hje | hje
            · exact absurd h (hB.2.2.2 i m h2 hm j g hjk hje hg)
            · exact hje
      · intro _
        obtain ⟨n2, rfl⟩ : ∃ n2, n' = n2 + 1 := ⟨n' - 1, by omega⟩
        unfold r_isIn_L2 r_isIn_J45
        rw [if_pos (by decide)]
        exact ⟨fun _ => ⟨nar0, hp⟩, fun h => absurd (by decide) h⟩
  exact fun i h1 h2 => ⟨i + 2, key i (i + 2) h1 h2 (Nat.le_refl _)⟩
theorem behind_ok {post : Int32 → Mem → Prop} {S : Mem} {D : List Ob} (hR : RD S D) (hG : Gd D) (hU : Up D) {k e : Nat} {o : Ob} (hB : Blk D k e) (hk : D[k]? = some o) (hp : post (nI e) S) : r_behind post S (nI k) := by
  have hlen := hG.2.1
  have hkl := at_lt hk
  have he := hB.2.1
  have key : ∀ (m i : Nat), i + m = D.length → k < i → i ≤ e → r_behind_L4 post (m + 1) S (nI k) (nI i) := by
    intro m
    induction m with
    | zero =>
      intro i hi h1 h2
      have : i = e := by omega
      subst this
      unfold r_behind_L4
      rw [hR.1, q_le (by omega) (by omega)]
      exact ⟨fun _ => hp, fun h => absurd (show D.length ≤ i by omega) h⟩
    | succ m ih =>
      intro i hi h1 h2
      unfold r_behind_L4
      rw [hR.1, q_le (by omega) (by omega), ix0 (by omega), (rd_at hR hk).1, q_1]
      refine ⟨fun h => absurd h (by omega), fun _ => ⟨vi0 (by omega), ?_⟩⟩
      rcases Nat.lt_or_ge i e with hie | hie
      · exact isIn_in hR hG hB hk ⟨fun h => absurd h (by decide), fun _ => ih (i + 1) (by omega) (by omega) (by omega)⟩ i (by omega) hie
      · have : i = e := by omega
        subst this
        exact isIn_out hR hG hU hB hk ⟨fun _ => hp, fun h => absurd rfl h⟩ i (by omega) (Or.inr (Nat.le_refl _))
  refine ⟨D.length - (k + 1) + 1, ?_⟩
  rw [q_1]
  exact key (D.length - (k + 1)) (k + 1) (by omega) (by omega) hB.1
