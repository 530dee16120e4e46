theorem remove_ok {post : Mem → Prop} {S : Mem} {d : Nat} {A B C : List Ob} (hR : CD S d (A ++ (B ++ C))) (hG : Gd (A ++ (B ++ C))) (hl : (A ++ (B ++ C)).length ≤ 12) {f t : Nat} (hf : f = A.length) (ht : t = A.length + B.length) (hp : ∀ S', CD S' d (A ++ C) → Fq (tC d) S S' → post S') : cw_removeBlock post S d (nI f) (nI t) := by
  subst hf ht
  obtain ⟨hO, hI, hT⟩ := hR
  have hlen : (A ++ (B ++ C)).length = A.length + (B.length + C.length) := by simp only [List.length_append]
  have key : ∀ (m i : Nat) (S1 : Mem), i + m = A.length + B.length → A.length ≤ i → (∀ a j, (j ≠ 0 ∨ ∀ (x : Nat) (o : Ob), A.length ≤ x → x < i → (A ++ (B ++ C))[x]? = some o → a ≠ d + 2 + o.nm) → S1 a j = S a j) → (∀ (x : Nat) (o : Ob), A.length ≤ x → x < i → (A ++ (B ++ C))[x]? = some o → S1 (d + 2 + o.nm) 0 = 0) → cw_removeBlock_L2 post (m + 1) S1 d (nI A.length) (nI (A.length + B.length)) (nI i) := by
    intro m
    induction m with
    | zero =>
      intro i S1 hi hAi ha hb
      have : i = A.length + B.length := by omega
      subst this
      have hsz : S1 d 2 = nI (A ++ (B ++ C)).length := (ha d 2 (Or.inl (by omega))).trans hO.1
      unfold cw_removeBlock_L2
      rw [hsz, q_sub (show A.length + B.length ≤ (A ++ (B ++ C)).length by omega), q_sub (show A.length ≤ A.length + B.length by omega), nI_clamp (by omega), nI_clamp (by omega), nI_clamp (by omega)]
      refine ⟨fun _ => ⟨q_nlt0 (by omega), q_nlt0 (by omega), q_nlt0 (by omega), by omega, by omega, fun S2 h2 S3 h3 => ?_⟩, fun h => absurd (Int32.le_refl _) h⟩
      have k2 : S2 d 2 = nI (A ++ (B ++ C)).length := by rw [h2, cpy_at, if_neg (by omega)]; exact hsz
      rw [k2, q_sub (by omega)] at h3
      have hit : ∀ q j, q < d + 26 → d < q → S3 q j = S1 q j := by
        intro q j h4 h5
        rw [h3, up_at, if_neg (by omega), h2, cpy_at, if_neg (by omega)]
      have hAC : ∀ o, o ∈ A ++ C → o ∈ A ++ (B ++ C) := by
        intro o ho
        simp only [List.mem_append] at ho ⊢
        rcases ho with h | h
        · exact Or.inl h
        · exact Or.inr (Or.inr h)
      have hnB : ∀ o, o ∈ A ++ C → ∀ (x : Nat) (y : Ob), A.length ≤ x → x < A.length + B.length → (A ++ (B ++ C))[x]? = some y → d + 2 + o.nm ≠ d + 2 + y.nm := by
        intro o ho x y h1 h2' hy hne
        obtain ⟨j, hj⟩ := List.mem_iff_getElem?.mp ho
        rw [rm_at (b := B)] at hj
        have := hG.1 _ _ _ _ hj hy (by omega)
        split at this <;> omega
      refine hp S3 ⟨⟨?_, fun k o hk => ?_⟩, fun o ho => ?_, fun o ho => ?_, fun x hx hno => ?_⟩ ?_
      · rw [h3, up_at, if_pos ⟨rfl, rfl⟩]
        congr 1
        simp only [List.length_append]
        omega
      · rw [h3, up_at, if_neg (by omega), h2, cpy_at]
        have hkl := at_lt hk
        simp only [List.length_append] at hkl
        have h6 := hk
        rw [rm_at (b := B)] at h6
        have h7 := hO.2 _ o h6
        by_cases hkA : k < A.length
        · rw [if_pos hkA] at h7
          rw [if_neg (by omega), ha _ _ (Or.inr (fun x o' _ _ ho' => by have := hG.2.2 _ _ ho'; omega))]
          exact h7
        · rw [if_neg hkA] at h7
          rw [if_pos ⟨rfl, by omega, by omega⟩, ha _ _ (Or.inr (fun x o' _ _ ho' => by have := hG.2.2 _ _ ho'; omega)), show A.length + B.length + (k - A.length) = k + B.length by omega]
          exact h7
      · have hn := gd_lt hG (hAC o ho)
        refine it_of (hI o (hAC o ho)) (fun i hi => ?_)
        rw [hit _ _ (by omega) (by omega), ha _ _ (Or.inl hi)]
      · have hn := gd_lt hG (hAC o ho)
        rw [hit _ _ (by omega) (by omega), ha _ _ (Or.inr (hnB o ho))]
        exact hT.1 o (hAC o ho)
      · rw [hit _ _ (by omega) (by omega)]
        by_cases hin : ∃ (y : Nat) (o : Ob), A.length ≤ y ∧ y < A.length + B.length ∧ (A ++ (B ++ C))[y]? = some o ∧ o.nm = x
        · obtain ⟨y, o, h1, h2', h3', h4⟩ := hin
          rw [← h4]
          exact hb y o h1 h2' h3'
        · rw [ha _ _ (Or.inr (fun y o h1 h2' h3' h4 => hin ⟨y, o, h1, h2', h3', by omega⟩))]
          refine hT.2 x hx (fun o ho hne => ?_)
          obtain ⟨y, hy⟩ := List.mem_iff_getElem?.mp ho
          rcases app2_at hy with ⟨g1, g2⟩ | ⟨g1, g2⟩
          · exact hno o (by simp [at_mem g2]) hne
          · rcases app2_at g2 with ⟨g3, g4⟩ | ⟨g3, g4⟩
            · exact hin ⟨y, o, g1, by omega, hy, hne⟩
            · exact hno o (by simp [at_mem g4]) hne
      · intro a j hn
        unfold tC at hn
        rw [h3, up_at, if_neg (by omega), h2, cpy_at, if_neg (by omega)]
        exact ha _ _ (Or.inr (fun x o' _ _ ho' => by have := hG.2.2 _ _ ho'; omega))
    | succ m ih =>
      intro i S1 hi hAi ha hb
      obtain ⟨o, ho⟩ := at_some (D := A ++ (B ++ C)) (i := i) (by omega)
      have hno := hG.2.2 _ _ ho
      have hod : S1 (d + 26) i = nI o.nm := (ha _ _ (Or.inr (fun x o' _ _ ho' => by have := hG.2.2 _ _ ho'; omega))).trans (hO.2 i o ho)
      unfold cw_removeBlock_L2
      rw [q_le (show A.length + B.length < 2 ^ 31 by omega) (show i < 2 ^ 31 by omega), nI_clamp (show i < 2 ^ 31 by omega), hod, nI_clamp (show o.nm < 2 ^ 31 by omega), q_1]
      refine ⟨fun h => absurd h (by omega), fun _ => ⟨q_in (by omega) (by omega), q_in (by omega) (by omega), fun S3 h3 => ?_⟩⟩
      refine ih (i + 1) S3 (by omega) (by omega) (fun a j hj => ?_) (fun x y h1 h2 hy => ?_)
      · rw [h3, up_at, if_neg]
        · refine ha a j ?_
          rcases hj with h | h
          · exact Or.inl h
          · exact Or.inr (fun x o' h1 h2 h4 => h x o' h1 (by omega) h4)
        · rintro ⟨rfl, rfl⟩
          rcases hj with h | h
          · exact h rfl
          · exact h i o hAi (by omega) ho rfl
      · rw [h3, up_at]
        by_cases hxy : x = i
        · subst hxy
          rw [if_pos ⟨by rw [Option.some.inj (hy.symm.trans ho)], rfl⟩]
        · rw [if_neg]
          · exact hb x y h1 (by omega) hy
          · rintro ⟨h4, -⟩
            exact hxy (hG.1 _ _ _ _ hy ho (by omega))
  exact ⟨B.length + 1, key B.length A.length S (by omega) (Nat.le_refl _) (fun _ _ _ => rfl) (fun x o h1 h2 => absurd h1 (by omega))⟩
/-- the same names, parents and forms -/
def Sk (D D' : List Ob) : Prop := D'.length = D.length ∧ ∀ (i : Nat) (o o' : Ob), D[i]? = some o → D'[i]? = some o' → o'.nm = o.nm ∧ o'.p = o.p ∧ o'.fm = o.fm
theorem sk_at {D D' : List Ob} (h : Sk D D') {i : Nat} {o' : Ob} (ho : D'[i]? = some o') : ∃ o, D[i]? = some o ∧ o'.nm = o.nm ∧ o'.p = o.p ∧ o'.fm = o.fm := by
  obtain ⟨o, h1⟩ := at_some (D := D) (i := i) (by have := at_lt ho; have := h.1; omega)
  exact ⟨o, h1, h.2 i o o' h1 ho⟩
theorem sk_at' {D D' : List Ob} (h : Sk D D') {i : Nat} {o : Ob} (ho : D[i]? = some o) : ∃ o', D'[i]? = some o' ∧ o'.nm = o.nm ∧ o'.p = o.p ∧ o'.fm = o.fm := by
  obtain ⟨o', h1⟩ := at_some (D := D') (i := i) (by have := at_lt ho; have := h.1; omega)
  exact ⟨o', h1, h.2 i o o' ho h1⟩
theorem gd_sk {D D' : List Ob} (h : Sk D D') (hG : Gd D) : Gd D' := by
  refine ⟨fun i j a b ha hb hab => ?_, by rw [h.1]; exact hG.2.1, fun i a ha => ?_⟩
  · obtain ⟨x, hx, hx1, -⟩ := sk_at h ha
    obtain ⟨y, hy, hy1, -⟩ := sk_at h hb
    exact hG.1 i j x y hx hy (by rw [← hx1, ← hy1, hab])
  · obtain ⟨x, hx, hx1, -⟩ := sk_at h ha
    rw [hx1]; exact hG.2.2 i x hx
theorem up_sk {D D' : List Ob} (h : Sk D D') (hU : Up D) : Up D' := by
  intro i m hm
  obtain ⟨x, hx, -, hx2, -⟩ := sk_at h hm
  rcases hU i x hx with h1 | ⟨j, g, hj, hg, h1⟩
  · exact Or.inl (hx2.trans h1)
  · obtain ⟨g', hg', hn, -⟩ := sk_at' h hg
    exact Or.inr ⟨j, g', hj, hg', by rw [hx2, h1, hn]⟩
theorem blk_sk {D D' : List Ob} (h : Sk D D') {k e : Nat} (hB : Blk D k e) : Blk D' k e := by
  refine ⟨hB.1, by rw [h.1]; exact hB.2.1, fun i m h1 h2 hm => ?_, fun i m hi hm j g h1 h2 hg => ?_⟩
  · obtain ⟨x, hx, -, hx2, -⟩ := sk_at h hm
    obtain ⟨j, g, a1, a2, hg, a3⟩ := hB.2.2.1 i x h1 h2 hx
    obtain ⟨g', hg', hn, -⟩ := sk_at' h hg
    exact ⟨j, g', a1, a2, hg', by rw [hx2, a3, hn]⟩
  · obtain ⟨x, hx, -, hx2, -⟩ := sk_at h hm
    obtain ⟨y, hy, hy1, -⟩ := sk_at h hg
    rw [hx2, hy1]
    exact hB.2.2.2 i x hi hx j y h1 h2 hy
def fsk (f : Ob → Ob) : Prop := ∀ o, (f o).nm = o.nm ∧ (f o).p = o.p ∧ (f o).fm = o.fm
theorem sk_mp {D : List Ob} {k e : Nat} {f : Ob → Ob} (hf : fsk f) : Sk D (mp D k e f) := by
  refine ⟨mp_len _ _ _ _, fun i o o' ho ho' => ?_⟩
  rw [mp_at, ho, Option.map_some] at ho'
  have := Option.some.inj ho'
  subst this
  split
  · exact hf o
  · exact ⟨rfl, rfl, rfl⟩
theorem fsk_shf (x y : Int32) : fsk (shf x y) := by
  intro o; unfold shf; split
  · exact ⟨rfl, rfl, rfl⟩
  · exact ⟨rfl, rfl, rfl⟩
theorem fsk_pnt (b : Int32) : fsk (pnt b) := by
  intro o; unfold pnt; split
  · exact ⟨rfl, rfl, rfl⟩
  · exact ⟨rfl, rfl, rfl⟩
theorem fsk_scl (bl bt p q : Int32) : fsk (scl bl bt p q) := by
  intro o; unfold scl; split
  · exact ⟨rfl, rfl, rfl⟩
  · exact ⟨rfl, rfl, rfl⟩
theorem fsk_rep_nm (x : Nat) (q : Option Nat) (o : Ob) : (rep x q o).nm = o.nm ∧ (rep x q o).fm = o.fm := by
  unfold rep; split
  · exact ⟨rfl, rfl⟩
  · exact ⟨rfl, rfl⟩
/-- one object more has been changed -/
theorem mp_skip {D : List Ob} {k e i : Nat} {f : Ob → Ob} (h : i < k ∨ e ≤ i ∨ ∀ o, D[i]? = some o → f o = o) : mp D k (min (i + 1) e) f = mp D k (min i e) f := by
  apply List.ext_getElem?
  intro j
  rw [mp_at, mp_at]
  cases hj : D[j]? with
  | none => rfl
  | some o =>
    rw [Option.map_some, Option.map_some]
    congr 1
    by_cases h1 : k ≤ j ∧ j < min (i + 1) e
    · rw [if_pos h1]
      by_cases h2 : k ≤ j ∧ j < min i e
      · rw [if_pos h2]
      · rw [if_neg h2]
        have hji : j = i := by omega
        subst hji
        rcases h with h | h | h
        · omega
        · omega
        · exact h o hj
    · rw [if_neg h1, if_neg (by omega)]
theorem cd_step {S S' : Mem} {d : Nat} {D : List Ob} {k e i : Nat} {f : Ob → Ob} {o : Ob} (hf : fsk f) (hG : Gd D) (hR : CD S d (mp D k (min i e) f)) (ho : D[i]? = some o) (h1 : k ≤ i) (h2 : i < e) (hit : It S' (d + 2 + o.nm) (f o)) (h0 : S' (d + 2 + o.nm) 0 = S (d + 2 + o.nm) 0) (hF : ∀ a j, a ≠ d + 2 + o.nm → S' a j = S a j) : CD S' d (mp D k (min (i + 1) e) f) := by
  obtain ⟨hO, hI, hT⟩ := hR
  have hno := hG.2.2 _ _ ho
  have hG' := gd_sk (sk_mp (D := D) (k := k) (e := min i e) hf) hG
  have hsame : ∀ j, j ≠ i → (mp D k (min (i + 1) e) f)[j]? = (mp D k (min i e) f)[j]? := by
    intro j hj
    rw [mp_at, mp_at]
    congr 1
    funext x
    by_cases h : k ≤ j ∧ j < min i e
    · rw [if_pos h, if_pos (by omega)]
    · rw [if_neg h, if_neg (by omega)]
  have hnew : (mp D k (min (i + 1) e) f)[i]? = some (f o) := by
    rw [mp_at, ho, Option.map_some, if_pos (by omega)]
  have hold : (mp D k (min i e) f)[i]? = some o := by
    rw [mp_at, ho, Option.map_some, if_neg (by omega)]
  have hfn := (hf o).1
  refine ⟨⟨?_, fun j x hx => ?_⟩, fun x hx => ?_, fun x hx => ?_, fun x hx hno' => ?_⟩
  · rw [hF _ _ (by omega), hO.1, mp_len, mp_len]
  · rw [hF _ _ (by omega)]
    by_cases hj : j = i
    · subst hj
      rw [hnew] at hx
      cases Option.some.inj hx
      rw [hfn]
      exact hO.2 j o hold
    · exact hO.2 j x (by rw [← hsame j hj]; exact hx)
  · obtain ⟨j, hj⟩ := List.mem_iff_getElem?.mp hx
    by_cases hji : j = i
    · subst hji
      rw [hnew] at hj
      cases Option.some.inj hj
      rw [hfn]; exact hit
    · rw [hsame j hji] at hj
      have hne : d + 2 + x.nm ≠ d + 2 + o.nm := fun h => hji (hG'.1 _ _ _ _ hj hold (by omega))
      exact it_of (hI x (at_mem hj)) (fun c _ => hF _ _ hne)
  · obtain ⟨j, hj⟩ := List.mem_iff_getElem?.mp hx
    by_cases hji : j = i
    · subst hji
      rw [hnew] at hj
      cases Option.some.inj hj
      rw [hfn, h0]; exact hT.1 o (at_mem hold)
    · rw [hsame j hji] at hj
      have hne : d + 2 + x.nm ≠ d + 2 + o.nm := fun h => hji (hG'.1 _ _ _ _ hj hold (by omega))
      rw [hF _ _ hne]; exact hT.1 x (at_mem hj)
  · have hxo : x ≠ o.nm := fun h => hno' (f o) (at_mem hnew) (by rw [hfn, h])
    rw [hF _ _ (by omega)]
    refine hT.2 x hx (fun y hy => ?_)
    obtain ⟨j, hj⟩ := List.mem_iff_getElem?.mp hy
    by_cases hji : j = i
    · subst hji
      rw [hold] at hj
      cases Option.some.inj hj
      exact fun h => hxo h.symm
    · rw [← hsame j hji] at hj
      exact hno' y (at_mem hj)
