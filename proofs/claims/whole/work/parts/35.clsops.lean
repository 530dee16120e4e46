theorem mp_mid (X B Y : List Ob) (f : Ob → Ob) : mp (X ++ (B ++ Y)) X.length (X.length + B.length) f = X ++ (B.map f ++ Y) := by
  apply List.ext_getElem?
  intro i
  rw [mp_at]
  rcases Nat.lt_or_ge i X.length with h | h
  · rw [List.getElem?_append_left h, List.getElem?_append_left h]
    cases X[i]? with
    | none => rfl
    | some o => rw [Option.map_some, if_neg (by omega)]
  · rw [List.getElem?_append_right h, List.getElem?_append_right h]
    rcases Nat.lt_or_ge (i - X.length) B.length with h2 | h2
    · rw [List.getElem?_append_left h2, List.getElem?_append_left (by rw [List.length_map]; exact h2), List.getElem?_map]
      congr 1
      funext o
      rw [if_pos (by omega)]
    · rw [List.getElem?_append_right h2, List.getElem?_append_right (by rw [List.length_map]; exact h2), List.length_map]
      cases Y[i - X.length - B.length]? with
      | none => rfl
      | some o => rw [Option.map_some, if_neg (by omega)]
theorem seg_mid (X B Y : List Ob) : seg (X ++ (B ++ Y)) X.length (X.length + B.length) = B := by
  unfold seg
  rw [List.drop_left' rfl, Nat.add_sub_cancel_left, List.take_left' rfl]
theorem mp_names {D : List Ob} {k e : Nat} {f : Ob → Ob} (hf : ∀ o, (f o).nm = o.nm) : (mp D k e f).map Ob.nm = D.map Ob.nm := by
  apply List.ext_getElem?
  intro i
  rw [List.getElem?_map, List.getElem?_map, mp_at]
  cases D[i]? with
  | none => rfl
  | some o =>
    simp only [Option.map_some]
    split
    · rw [hf]
    · rfl
theorem gd_mp {D : List Ob} {k e : Nat} {f : Ob → Ob} (hf : ∀ o, (f o).nm = o.nm) (hG : Gd D) : Gd (mp D k e f) := gd_names (mp_names hf) hG
theorem cd_stepn {S S' : Mem} {d : Nat} {D : List Ob} {k e i : Nat} {f : Ob → Ob} {o : Ob} (hf : ∀ o, (f o).nm = o.nm) (hG : Gd D) (hR : CD S d (mp D k (min i e) f)) (ho : D[i]? = some o) (h1 : k ≤ i) (h2 : i < e) (hit : It S' (d + 2 + o.nm) (f o)) (h0 : S' (d + 2 + o.nm) 0 = S (d + 2 + o.nm) 0) (hF : ∀ a j, a ≠ d + 2 + o.nm → S' a j = S a j) : CD S' d (mp D k (min (i + 1) e) f) := by
  obtain ⟨hO, hI, hT⟩ := hR
  have hno := hG.2.2 _ _ ho
  have hG' : Gd (mp D k (min i e) f) := gd_mp hf hG
  have hsame : ∀ j, j ≠ i → (mp D k (min (i + 1) e) f)[j]? = (mp D k (min i e) f)[j]? := by
    intro j hj
    rw [mp_at, mp_at]
    congr 1
    funext x
    by_cases h : k ≤ j ∧ j < min i e
    · rw [if_pos h, if_pos (by omega)]
    · rw [if_neg h, if_neg (by omega)]
  have hnew : (mp D k (min (i + 1) e) f)[i]? = some (f o) := by
    rw [mp_at, ho, Option.map_some, if_pos (by omega)]
  have hold : (mp D k (min i e) f)[i]? = some o := by
    rw [mp_at, ho, Option.map_some, if_neg (by omega)]
  have hfn := hf o
  refine ⟨⟨?_, fun j x hx => ?_⟩, fun x hx => ?_, fun x hx => ?_, fun x hx hno' => ?_⟩
  · rw [hF _ _ (by omega), hO.1, mp_len, mp_len]
  · rw [hF _ _ (by omega)]
    by_cases hj : j = i
    · subst hj
      rw [hnew] at hx
      cases Option.some.inj hx
      rw [hfn]
      exact hO.2 j o hold
    · exact hO.2 j x (by rw [← hsame j hj]; exact hx)
  · obtain ⟨j, hj⟩ := List.mem_iff_getElem?.mp hx
    by_cases hji : j = i
    · subst hji
      rw [hnew] at hj
      cases Option.some.inj hj
      rw [hfn]; exact hit
    · rw [hsame j hji] at hj
      have hne : d + 2 + x.nm ≠ d + 2 + o.nm := fun h => hji (hG'.1 _ _ _ _ hj hold (by omega))
      exact it_of (hI x (at_mem hj)) (fun c _ => hF _ _ hne)
  · obtain ⟨j, hj⟩ := List.mem_iff_getElem?.mp hx
    by_cases hji : j = i
    · subst hji
      rw [hnew] at hj
      cases Option.some.inj hj
      rw [hfn, h0]; exact hT.1 o (at_mem hold)
    · rw [hsame j hji] at hj
      have hne : d + 2 + x.nm ≠ d + 2 + o.nm := fun h => hji (hG'.1 _ _ _ _ hj hold (by omega))
      rw [hF _ _ hne]; exact hT.1 x (at_mem hj)
  · have hxo : x ≠ o.nm := fun h => hno' (f o) (at_mem hnew) (by rw [hfn, h])
    rw [hF _ _ (by omega)]
    refine hT.2 x hx (fun y hy => ?_)
    obtain ⟨j, hj⟩ := List.mem_iff_getElem?.mp hy
    by_cases hji : j = i
    · subst hji
      rw [hold] at hj
      cases Option.some.inj hj
      exact fun h => hxo h.symm
    · rw [← hsame j hji] at hj
      exact hno' y (at_mem hj)
theorem cungroup_no {post : Int32 → Mem → Prop} {S : Mem} {d : Nat} {D : List Ob} {o : Ob} (hR : CD S d D) (hG : Gd D) (ho : o ∈ D) (h3 : o.fm ≠ 3) (hp : post 0 S) : cw_ungroup post S d (nI o.nm) := by
  have hno := gd_lt hG ho
  unfold cw_ungroup ci_isShape
  rw [nI_clamp (by omega), (hR.2.1 o ho).1, if_neg h3]
  exact ⟨q_in (by omega) (by omega), nar1, fun h => absurd h (by decide), fun _ => hp⟩
theorem cungroup_yes {post : Int32 → Mem → Prop} {S : Mem} {d : Nat} {X sub Y : List Ob} {o : Ob} (hR : CD S d (X ++ (o :: (sub ++ Y)))) (hG : Gd (X ++ (o :: (sub ++ Y)))) (hU : Up (X ++ (o :: (sub ++ Y)))) (hl : (X ++ (o :: (sub ++ Y))).length ≤ 12) (hB : Blk (X ++ (o :: (sub ++ Y))) X.length (X.length + 1 + sub.length)) (h3 : o.fm = 3) (hp : ∀ S', CD S' d (X ++ (sub.map (rep o.nm o.p) ++ Y)) → Fq (tC d) S S' → post 1 S') : cw_ungroup post S d (nI o.nm) := by
  have hlen : (X ++ (o :: (sub ++ Y))).length = X.length + (sub.length + Y.length + 1) := by simp only [List.length_append, List.length_cons]
  have hk : (X ++ (o :: (sub ++ Y)))[X.length]? = some o := at_app
  have hno := hG.2.2 _ _ hk
  have hf : ∀ z, (rep o.nm o.p z).nm = z.nm := fun z => (fsk_rep_nm _ _ z).1
  have hm : mp (X ++ (o :: (sub ++ Y))) (X.length + 1) (X.length + 1 + sub.length) (rep o.nm o.p) = X ++ ([o] ++ (sub.map (rep o.nm o.p) ++ Y)) := by
    have := mp_mid (X ++ [o]) sub Y (rep o.nm o.p)
    rw [List.length_append, List.length_singleton] at this
    simpa using this
  have key : ∀ (m i : Nat) (S1 : Mem), i + m = X.length + 1 + sub.length → X.length + 1 ≤ i → CD S1 d (mp (X ++ (o :: (sub ++ Y))) (X.length + 1) (min i (X.length + 1 + sub.length)) (rep o.nm o.p)) → Fq (tC d) S S1 → cw_ungroup_L31 post (m + 1) S1 d (nI o.nm) (nI X.length) (nI (X.length + 1 + sub.length)) (nI i) := by
    intro m
    induction m with
    | zero =>
      intro i S1 hi hki hC hF
      have hie : i = X.length + 1 + sub.length := by omega
      subst hie
      unfold cw_ungroup_L31
      rw [q_1]
      refine ⟨fun _ => ?_, fun h => absurd (Int32.le_refl _) h⟩
      rw [Nat.min_self] at hC
      have hG' := gd_mp (k := X.length + 1) (e := X.length + 1 + sub.length) hf hG
      rw [hm] at hC hG'
      exact remove_ok hC hG' (by simp only [List.length_append, List.length_cons, List.length_nil, List.length_map] at hl ⊢; omega) rfl (by simp) (fun S' h1 h2 => hp S' h1 (hF.tr h2))
    | succ m ih =>
      intro i S1 hi hki hC hF
      obtain ⟨x, hx⟩ := at_some (D := X ++ (o :: (sub ++ Y))) (i := i) (by omega)
      have hnx := hG.2.2 _ _ hx
      have hx' : (mp (X ++ (o :: (sub ++ Y))) (X.length + 1) (min i (X.length + 1 + sub.length)) (rep o.nm o.p))[i]? = some x := by rw [mp_at, hx, Option.map_some, if_neg (by omega)]
      have ho' : (mp (X ++ (o :: (sub ++ Y))) (X.length + 1) (min i (X.length + 1 + sub.length)) (rep o.nm o.p))[X.length]? = some o := by rw [mp_at, hk, Option.map_some, if_neg (by omega)]
      have hit := hC.2.1 x (at_mem hx')
      have hpx := pI_eq (p := x.p) hno (par_lt hU hG hx)
      unfold cw_ungroup_L31
      rw [q_le (show X.length + 1 + sub.length < 2 ^ 31 by omega) (show i < 2 ^ 31 by omega), nI_clamp (show i < 2 ^ 31 by omega), hC.1.2 i x hx', nI_clamp (show x.nm < 2 ^ 31 by omega), hit.2.2.1, hpx, nI_clamp (show o.nm < 2 ^ 31 by omega), (hC.2.1 o (at_mem ho')).2.2.1, q_1 i]
      refine ⟨fun h => absurd h (by omega), fun _ => ⟨q_in (by omega) (by omega), q_in (by omega) (by omega), fun hne => ?_, fun he => ⟨q_in (by omega) (by omega), fun S2 h2 => ?_⟩⟩⟩
      · refine ih (i + 1) S1 (by omega) (by omega) ?_ hF
        rw [mp_skip]
        · exact hC
        · refine Or.inr (Or.inr (fun w hw => ?_))
          rw [Option.some.inj (hw.symm.trans hx)]
          unfold rep
          rw [if_neg hne]
      · refine ih (i + 1) S2 (by omega) (by omega) (cd_stepn hf hG hC hx hki (by omega) ?_ ?_ ?_) (hF.tr ?_)
        · unfold rep
          rw [if_pos he]
          refine ⟨?_, ?_, ?_, fun hs => ?_⟩
          · rw [h2, up_at, if_neg (by omega)]; exact hit.1
          · rw [h2, up_at, if_neg (by omega)]; exact hit.2.1
          · rw [h2, up_at, if_pos ⟨rfl, rfl⟩]; rfl
          · obtain ⟨b2, b3, b4, b5⟩ := hit.2.2.2 hs
            refine ⟨?_, ?_, ?_, ?_⟩
            · rw [h2, up_at, if_neg (by omega)]; exact b2
            · rw [h2, up_at, if_neg (by omega)]; exact b3
            · rw [h2, up_at, if_neg (by omega)]; exact b4
            · rw [h2, up_at, if_neg (by omega)]; exact b5
        · rw [h2, up_at, if_neg (by omega)]
        · intro a j ha
          rw [h2, up_at, if_neg (by omega)]
        · intro a j ha
          unfold tC at ha
          rw [h2, up_at, if_neg (by omega)]
  unfold cw_ungroup ci_isShape
  rw [nI_clamp (by omega), (hR.2.1 o (at_mem hk)).1, if_pos h3]
  refine ⟨q_in (by omega) (by omega), nar0, fun _ => ?_, fun h => absurd rfl h⟩
  refine place_ok hR.1 hG hl hk (end_ok hR.1 hR.2.1 hG hU hl hB hk ?_)
  rw [q_1]
  refine ⟨sub.length + 1, key sub.length (X.length + 1) S (by omega) (by omega) ?_ Fq.rf⟩
  rw [show min (X.length + 1) (X.length + 1 + sub.length) = X.length + 1 by omega, mp_nil]
  exact hR
theorem ungroup_app {post : Mem → Prop} {S : Mem} {X sub Y : List Ob} {o : Ob} (hR : RD S (X ++ (o :: (sub ++ Y)))) (hG : Gd (X ++ (o :: (sub ++ Y)))) (hU : Up (X ++ (o :: (sub ++ Y)))) (hB : Blk (X ++ (o :: (sub ++ Y))) X.length (X.length + 1 + sub.length)) (hp : ∀ S', RD S' (X ++ (sub.map (rep o.nm o.p) ++ Y)) → Fq t1 S S' → post S') : r_ungroup post S (nI X.length) := by
  have hk : (X ++ (o :: (sub ++ Y)))[X.length]? = some o := at_app
  refine ungroup_ok hR hG hU hk (fun S' h1 h2 => hp S' ?_ h2)
  have hm : mp (X ++ (o :: (sub ++ Y))) 0 (X ++ (o :: (sub ++ Y))).length (rep o.nm o.p) = X ++ ([o] ++ (sub.map (rep o.nm o.p) ++ Y)) := by
    have hmm := mp_mid (X ++ [o]) sub Y (rep o.nm o.p)
    rw [List.length_append, List.length_singleton] at hmm
    have heq : (X ++ [o]) ++ (sub ++ Y) = X ++ (o :: (sub ++ Y)) := by simp
    rw [heq] at hmm
    have h3 : mp (X ++ (o :: (sub ++ Y))) 0 (X ++ (o :: (sub ++ Y))).length (rep o.nm o.p) = mp (X ++ (o :: (sub ++ Y))) (X.length + 1) (X.length + 1 + sub.length) (rep o.nm o.p) := by
      apply List.ext_getElem?
      intro i
      rw [mp_at, mp_at]
      cases hi : (X ++ (o :: (sub ++ Y)))[i]? with
      | none => rfl
      | some z =>
        rw [Option.map_some, Option.map_some, if_pos ⟨by omega, at_lt hi⟩]
        by_cases hin : X.length + 1 ≤ i ∧ i < X.length + 1 + sub.length
        · rw [if_pos hin]
        · rw [if_neg hin]
          have hz : z.p ≠ some o.nm := by
            by_cases hik : i = X.length
            · subst hik
              rw [Option.some.inj (hi.symm.trans hk)]
              intro hpp
              rcases hU _ _ hk with h | ⟨j, g, hj, hg, h⟩
              · rw [h] at hpp; cases hpp
              · have := hG.1 _ _ _ _ hg hk (Option.some.inj (h.symm.trans hpp))
                omega
            · exact hB.2.2.2 i z (by omega) hi X.length o (Nat.le_refl _) hB.1 hk
          congr 1
          unfold rep
          rw [if_neg hz]
    rw [h3, hmm]
    simp
  rw [hm, List.take_left' rfl, show X ++ ([o] ++ (sub.map (rep o.nm o.p) ++ Y)) = (X ++ [o]) ++ (sub.map (rep o.nm o.p) ++ Y) by simp, List.drop_left' (by simp)] at h1
  exact h1
theorem lo_eq {f : Ob → Int32} : ∀ (B : List Ob) (a a' : Int32), (∃ o ∈ B, o.fm ≠ 3 ∧ f o ≤ a ∧ f o ≤ a') → lo B f a = lo B f a' := by
  intro B
  induction B with
  | nil =>
    rintro a a' ⟨o, ho, -⟩
    cases ho
  | cons x r ih =>
    rintro a a' ⟨o, ho, h3, h1, h2⟩
    unfold lo
    rw [List.foldl_cons, List.foldl_cons]
    show lo r f _ = lo r f _
    by_cases hx : x.fm = 3
    · rw [if_pos hx, if_pos hx]
      refine ih _ _ ⟨o, ?_, h3, h1, h2⟩
      rcases List.mem_cons.mp ho with rfl | h
      · exact absurd hx h3
      · exact h
    · rw [if_neg hx, if_neg hx]
      rw [Int32.le_iff_toInt_le] at h1 h2
      have hm : ((if a ≤ f x then a else f x) = (if a' ≤ f x then a' else f x)) ∨ (o ∈ r ∧ f o ≤ (if a ≤ f x then a else f x) ∧ f o ≤ (if a' ≤ f x then a' else f x)) := by
        rcases List.mem_cons.mp ho with rfl | h
        · left
          by_cases g1 : a ≤ f o <;> by_cases g2 : a' ≤ f o
          · rw [if_pos g1, if_pos g2]
            rw [Int32.le_iff_toInt_le] at g1 g2
            exact Int32.toInt_inj.mp (by omega)
          · rw [if_pos g1, if_neg g2]
            rw [Int32.le_iff_toInt_le] at g1
            exact Int32.toInt_inj.mp (by omega)
          · rw [if_neg g1, if_pos g2]
            rw [Int32.le_iff_toInt_le] at g2
            exact Int32.toInt_inj.mp (by omega)
          · rw [if_neg g1, if_neg g2]
        · by_cases g1 : a ≤ f x <;> by_cases g2 : a' ≤ f x
          · right
            rw [if_pos g1, if_pos g2, Int32.le_iff_toInt_le, Int32.le_iff_toInt_le]
            exact ⟨h, h1, h2⟩
          · right
            rw [if_pos g1, if_neg g2, Int32.le_iff_toInt_le, Int32.le_iff_toInt_le]
            rw [Int32.le_iff_toInt_le] at g1
            exact ⟨h, h1, by omega⟩
          · right
            rw [if_neg g1, if_pos g2, Int32.le_iff_toInt_le, Int32.le_iff_toInt_le]
            rw [Int32.le_iff_toInt_le] at g2
            exact ⟨h, by omega, h2⟩
          · left
            rw [if_neg g1, if_neg g2]
      rcases hm with h | ⟨h, g1, g2⟩
      · rw [h]
      · exact ih _ _ ⟨o, h, h3, g1, g2⟩
theorem hi_eq {f : Ob → Int32} : ∀ (B : List Ob) (a a' : Int32), (∃ o ∈ B, o.fm ≠ 3 ∧ a ≤ f o ∧ a' ≤ f o) → hi B f a = hi B f a' := by
  intro B
  induction B with
  | nil =>
    rintro a a' ⟨o, ho, -⟩
    cases ho
  | cons x r ih =>
    rintro a a' ⟨o, ho, h3, h1, h2⟩
    unfold hi
    rw [List.foldl_cons, List.foldl_cons]
    show hi r f _ = hi r f _
    by_cases hx : x.fm = 3
    · rw [if_pos hx, if_pos hx]
      refine ih _ _ ⟨o, ?_, h3, h1, h2⟩
      rcases List.mem_cons.mp ho with rfl | h
      · exact absurd hx h3
      · exact h
    · rw [if_neg hx, if_neg hx]
      rw [Int32.le_iff_toInt_le] at h1 h2
      have hm : ((if f x ≤ a then a else f x) = (if f x ≤ a' then a' else f x)) ∨ (o ∈ r ∧ (if f x ≤ a then a else f x) ≤ f o ∧ (if f x ≤ a' then a' else f x) ≤ f o) := by
        rcases List.mem_cons.mp ho with rfl | h
        · left
          by_cases g1 : f o ≤ a <;> by_cases g2 : f o ≤ a'
          · rw [if_pos g1, if_pos g2]
            rw [Int32.le_iff_toInt_le] at g1 g2
            exact Int32.toInt_inj.mp (by omega)
          · rw [if_pos g1, if_neg g2]
            rw [Int32.le_iff_toInt_le] at g1
            exact Int32.toInt_inj.mp (by omega)
          · rw [if_neg g1, if_pos g2]
            rw [Int32.le_iff_toInt_le] at g2
            exact Int32.toInt_inj.mp (by omega)
          · rw [if_neg g1, if_neg g2]
        · by_cases g1 : f x ≤ a <;> by_cases g2 : f x ≤ a'
          · right
            rw [if_pos g1, if_pos g2, Int32.le_iff_toInt_le, Int32.le_iff_toInt_le]
            exact ⟨h, h1, h2⟩
          · right
            rw [if_pos g1, if_neg g2, Int32.le_iff_toInt_le, Int32.le_iff_toInt_le]
            rw [Int32.le_iff_toInt_le] at g1
            exact ⟨h, h1, by omega⟩
          · right
            rw [if_neg g1, if_pos g2, Int32.le_iff_toInt_le, Int32.le_iff_toInt_le]
            rw [Int32.le_iff_toInt_le] at g2
            exact ⟨h, by omega, h2⟩
          · left
            rw [if_neg g1, if_neg g2]
      rcases hm with h | ⟨h, g1, g2⟩
      · rw [h]
      · exact ih _ _ ⟨o, h, h3, g1, g2⟩
theorem fo_shape {q : Option Nat} {D : List Ob} (h : Fo q D) : D ≠ [] → ∃ o ∈ D, o.fm ≠ 3 := by
  refine Fo.ind (M := fun _ D => D ≠ [] → ∃ o ∈ D, o.fm ≠ 3) ?_ ?_ ?_ h
  · exact fun h => absurd rfl h
  · intro q o r _ h2 _ _ _
    exact ⟨o, List.mem_cons_self, h2⟩
  · intro q o s r _ _ h3 _ _ ih _ _
    obtain ⟨x, hx, h4⟩ := ih h3
    exact ⟨x, by simp [hx], h4⟩
theorem bl_shape {o : Ob} {sub : List Ob} (h : Bl o sub) : ∃ m ∈ o :: sub, m.fm ≠ 3 := by
  rcases h with ⟨h1, -⟩ | ⟨-, h2, h3⟩
  · exact ⟨o, List.mem_cons_self, h1⟩
  · obtain ⟨x, hx, h4⟩ := fo_shape h3 h2
    exact ⟨x, List.mem_cons_of_mem _ hx, h4⟩
/-- the ways of align -/
def adx (s a b : Int32) : Int32 := if s = 0 then a else (if s = 2 then b else 0)
def ady (s a b : Int32) : Int32 := if s = 1 then a else (if s = 3 then b else 0)
theorem adx_0 (a b : Int32) : adx 0 a b = a := if_pos rfl
theorem adx_1 (a b : Int32) : adx 1 a b = 0 := by unfold adx; rw [if_neg (by decide), if_neg (by decide)]
theorem adx_2 (a b : Int32) : adx 2 a b = b := by unfold adx; rw [if_neg (by decide), if_pos rfl]
theorem adx_3 (a b : Int32) : adx 3 a b = 0 := by unfold adx; rw [if_neg (by decide), if_neg (by decide)]
theorem ady_0 (a b : Int32) : ady 0 a b = 0 := by unfold ady; rw [if_neg (by decide), if_neg (by decide)]
theorem ady_1 (a b : Int32) : ady 1 a b = a := if_pos rfl
theorem ady_2 (a b : Int32) : ady 2 a b = 0 := by unfold ady; rw [if_neg (by decide), if_neg (by decide)]
theorem ady_3 (a b : Int32) : ady 3 a b = b := by unfold ady; rw [if_neg (by decide), if_pos rfl]
theorem calign_gone {post : Int32 → Mem → Prop} {S : Mem} {d : Nat} {D : List Ob} (hR : CD S d D) {y : Nat} (hy : y < 24) (hno : ∀ b ∈ D, b.nm ≠ y) {l1 s : Int32} (hp : post 0 S) : cw_align post S d l1 (nI y) s := by
  unfold cw_align
  rw [nI_clamp (by omega)]
  exact ⟨q_in (by omega) (by omega), fun _ => hp, fun h => absurd (hR.2.2.2 y hy hno) h⟩
theorem calign_in {post : Int32 → Mem → Prop} {S : Mem} {d : Nat} {D : List Ob} (hR : CD S d D) (hG : Gd D) (hU : Up D) (hl : D.length ≤ 12) {k e j f : Nat} {a b : Ob} (hk : D[k]? = some a) (hBk : Blk D k e) (hj : D[j]? = some b) (hBj : Blk D j f) (hin : (j ≤ k ∧ k < f) ∨ (k ≤ j ∧ j < e)) {s : Int32} (hp : post 0 S) : cw_align post S d (nI a.nm) (nI b.nm) s := by
  have hnb := hG.2.2 _ _ hj
  unfold cw_align
  rw [nI_clamp (by omega)]
  refine ⟨q_in (by omega) (by omega), fun _ => hp, fun _ => ?_⟩
  by_cases h1 : j ≤ k ∧ k < f
  · exact cin_in hR.2.1 hG hl hBj hj ⟨fun _ => hp, fun h => absurd h (by decide)⟩ hk h1.1 h1.2
  · have h2 := hin.resolve_left h1
    refine cin_out hR.2.1 hG hU hl hBj hj ⟨fun h => absurd rfl h, fun _ => ?_⟩ hk (by omega)
    exact cin_in hR.2.1 hG hl hBk hk ⟨fun h => absurd h (by decide), fun _ => hp⟩ hj h2.1 h2.2
theorem calign_go {post : Int32 → Mem → Prop} {S : Mem} {d : Nat} {D : List Ob} (hR : CD S d D) (hG : Gd D) (hU : Up D) (hl : D.length ≤ 12) {k e j f : Nat} {a b : Ob} (hk : D[k]? = some a) (hBk : Blk D k e) (hj : D[j]? = some b) (hBj : Blk D j f) (ho1 : k < j ∨ f ≤ k) (ho2 : j < k ∨ e ≤ j) {s : Int32} (hs : s = 0 ∨ s = 1 ∨ s = 2 ∨ s = 3) (hm : cw_move (fun r5 S5 => vp_nar .boolean r5 = r5 ∧ post r5 S5) S d (nI a.nm) (adx s (lo (seg D j f) Ob.l 2147483647 - lo (seg D k e) Ob.l 2147483647) (hi (seg D j f) (fun o => o.l + o.w) (-2147483648) - hi (seg D k e) (fun o => o.l + o.w) (-2147483648))) (ady s (lo (seg D j f) Ob.t 2147483647 - lo (seg D k e) Ob.t 2147483647) (hi (seg D j f) (fun o => o.t + o.h) (-2147483648) - hi (seg D k e) (fun o => o.t + o.h) (-2147483648)))) : cw_align post S d (nI a.nm) (nI b.nm) s := by
  have hnb := hG.2.2 _ _ hj
  have hth := hR.2.2.1 b (at_mem hj)
  obtain ⟨hO, hI, hT⟩ := hR
  unfold cw_align
  rw [nI_clamp (by omega), hth]
  refine ⟨q_in (by omega) (by omega), fun h => absurd h (by decide), fun _ => ?_⟩
  refine cin_out hI hG hU hl hBj hj ⟨fun h => absurd rfl h, fun _ => ?_⟩ hk ho1
  refine cin_out hI hG hU hl hBk hk ⟨fun _ => ?_, fun h => absurd rfl h⟩ hj ho2
  rcases hs with rfl | rfl | rfl | rfl
  · rw [adx_0, ady_0] at hm
    refine edge_0 hO hI hG hU hl hBj hj (edge_0 hO hI hG hU hl hBk hk ?_)
    have hc : ¬ (if (0 : Int32) = 0 then (1 : Int32) else (if (0 : Int32) = 2 then 1 else 0)) = 0 := by decide
    rw [if_neg hc, if_neg hc]
    exact hm
  · rw [adx_1, ady_1] at hm
    refine edge_1 hO hI hG hU hl hBj hj (edge_1 hO hI hG hU hl hBk hk ?_)
    have hc : (if (1 : Int32) = 0 then (1 : Int32) else (if (1 : Int32) = 2 then 1 else 0)) = 0 := by decide
    rw [if_pos hc, if_pos hc]
    exact hm
  · rw [adx_2, ady_2] at hm
    refine edge_2 hO hI hG hU hl hBj hj (edge_2 hO hI hG hU hl hBk hk ?_)
    have hc : ¬ (if (2 : Int32) = 0 then (1 : Int32) else (if (2 : Int32) = 2 then 1 else 0)) = 0 := by decide
    rw [if_neg hc, if_neg hc]
    exact hm
  · rw [adx_3, ady_3] at hm
    refine edge_3 hO hI hG hU hl hBj hj (edge_3 hO hI hG hU hl hBk hk ?_)
    have hc : (if (3 : Int32) = 0 then (1 : Int32) else (if (3 : Int32) = 2 then 1 else 0)) = 0 := by decide
    rw [if_pos hc, if_pos hc]
    exact hm
