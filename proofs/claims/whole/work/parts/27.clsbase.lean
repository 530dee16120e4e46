/-- the item at cell q of the component holds o; the box of a group is not looked at -/
def It (S : Mem) (q : Nat) (o : Ob) : Prop := S q 1 = o.fm ∧ S q 6 = o.c ∧ S q 7 = pI o.p ∧ (o.fm ≠ 3 → S q 2 = o.l ∧ S q 3 = o.t ∧ S q 4 = o.w ∧ S q 5 = o.h)
def Orr (S : Mem) (d : Nat) (D : List Ob) : Prop := S d 2 = nI D.length ∧ ∀ (k : Nat) (o : Ob), D[k]? = some o → S (d + 26) k = nI o.nm
def Itm (S : Mem) (d : Nat) (D : List Ob) : Prop := ∀ o ∈ D, It S (d + 2 + o.nm) o
def Th (S : Mem) (d : Nat) (D : List Ob) : Prop := (∀ o ∈ D, S (d + 2 + o.nm) 0 = 1) ∧ ∀ x : Nat, x < 24 → (∀ o ∈ D, o.nm ≠ x) → S (d + 2 + x) 0 = 0
/-- the component's drawing at cell d is D -/
def CD (S : Mem) (d : Nat) (D : List Ob) : Prop := Orr S d D ∧ Itm S d D ∧ Th S d D
def tOr (d : Nat) (a i : Nat) : Prop := a = d + 26 ∨ a = d + 27 ∨ (a = d ∧ i = 2)
def tC (d : Nat) (a _i : Nat) : Prop := d ≤ a ∧ a < d + 28
theorem tOr_C {d : Nat} (a i : Nat) (h : tOr d a i) : tC d a i := by unfold tOr at h; unfold tC; omega
theorem it_of {S S' : Mem} {q : Nat} {o : Ob} (h : It S q o) (he : ∀ i, i ≠ 0 → S' q i = S q i) : It S' q o := by
  obtain ⟨h1, h6, h7, hb⟩ := h
  refine ⟨(he 1 (by omega)).trans h1, (he 6 (by omega)).trans h6, (he 7 (by omega)).trans h7, fun h => ?_⟩
  obtain ⟨h2, h3, h4, h5⟩ := hb h
  exact ⟨(he 2 (by omega)).trans h2, (he 3 (by omega)).trans h3, (he 4 (by omega)).trans h4, (he 5 (by omega)).trans h5⟩
theorem itm_fq {S S' : Mem} {d : Nat} {D : List Ob} (h : Itm S d D) (hn : ∀ o ∈ D, o.nm < 24) (hF : Fq (tOr d) S S') : Itm S' d D :=
  fun o ho => it_of (h o ho) (fun i _ => hF _ _ (by have := hn o ho; unfold tOr; omega))
theorem th_fq {S S' : Mem} {d : Nat} {D : List Ob} (h : Th S d D) (hn : ∀ o ∈ D, o.nm < 24) (hF : Fq (tOr d) S S') : Th S' d D :=
  ⟨fun o ho => (hF _ _ (by have := hn o ho; unfold tOr; omega)).trans (h.1 o ho), fun x hx hno => (hF _ _ (by unfold tOr; omega)).trans (h.2 x hx hno)⟩
theorem gd_lt {D : List Ob} (hG : Gd D) {o : Ob} (ho : o ∈ D) : o.nm < 24 := (gd_iff.mp hG).2.2 o ho
theorem place_ok {post : Int32 → Mem → Prop} {S : Mem} {d : Nat} {D : List Ob} (hR : Orr S d D) (hG : Gd D) (hl : D.length ≤ 12) {k : Nat} {o : Ob} (hk : D[k]? = some o) (hp : post (nI k) S) : cw_placeOf post S d (nI o.nm) := by
  have hkl := at_lt hk
  have hno := hG.2.2 _ _ hk
  have key : ∀ (m i : Nat), i + m = k → cw_placeOf_L2 post (m + 1) S d (nI o.nm) (nI i) := by
    intro m
    induction m with
    | zero =>
      intro i hi
      have : i = k := by omega
      subst this
      unfold cw_placeOf_L2
      rw [hR.1, q_le (by omega) (by omega), nI_clamp (by omega), hR.2 i o hk]
      exact ⟨fun h => absurd h (by omega), fun _ => ⟨q_in (by omega) (by omega), fun h => absurd rfl h, fun _ => hp⟩⟩
    | succ m ih =>
      intro i hi
      obtain ⟨x, hx⟩ := at_some (D := D) (i := i) (by omega)
      have hnx := hG.2.2 _ _ hx
      unfold cw_placeOf_L2
      rw [hR.1, q_le (by omega) (by omega), nI_clamp (by omega), hR.2 i x hx, q_eq (by omega) (by omega), q_1]
      refine ⟨fun h => absurd h (by omega), fun _ => ⟨q_in (by omega) (by omega), fun _ => ih (i + 1) (by omega), fun h => ?_⟩⟩
      have := hG.1 _ _ _ _ hx hk h
      omega
  exact ⟨k + 1, key k 0 (by omega)⟩
theorem cin_in {post : Int32 → Mem → Prop} {S : Mem} {d : Nat} {D : List Ob} (hI : Itm S d D) (hG : Gd D) (hl : D.length ≤ 12) {k e : Nat} {o : Ob} (hB : Blk D k e) (hk : D[k]? = some o) (hp : post 1 S) {i : Nat} {m : Ob} (hm : D[i]? = some m) (h1 : k ≤ i) (h2 : i < e) : cw_isIn post S d (nI m.nm) (nI o.nm) := by
  have hno := hG.2.2 _ _ hk
  have key : ∀ (i : Nat) (m : Ob) (n up : Nat), D[i]? = some m → k ≤ i → i < e → up + i < 12 → i + 1 ≤ n → cw_isIn_L5 post n S d (nI o.nm) (nI m.nm) (nI up) := by
    intro i
    induction i using Nat.strongRecOn with
    | _ i ih =>
      intro m n up hm h1 h2 h3 h4
      obtain ⟨n', rfl⟩ : ∃ n', n = n' + 1 := ⟨n - 1, by omega⟩
      have hnm := hG.2.2 _ _ hm
      unfold cw_isIn_L5
      rw [nI_clamp (by omega), (hI m (at_mem hm)).2.2.1, q_eq (by omega) (by omega), q_1]
      refine ⟨fun h => ?_, fun _ => ⟨fun h => absurd h (q_neg (by omega)), fun _ => ⟨fun hne => ⟨q_in (by omega) (by omega), ?_⟩, fun _ => hp⟩⟩⟩
      · rw [show (12 : Int32) = nI 12 from rfl, q_le (by omega) (by omega)] at h
        omega
      · have hik : k < i := by
          rcases Nat.lt_or_ge k i with h | h
          · exact h
          · have : i = k := by omega
            subst this
            exact absurd (by rw [Option.some.inj (hm.symm.trans hk)]) hne
        obtain ⟨j, g, hj1, hj2, hg, hpg⟩ := hB.2.2.1 i m hik h2 hm
        rw [hpg]
        exact ih j hj2 g n' (up + 1) hg hj1 (by omega) (by omega) (by omega)
  have hil := at_lt hm
  exact ⟨i + 1, key i m (i + 1) 0 hm h1 h2 (by omega) (Nat.le_refl _)⟩
theorem cin_out {post : Int32 → Mem → Prop} {S : Mem} {d : Nat} {D : List Ob} (hI : Itm S d D) (hG : Gd D) (hU : Up D) (hl : D.length ≤ 12) {k e : Nat} {o : Ob} (hB : Blk D k e) (hk : D[k]? = some o) (hp : post 0 S) {i : Nat} {m : Ob} (hm : D[i]? = some m) (h1 : i < k ∨ e ≤ i) : cw_isIn post S d (nI m.nm) (nI o.nm) := by
  have hno := hG.2.2 _ _ hk
  have hke := hB.1
  have key : ∀ (i : Nat) (m : Ob) (n up : Nat), D[i]? = some m → (i < k ∨ e ≤ i) → up + i < 12 → i + 2 ≤ n → cw_isIn_L5 post n S d (nI o.nm) (nI m.nm) (nI up) := by
    intro i
    induction i using Nat.strongRecOn with
    | _ i ih =>
      intro m n up hm h1 h3 h4
      obtain ⟨n', rfl⟩ : ∃ n', n = n' + 1 := ⟨n - 1, by omega⟩
      have hnm := hG.2.2 _ _ hm
      unfold cw_isIn_L5
      rw [nI_clamp (by omega), (hI m (at_mem hm)).2.2.1, q_eq (by omega) (by omega), q_1]
      refine ⟨fun h => ?_, fun _ => ⟨fun h => absurd h (q_neg (by omega)), fun _ => ⟨fun hne => ⟨q_in (by omega) (by omega), ?_⟩, fun h => ?_⟩⟩⟩
      · rw [show (12 : Int32) = nI 12 from rfl, q_le (by omega) (by omega)] at h
        omega
      · rcases hU i m hm with h | ⟨j, g, hj, hg, h⟩
        · rw [h]
          obtain ⟨n2, rfl⟩ : ∃ n2, n' = n2 + 1 := ⟨n' - 1, by omega⟩
          unfold cw_isIn_L5
          exact ⟨fun _ => hp, fun _ => ⟨fun _ => hp, fun h => absurd rfl h⟩⟩
        · rw [h]
          refine ih j hj g n' (up + 1) hg ?_ (by omega) (by omega)
          rcases Nat.lt_or_ge j k with hjk | hjk
          · exact Or.inl hjk
          · right
            rcases Nat.lt_or_ge j e with hje | hje
            · exact absurd h (hB.2.2.2 i m h1 hm j g hjk hje hg)
            · exact hje
      · have := hG.1 _ _ _ _ hm hk h
        omega
  have hil := at_lt hm
  exact ⟨i + 2, key i m (i + 2) 0 hm h1 (by omega) (Nat.le_refl _)⟩
theorem end_ok {post : Int32 → Mem → Prop} {S : Mem} {d : Nat} {D : List Ob} (hR : Orr S d D) (hI : Itm S d D) (hG : Gd D) (hU : Up D) (hl : D.length ≤ 12) {k e : Nat} {o : Ob} (hB : Blk D k e) (hk : D[k]? = some o) (hp : post (nI e) S) : cw_endOf post S d (nI o.nm) := by
  have hkl := at_lt hk
  have he := hB.2.1
  refine place_ok hR hG hl hk ?_
  have key : ∀ (m i : Nat), i + m = D.length → k < i → i ≤ e → cw_endOf_L8 post (m + 1) S d (nI o.nm) (nI i) := by
    intro m
    induction m with
    | zero =>
      intro i hi h1 h2
      have : i = e := by omega
      subst this
      unfold cw_endOf_L8
      rw [hR.1, q_le (by omega) (by omega)]
      exact ⟨fun _ => hp, fun h => absurd (show D.length ≤ i by omega) h⟩
    | succ m ih =>
      intro i hi h1 h2
      obtain ⟨x, hx⟩ := at_some (D := D) (i := i) (by omega)
      unfold cw_endOf_L8
      rw [hR.1, q_le (by omega) (by omega), nI_clamp (by omega), hR.2 i x hx, q_1]
      refine ⟨fun h => absurd h (by omega), fun _ => ⟨q_in (by omega) (by omega), ?_⟩⟩
      rcases Nat.lt_or_ge i e with hie | hie
      · exact cin_in hI hG hl hB hk ⟨fun h => absurd h (by decide), fun _ => ih (i + 1) (by omega) (by omega) (by omega)⟩ hx (by omega) hie
      · have : i = e := by omega
        subst this
        exact cin_out hI hG hU hl hB hk ⟨fun _ => hp, fun h => absurd rfl h⟩ hx (Or.inr (Nat.le_refl _))
  refine ⟨D.length - (k + 1) + 1, ?_⟩
  rw [q_1]
  exact key (D.length - (k + 1)) (k + 1) (by omega) (by omega) hB.1
theorem nar01 {r : Int32} (h : r = 0 ∨ r = 1) : vp_nar .boolean r = r := by
  rcases h with rfl | rfl
  · exact nar0
  · exact nar1
theorem shin_yes {post : Int32 → Mem → Prop} {S : Mem} {d : Nat} {D : List Ob} (hI : Itm S d D) (hG : Gd D) (hl : D.length ≤ 12) {k e : Nat} {o : Ob} (hB : Blk D k e) (hk : D[k]? = some o) {i : Nat} {m : Ob} (hm : D[i]? = some m) (hs : m.fm ≠ 3) (h1 : k ≤ i) (h2 : i < e) (hp : post 1 S) : cw_isShapeIn post S d (nI m.nm) (nI o.nm) := by
  have hnm := hG.2.2 _ _ hm
  unfold cw_isShapeIn ci_isShape
  rw [nI_clamp (by omega), (hI m (at_mem hm)).1, if_neg hs]
  exact ⟨q_in (by omega) (by omega), nar1, fun h => absurd h (by decide), fun _ => cin_in hI hG hl hB hk ⟨fun h => absurd h (by decide), fun _ => hp⟩ hm h1 h2⟩
theorem shin_no {post : Int32 → Mem → Prop} {S : Mem} {d : Nat} {D : List Ob} (hI : Itm S d D) (hG : Gd D) (hU : Up D) (hl : D.length ≤ 12) {k e : Nat} {o : Ob} (hB : Blk D k e) (hk : D[k]? = some o) {i : Nat} {m : Ob} (hm : D[i]? = some m) (hs : m.fm = 3 ∨ i < k ∨ e ≤ i) (hp : post 0 S) : cw_isShapeIn post S d (nI m.nm) (nI o.nm) := by
  have hnm := hG.2.2 _ _ hm
  unfold cw_isShapeIn ci_isShape
  rw [nI_clamp (by omega), (hI m (at_mem hm)).1]
  by_cases h3 : m.fm = 3
  · rw [if_pos h3]
    exact ⟨q_in (by omega) (by omega), nar0, fun _ => hp, fun h => absurd rfl h⟩
  · rw [if_neg h3]
    exact ⟨q_in (by omega) (by omega), nar1, fun h => absurd h (by decide), fun _ => cin_out hI hG hU hl hB hk ⟨fun _ => hp, fun h => absurd rfl h⟩ hm (hs.resolve_left h3)⟩
theorem app2_at {X Y : List Ob} {i : Nat} {o : Ob} (h : (X ++ Y)[i]? = some o) : (i < X.length ∧ X[i]? = some o) ∨ (X.length ≤ i ∧ Y[i - X.length]? = some o) := by
  rcases Nat.lt_or_ge i X.length with h1 | h1
  · rw [List.getElem?_append_left h1] at h
    exact Or.inl ⟨h1, h⟩
  · rw [List.getElem?_append_right h1] at h
    exact Or.inr ⟨h1, h⟩
theorem app_l {X Y : List Ob} {i : Nat} {o : Ob} (h : X[i]? = some o) : (X ++ Y)[i]? = some o := by
  rw [List.getElem?_append_left (at_lt h)]; exact h
theorem app_r {X Y : List Ob} {i : Nat} {o : Ob} (h : Y[i]? = some o) : (X ++ Y)[X.length + i]? = some o := by
  rw [List.getElem?_append_right (by omega), Nat.add_sub_cancel_left]; exact h
/-- insert: the order alone -/
theorem insert_ok {post : Mem → Prop} {S : Mem} {d : Nat} {a c : List Ob} (hR : Orr S d (a ++ c)) (hl : (a ++ c).length ≤ 11) (o : Ob) {k : Nat} (hk : k = a.length) (hp : ∀ S', Orr S' d (a ++ (o :: c)) → Fq (tOr d) S S' → post S') : cw_insert post S d (nI o.nm) (nI k) := by
  subst hk
  have hlen : (a ++ c).length = a.length + c.length := List.length_append
  unfold cw_insert
  rw [hR.1, q_1, q_sub (by omega), nI_clamp (by omega), nI_clamp (by omega), nI_clamp (by omega)]
  refine ⟨q_nlt0 (by omega), q_nlt0 (by omega), q_nlt0 (by omega), by omega, by omega, fun S1 h1 => ⟨q_in (by omega) (by omega), fun S2 h2 S3 h3 => ?_⟩⟩
  have k2 : S2 d 2 = nI (a ++ c).length := by rw [h2, up_at, if_neg (by omega), h1, cpy_at, if_neg (by omega)]; exact hR.1
  rw [k2, q_1] at h3
  refine hp S3 ⟨?_, fun i x hx => ?_⟩ ?_
  · rw [h3, up_at, if_pos ⟨rfl, rfl⟩]
    congr 1
    simp only [List.length_append, List.length_cons]
    omega
  · rw [h3, up_at, if_neg (by omega), h2, up_at]
    rcases app2_at hx with ⟨h4, h5⟩ | ⟨h4, h5⟩
    · rw [if_neg (by omega), h1, cpy_at, if_neg (by omega)]
      exact hR.2 i x (app_l h5)
    · by_cases hi : i = a.length
      · subst hi
        rw [if_pos ⟨rfl, rfl⟩]
        rw [Nat.sub_self] at h5
        rw [Option.some.inj h5]
      · have hil := at_lt h5
        rw [List.length_cons] at hil
        rw [if_neg (by omega), h1, cpy_at, if_pos ⟨rfl, by omega, by omega⟩]
        obtain ⟨j, hj⟩ : ∃ j, i - a.length = j + 1 := ⟨i - a.length - 1, by omega⟩
        rw [hj, List.getElem?_cons_succ] at h5
        rw [show a.length + (i - (a.length + 1)) = a.length + j by omega]
        exact hR.2 _ x (app_r h5)
  · rw [h3, h2, h1]
    exact ((fq_cpy (fun i => Or.inl rfl)).tr (fq_up (Or.inl rfl))).tr (fq_up (Or.inr (Or.inr ⟨rfl, rfl⟩)))
/-- moveBlock to an earlier place -/
theorem moveBack_ok {post : Mem → Prop} {S : Mem} {d : Nat} {X Y B Z : List Ob} (hR : Orr S d (X ++ (Y ++ (B ++ Z)))) (hl : (X ++ (Y ++ (B ++ Z))).length ≤ 12) {f e p : Nat} (hf : f = X.length + Y.length) (he : e = X.length + Y.length + B.length) (hpl : p = X.length) (hp : ∀ S', Orr S' d (X ++ (B ++ (Y ++ Z))) → Fq (tOr d) S S' → post S') : cw_moveBlock post S d (nI f) (nI e) (nI p) := by
  subst hf he hpl
  have hlen : (X ++ (Y ++ (B ++ Z))).length = X.length + (Y.length + (B.length + Z.length)) := by simp only [List.length_append]
  unfold cw_moveBlock
  rw [q_sub (show X.length + Y.length ≤ X.length + Y.length + B.length by omega), show X.length + Y.length + B.length - (X.length + Y.length) = B.length by omega, q_sub (show X.length ≤ X.length + Y.length by omega), show X.length + Y.length - X.length = Y.length by omega, q_add X.length, q_lt (by omega) (by omega)]
  simp only [nI_clamp (show X.length + Y.length < 2 ^ 31 by omega), nI_clamp (show X.length < 2 ^ 31 by omega), nI_clamp (show B.length < 2 ^ 31 by omega), nI_clamp (show Y.length < 2 ^ 31 by omega), nI_clamp (show X.length + B.length < 2 ^ 31 by omega)]
  refine ⟨q_nlt0 (by omega), q_nlt0 (by omega), by omega, by omega, fun S1 h1 => ⟨fun h => absurd h (by omega), fun _ => ⟨q_nlt0 (by omega), q_nlt0 (by omega), q_nlt0 (by omega), by omega, by omega, fun S4 h4 => ⟨q_nlt0 (by omega), q_nlt0 (by omega), by omega, by omega, fun S5 h5 => ?_⟩⟩⟩⟩
  refine hp S5 ⟨?_, fun i x hx => ?_⟩ ?_
  · rw [h5, cpy_at, if_neg (by omega), h4, cpy_at, if_neg (by omega), h1, cpy_at, if_neg (by omega), hR.1]
    congr 1
    simp only [List.length_append]
    omega
  · have hil := at_lt hx
    simp only [List.length_append] at hil
    rcases app2_at hx with ⟨g1, g2⟩ | ⟨g1, g2⟩
    · rw [h5, cpy_at, if_neg (by omega), h4, cpy_at, if_neg (by omega), h1, cpy_at, if_neg (by omega)]
      exact hR.2 i x (app_l g2)
    · rcases app2_at g2 with ⟨g3, g4⟩ | ⟨g3, g4⟩
      · rw [h5, cpy_at, if_pos ⟨rfl, by omega, by omega⟩, h4, cpy_at, if_neg (by omega), h1, cpy_at, if_pos ⟨rfl, by omega, by omega⟩, show X.length + Y.length + (0 + (i - X.length) - 0) = X.length + (Y.length + (i - X.length)) by omega]
        exact hR.2 _ x (app_r (app_r (app_l g4)))
      · rcases app2_at g4 with ⟨g5, g6⟩ | ⟨g5, g6⟩
        · rw [h5, cpy_at, if_neg (by omega), h4, cpy_at, if_pos ⟨rfl, by omega, by omega⟩, h1, cpy_at, if_neg (by omega), show X.length + (i - (X.length + B.length)) = X.length + (i - X.length - B.length) by omega]
          exact hR.2 _ x (app_r (app_l g6))
        · rw [h5, cpy_at, if_neg (by omega), h4, cpy_at, if_neg (by omega), h1, cpy_at, if_neg (by omega)]
          have := hR.2 _ x (app_r (app_r (app_r (X := B) g6)))
          rwa [show X.length + (Y.length + (B.length + (i - X.length - B.length - Y.length))) = i by omega] at this
  · rw [h5, h4, h1]
    exact ((fq_cpy (fun i => Or.inr (Or.inl rfl))).tr (fq_cpy (fun i => Or.inl rfl))).tr (fq_cpy (fun i => Or.inl rfl))
/-- moveBlock to a later place -/
theorem moveOn_ok {post : Mem → Prop} {S : Mem} {d : Nat} {X B Y Z : List Ob} (hR : Orr S d (X ++ (B ++ (Y ++ Z)))) (hB : B ≠ []) (hl : (X ++ (B ++ (Y ++ Z))).length ≤ 12) {f e p : Nat} (hf : f = X.length) (he : e = X.length + B.length) (hpl : p = X.length + B.length + Y.length) (hp : ∀ S', Orr S' d (X ++ (Y ++ (B ++ Z))) → Fq (tOr d) S S' → post S') : cw_moveBlock post S d (nI f) (nI e) (nI p) := by
  subst hf he hpl
  have hB0 : 0 < B.length := List.length_pos_iff.mpr hB
  have hlen : (X ++ (B ++ (Y ++ Z))).length = X.length + (B.length + (Y.length + Z.length)) := by simp only [List.length_append]
  unfold cw_moveBlock
  rw [q_sub (show X.length ≤ X.length + B.length by omega), show X.length + B.length - X.length = B.length by omega, q_sub (show X.length + B.length ≤ X.length + B.length + Y.length by omega), show X.length + B.length + Y.length - (X.length + B.length) = Y.length by omega, q_sub (show B.length ≤ X.length + B.length + Y.length by omega), show X.length + B.length + Y.length - B.length = X.length + Y.length by omega, q_lt (by omega) (by omega)]
  simp only [nI_clamp (show X.length + Y.length < 2 ^ 31 by omega), nI_clamp (show X.length < 2 ^ 31 by omega), nI_clamp (show B.length < 2 ^ 31 by omega), nI_clamp (show Y.length < 2 ^ 31 by omega), nI_clamp (show X.length + B.length < 2 ^ 31 by omega)]
  refine ⟨q_nlt0 (by omega), q_nlt0 (by omega), by omega, by omega, fun S1 h1 => ⟨fun _ => ⟨q_nlt0 (by omega), q_nlt0 (by omega), q_nlt0 (by omega), by omega, by omega, fun S4 h4 => ⟨q_nlt0 (by omega), q_nlt0 (by omega), by omega, by omega, fun S5 h5 => ?_⟩⟩, fun h => absurd (show X.length < X.length + B.length + Y.length by omega) h⟩⟩
  refine hp S5 ⟨?_, fun i x hx => ?_⟩ ?_
  · rw [h5, cpy_at, if_neg (by omega), h4, cpy_at, if_neg (by omega), h1, cpy_at, if_neg (by omega), hR.1]
    congr 1
    simp only [List.length_append]
    omega
  · have hil := at_lt hx
    simp only [List.length_append] at hil
    rcases app2_at hx with ⟨g1, g2⟩ | ⟨g1, g2⟩
    · rw [h5, cpy_at, if_neg (by omega), h4, cpy_at, if_neg (by omega), h1, cpy_at, if_neg (by omega)]
      exact hR.2 i x (app_l g2)
    · rcases app2_at g2 with ⟨g3, g4⟩ | ⟨g3, g4⟩
      · rw [h5, cpy_at, if_neg (by omega), h4, cpy_at, if_pos ⟨rfl, by omega, by omega⟩, h1, cpy_at, if_neg (by omega), show X.length + B.length + (i - X.length) = X.length + (B.length + (i - X.length)) by omega]
        exact hR.2 _ x (app_r (app_r (app_l g4)))
      · rcases app2_at g4 with ⟨g5, g6⟩ | ⟨g5, g6⟩
        · rw [h5, cpy_at, if_pos ⟨rfl, by omega, by omega⟩, h4, cpy_at, if_neg (by omega), h1, cpy_at, if_pos ⟨rfl, by omega, by omega⟩, show X.length + (0 + (i - (X.length + Y.length)) - 0) = X.length + (i - X.length - Y.length) by omega]
          exact hR.2 _ x (app_r (app_l g6))
        · rw [h5, cpy_at, if_neg (by omega), h4, cpy_at, if_neg (by omega), h1, cpy_at, if_neg (by omega)]
          have := hR.2 _ x (app_r (app_r (app_r (X := Y) g6)))
          rwa [show X.length + (B.length + (Y.length + (i - X.length - Y.length - B.length))) = i by omega] at this
  · rw [h5, h4, h1]
    exact ((fq_cpy (fun i => Or.inr (Or.inl rfl))).tr (fq_cpy (fun i => Or.inl rfl))).tr (fq_cpy (fun i => Or.inl rfl))
