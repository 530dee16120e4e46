theorem seg_ge {D : List Ob} {i e : Nat} (h : e ≤ i) : seg D i e = [] := by unfold seg; rw [show e - i = 0 by omega, List.take_zero]
theorem min_eq {a x : Int32} : (if x < a then x else a) = (if a ≤ x then a else x) := by
  by_cases h : a ≤ x
  · rw [if_pos h, if_neg (by rw [Int32.lt_iff_toInt_lt]; rw [Int32.le_iff_toInt_le] at h; omega)]
  · rw [if_neg h, if_pos (by rw [Int32.lt_iff_toInt_lt]; rw [Int32.le_iff_toInt_le] at h; omega)]
theorem max_eq {a x : Int32} : (if a < x then x else a) = (if x ≤ a then a else x) := by
  by_cases h : x ≤ a
  · rw [if_pos h, if_neg (by rw [Int32.lt_iff_toInt_lt]; rw [Int32.le_iff_toInt_le] at h; omega)]
  · rw [if_neg h, if_pos (by rw [Int32.lt_iff_toInt_lt]; rw [Int32.le_iff_toInt_le] at h; omega)]
theorem edge_lo {post : Int32 → Mem → Prop} {S : Mem} {d : Nat} {D : List Ob} (hO : Orr S d D) (hI : Itm S d D) (hG : Gd D) (hU : Up D) (hl : D.length ≤ 12) {k e : Nat} {o : Ob} (hB : Blk D k e) (hk : D[k]? = some o) {s : Int32} {f : Ob → Int32} (hend : ∀ (post' : Int32 → Mem → Prop) (q : Nat) (m : Ob), It S q m → m.fm ≠ 3 → post' (f m) S → ci_end post' S q s) {l3 : Int32} (hl3 : ¬ l3 = 0) {acc : Int32} (hp : post (lo (seg D k e) f acc) S) : ∃ n, cw_edge_L31 post n S d (nI o.nm) s l3 acc 0 := by
  have key : ∀ (m i : Nat) (acc : Int32), i + m = D.length → post (lo (seg D (max i k) e) f acc) S → cw_edge_L31 post (m + 1) S d (nI o.nm) s l3 acc (nI i) := by
    intro m
    induction m with
    | zero =>
      intro i acc hi hq
      unfold cw_edge_L31
      rw [hO.1, q_le (by omega) (by omega)]
      refine ⟨fun _ => ?_, fun h => absurd (show D.length ≤ i by omega) h⟩
      have := hB.2.1
      rw [seg_ge (by omega)] at hq
      exact hq
    | succ m ih =>
      intro i acc hi hq
      obtain ⟨x, hx⟩ := at_some (D := D) (i := i) (by omega)
      have hnx := hG.2.2 _ _ hx
      unfold cw_edge_L31
      rw [hO.1, q_le (by omega) (by omega), nI_clamp (show i < 2 ^ 31 by omega), hO.2 i x hx, q_1]
      refine ⟨fun h => absurd h (by omega), fun _ => ⟨q_in (by omega) (by omega), ?_⟩⟩
      by_cases hin : x.fm ≠ 3 ∧ k ≤ i ∧ i < e
      · obtain ⟨h3, h1, h2⟩ := hin
        refine shin_yes hI hG hl hB hk hx h3 h1 h2 ⟨fun h => absurd h (by decide), fun _ => ⟨q_in (by omega) (by omega), by rw [hO.2 i x hx]; exact q_in (by omega) (by omega), ?_⟩⟩
        rw [hO.2 i x hx, nI_clamp (by omega)]
        refine hend _ _ x (hI x (at_mem hx)) h3 ⟨fun h => absurd h hl3, fun _ => ih (i + 1) _ (by omega) ?_⟩
        rw [show max i k = i by omega, seg_cons hx h2] at hq
        unfold lo at hq ⊢
        rw [List.foldl_cons, if_neg h3] at hq
        rw [min_eq, show max (i + 1) k = i + 1 by omega]
        exact hq
      · refine shin_no hI hG hU hl hB hk hx ?_ ⟨fun _ => ih (i + 1) _ (by omega) ?_, fun h => absurd rfl h⟩
        · by_cases h3 : x.fm = 3
          · exact Or.inl h3
          · right
            rcases Nat.lt_or_ge i k with h | h
            · exact Or.inl h
            · rcases Nat.lt_or_ge i e with h' | h'
              · exact absurd ⟨h3, h, h'⟩ hin
              · exact Or.inr h'
        · rcases Nat.lt_or_ge i k with h | h
          · rwa [show max (i + 1) k = max i k by omega]
          · rcases Nat.lt_or_ge i e with h' | h'
            · have h3 : x.fm = 3 := Classical.byContradiction fun h3 => hin ⟨h3, h, h'⟩
              rw [show max i k = i by omega, seg_cons hx h'] at hq
              unfold lo at hq ⊢
              rw [List.foldl_cons, if_pos h3] at hq
              rwa [show max (i + 1) k = i + 1 by omega]
            · rw [seg_ge (by omega)] at hq ⊢
              exact hq
  exact ⟨D.length + 1, key D.length 0 acc (by omega) (by rw [Nat.zero_max]; exact hp)⟩
theorem edge_hi {post : Int32 → Mem → Prop} {S : Mem} {d : Nat} {D : List Ob} (hO : Orr S d D) (hI : Itm S d D) (hG : Gd D) (hU : Up D) (hl : D.length ≤ 12) {k e : Nat} {o : Ob} (hB : Blk D k e) (hk : D[k]? = some o) {s : Int32} {f : Ob → Int32} (hend : ∀ (post' : Int32 → Mem → Prop) (q : Nat) (m : Ob), It S q m → m.fm ≠ 3 → post' (f m) S → ci_end post' S q s) {acc : Int32} (hp : post (hi (seg D k e) f acc) S) : ∃ n, cw_edge_L31 post n S d (nI o.nm) s 0 acc 0 := by
  have key : ∀ (m i : Nat) (acc : Int32), i + m = D.length → post (hi (seg D (max i k) e) f acc) S → cw_edge_L31 post (m + 1) S d (nI o.nm) s 0 acc (nI i) := by
    intro m
    induction m with
    | zero =>
      intro i acc hi_ hq
      unfold cw_edge_L31
      rw [hO.1, q_le (by omega) (by omega)]
      refine ⟨fun _ => ?_, fun h => absurd (show D.length ≤ i by omega) h⟩
      have := hB.2.1
      rw [seg_ge (by omega)] at hq
      exact hq
    | succ m ih =>
      intro i acc hi_ hq
      obtain ⟨x, hx⟩ := at_some (D := D) (i := i) (by omega)
      have hnx := hG.2.2 _ _ hx
      unfold cw_edge_L31
      rw [hO.1, q_le (by omega) (by omega), nI_clamp (show i < 2 ^ 31 by omega), hO.2 i x hx, q_1]
      refine ⟨fun h => absurd h (by omega), fun _ => ⟨q_in (by omega) (by omega), ?_⟩⟩
      by_cases hin : x.fm ≠ 3 ∧ k ≤ i ∧ i < e
      · obtain ⟨h3, h1, h2⟩ := hin
        refine shin_yes hI hG hl hB hk hx h3 h1 h2 ⟨fun h => absurd h (by decide), fun _ => ⟨q_in (by omega) (by omega), by rw [hO.2 i x hx]; exact q_in (by omega) (by omega), ?_⟩⟩
        rw [hO.2 i x hx, nI_clamp (by omega)]
        refine hend _ _ x (hI x (at_mem hx)) h3 ⟨fun _ => ih (i + 1) _ (by omega) ?_, fun h => absurd rfl h⟩
        rw [show max i k = i by omega, seg_cons hx h2] at hq
        unfold hi at hq ⊢
        rw [List.foldl_cons, if_neg h3] at hq
        rw [max_eq, show max (i + 1) k = i + 1 by omega]
        exact hq
      · refine shin_no hI hG hU hl hB hk hx ?_ ⟨fun _ => ih (i + 1) _ (by omega) ?_, fun h => absurd rfl h⟩
        · by_cases h3 : x.fm = 3
          · exact Or.inl h3
          · right
            rcases Nat.lt_or_ge i k with h | h
            · exact Or.inl h
            · rcases Nat.lt_or_ge i e with h' | h'
              · exact absurd ⟨h3, h, h'⟩ hin
              · exact Or.inr h'
        · rcases Nat.lt_or_ge i k with h | h
          · rwa [show max (i + 1) k = max i k by omega]
          · rcases Nat.lt_or_ge i e with h' | h'
            · have h3 : x.fm = 3 := Classical.byContradiction fun h3 => hin ⟨h3, h, h'⟩
              rw [show max i k = i by omega, seg_cons hx h'] at hq
              unfold hi at hq ⊢
              rw [List.foldl_cons, if_pos h3] at hq
              rwa [show max (i + 1) k = i + 1 by omega]
            · rw [seg_ge (by omega)] at hq ⊢
              exact hq
  exact ⟨D.length + 1, key D.length 0 acc (by omega) (by rw [Nat.zero_max]; exact hp)⟩
theorem edge_0 {post : Int32 → Mem → Prop} {S : Mem} {d : Nat} {D : List Ob} {k e : Nat} {o : Ob} (hO : Orr S d D) (hI : Itm S d D) (hG : Gd D) (hU : Up D) (hl : D.length ≤ 12) (hB : Blk D k e) (hk : D[k]? = some o) (hp : post (lo (seg D k e) Ob.l 2147483647) S) : cw_edge post S d (nI o.nm) 0 := by
  unfold cw_edge
  exact edge_lo hO hI hG hU hl hB hk (f := Ob.l) (fun post' q m hi h3 h => ⟨fun _ => by rw [(hi.2.2.2 h3).1]; exact h, fun h => absurd h (by decide), fun h => absurd h (by decide), fun h => absurd h (by decide)⟩) (by decide) hp
theorem edge_1 {post : Int32 → Mem → Prop} {S : Mem} {d : Nat} {D : List Ob} {k e : Nat} {o : Ob} (hO : Orr S d D) (hI : Itm S d D) (hG : Gd D) (hU : Up D) (hl : D.length ≤ 12) (hB : Blk D k e) (hk : D[k]? = some o) (hp : post (lo (seg D k e) Ob.t 2147483647) S) : cw_edge post S d (nI o.nm) 1 := by
  unfold cw_edge
  exact edge_lo hO hI hG hU hl hB hk (f := Ob.t) (fun post' q m hi h3 h => ⟨fun h => absurd h (by decide), fun _ => by rw [(hi.2.2.2 h3).2.1]; exact h, fun h => absurd h (by decide), fun h => absurd h (by decide)⟩) (by decide) hp
theorem edge_2 {post : Int32 → Mem → Prop} {S : Mem} {d : Nat} {D : List Ob} {k e : Nat} {o : Ob} (hO : Orr S d D) (hI : Itm S d D) (hG : Gd D) (hU : Up D) (hl : D.length ≤ 12) (hB : Blk D k e) (hk : D[k]? = some o) (hp : post (hi (seg D k e) (fun o => o.l + o.w) (-2147483648)) S) : cw_edge post S d (nI o.nm) 2 := by
  unfold cw_edge
  exact edge_hi hO hI hG hU hl hB hk (f := fun o => o.l + o.w) (fun post' q m hi h3 h => ⟨fun h => absurd h (by decide), fun h => absurd h (by decide), fun _ => by rw [(hi.2.2.2 h3).1, (hi.2.2.2 h3).2.2.1]; exact h, fun h => absurd h (by decide)⟩) hp
theorem edge_3 {post : Int32 → Mem → Prop} {S : Mem} {d : Nat} {D : List Ob} {k e : Nat} {o : Ob} (hO : Orr S d D) (hI : Itm S d D) (hG : Gd D) (hU : Up D) (hl : D.length ≤ 12) (hB : Blk D k e) (hk : D[k]? = some o) (hp : post (hi (seg D k e) (fun o => o.t + o.h) (-2147483648)) S) : cw_edge post S d (nI o.nm) 3 := by
  unfold cw_edge
  exact edge_hi hO hI hG hU hl hB hk (f := fun o => o.t + o.h) (fun post' q m hi h3 h => ⟨fun h => absurd h (by decide), fun h => absurd h (by decide), fun h => absurd h (by decide), fun _ => by rw [(hi.2.2.2 h3).2.1, (hi.2.2.2 h3).2.2.2]; exact h⟩) hp
