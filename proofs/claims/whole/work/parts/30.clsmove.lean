theorem in_dec {x : Ob} {i k e : Nat} (h : ¬ (x.fm ≠ 3 ∧ k ≤ i ∧ i < e)) : x.fm = 3 ∨ i < k ∨ e ≤ i := by
  by_cases h3 : x.fm = 3
  · exact Or.inl h3
  · right
    rcases Nat.lt_or_ge i k with h1 | h1
    · exact Or.inl h1
    · rcases Nat.lt_or_ge i e with h' | h'
      · exact absurd ⟨h3, h1, h'⟩ h
      · exact Or.inr h'
theorem keeps {post : Int32 → Mem → Prop} {S : Mem} {a b c e : Int32} (hy : ¬ a < -200 ∧ ¬ b < -200 ∧ ¬ 200 < a + c ∧ ¬ 200 < b + e → post 1 S) (hn : ¬ (¬ a < -200 ∧ ¬ b < -200 ∧ ¬ 200 < a + c ∧ ¬ 200 < b + e) → post 0 S) : ci_keepsLimits post S a b c e := by
  unfold ci_keepsLimits
  by_cases c1 : a < -200
  · rw [if_pos c1]; exact ⟨nar0, hn (fun h => h.1 c1)⟩
  rw [if_neg c1]
  by_cases c2 : b < -200
  · rw [if_pos c2]; exact ⟨nar0, hn (fun h => h.2.1 c2)⟩
  rw [if_neg c2]
  by_cases c3 : 200 < a + c
  · rw [if_pos c3]; exact ⟨nar0, hn (fun h => h.2.2.1 c3)⟩
  rw [if_neg c3]
  by_cases c4 : 200 < b + e
  · rw [if_pos c4]; exact ⟨nar0, hn (fun h => h.2.2.2 c4)⟩
  rw [if_neg c4]
  exact ⟨nar1, hy ⟨c1, c2, c3, c4⟩⟩
theorem canShift_ok {post : Int32 → Mem → Prop} {S : Mem} {q : Nat} {m : Ob} (hI : It S q m) (h3 : m.fm ≠ 3) {x y : Int32} (hy : okO (shf x y m) → post 1 S) (hn : ¬ okO (shf x y m) → post 0 S) : ci_canShift post S q x y := by
  obtain ⟨e2, e3, e4, e5⟩ := hI.2.2.2 h3
  have hok : okO (shf x y m) ↔ (¬ m.l + x < -200 ∧ ¬ m.t + y < -200 ∧ ¬ 200 < m.l + x + m.w ∧ ¬ 200 < m.t + y + m.h) := by
    unfold okO shf
    rw [if_neg h3]
    exact ⟨fun h => h.resolve_left h3, fun h => Or.inr h⟩
  unfold ci_canShift
  rw [e2, e3, e4, e5]
  exact keeps (fun h => ⟨nar1, hy (hok.mpr h)⟩) (fun h => ⟨nar0, hn (fun h' => h (hok.mp h'))⟩)
theorem cmove_no {post : Int32 → Mem → Prop} {S : Mem} {d : Nat} {D : List Ob} (hO : Orr S d D) (hI : Itm S d D) (hG : Gd D) (hU : Up D) (hl : D.length ≤ 12) {k e : Nat} {o : Ob} (hB : Blk D k e) (hk : D[k]? = some o) {x y : Int32} (hbad : ∃ (j : Nat) (m : Ob), D[j]? = some m ∧ m.fm ≠ 3 ∧ k ≤ j ∧ j < e ∧ ¬ okO (shf x y m)) (hp : post 0 S) : cw_move post S d (nI o.nm) x y := by
  obtain ⟨j, b, hj, hb3, hb1, hb2, hbad⟩ := hbad
  have hjl := at_lt hj
  have key : ∀ (m i : Nat), i + m = D.length → i ≤ j → cw_move_L3 post (m + 1) S d (nI o.nm) x y (nI i) := by
    intro m
    induction m with
    | zero => intro i hi hij; omega
    | succ m ih =>
      intro i hi hij
      obtain ⟨z, hz⟩ := at_some (D := D) (i := i) (by omega)
      have hnz := hG.2.2 _ _ hz
      unfold cw_move_L3
      rw [hO.1, q_le (by omega) (by omega), nI_clamp (show i < 2 ^ 31 by omega), hO.2 i z hz, q_1]
      refine ⟨fun h => absurd h (by omega), fun _ => ⟨q_in (by omega) (by omega), ?_⟩⟩
      by_cases hin : z.fm ≠ 3 ∧ k ≤ i ∧ i < e
      · refine shin_yes hI hG hl hB hk hz hin.1 hin.2.1 hin.2.2 ⟨fun h => absurd h (by decide), fun _ => ⟨q_in (by omega) (by omega), by rw [hO.2 i z hz]; exact q_in (by omega) (by omega), ?_⟩⟩
        rw [hO.2 i z hz, nI_clamp (by omega)]
        refine canShift_ok (hI z (at_mem hz)) hin.1 (fun hok => ⟨fun _ => ih (i + 1) (by omega) ?_, fun h => absurd h (by decide)⟩) (fun _ => ⟨fun h => absurd rfl h, fun _ => hp⟩)
        by_cases hij' : i = j
        · subst hij'
          rw [Option.some.inj (hz.symm.trans hj)] at hok
          exact absurd hok hbad
        · omega
      · refine shin_no hI hG hU hl hB hk hz (in_dec hin) ⟨fun _ => ih (i + 1) (by omega) ?_, fun h => absurd rfl h⟩
        by_cases hij' : i = j
        · subst hij'
          rw [Option.some.inj (hz.symm.trans hj)] at hin
          exact absurd ⟨hb3, hb1, hb2⟩ hin
        · omega
  exact ⟨D.length + 1, key D.length 0 (by omega) (by omega)⟩
theorem cmove_yes {post : Int32 → Mem → Prop} {S : Mem} {d : Nat} {D : List Ob} (hR : CD S d D) (hG : Gd D) (hU : Up D) (hl : D.length ≤ 12) {k e : Nat} {o : Ob} (hB : Blk D k e) (hk : D[k]? = some o) {x y : Int32} (hgood : ∀ (j : Nat) (m : Ob), D[j]? = some m → m.fm ≠ 3 → k ≤ j → j < e → okO (shf x y m)) (hp : ∀ S', CD S' d (mp D k e (shf x y)) → Fq (tC d) S S' → post 1 S') : cw_move post S d (nI o.nm) x y := by
  have hno := hG.2.2 _ _ hk
  have hf := fsk_shf x y
  have key2 : ∀ (m i : Nat) (S1 : Mem), i + m = D.length → CD S1 d (mp D k (min i e) (shf x y)) → Fq (tC d) S S1 → cw_move_L58 post (m + 1) S1 d (nI o.nm) x y (nI i) := by
    intro m
    induction m with
    | zero =>
      intro i S1 hi hC hF
      unfold cw_move_L58
      rw [hC.1.1, mp_len, q_le (by omega) (by omega)]
      have := hB.2.1
      rw [show min i e = e by omega] at hC
      exact ⟨fun _ => hp S1 hC hF, fun h => absurd (show D.length ≤ i by omega) h⟩
    | succ m ih =>
      intro i S1 hi hC hF
      obtain ⟨z, hz⟩ := at_some (D := D) (i := i) (by omega)
      have hnz := hG.2.2 _ _ hz
      have hsk := sk_mp (D := D) (k := k) (e := min i e) hf
      have hG' := gd_sk hsk hG
      have hU' := up_sk hsk hU
      have hB' := blk_sk hsk hB
      obtain ⟨o', hk', hon, -⟩ := sk_at' hsk hk
      have hz' : (mp D k (min i e) (shf x y))[i]? = some z := by rw [mp_at, hz, Option.map_some, if_neg (by omega)]
      unfold cw_move_L58
      rw [hC.1.1, mp_len, q_le (by omega) (by omega), nI_clamp (show i < 2 ^ 31 by omega), hC.1.2 i z hz', q_1, ← hon]
      refine ⟨fun h => absurd h (by omega), fun _ => ⟨q_in (by omega) (by omega), ?_⟩⟩
      by_cases hin : z.fm ≠ 3 ∧ k ≤ i ∧ i < e
      · refine shin_yes hC.2.1 hG' (by rw [mp_len]; exact hl) hB' hk' hz' hin.1 hin.2.1 hin.2.2 ⟨fun h => absurd h (by decide), fun _ => ⟨q_in (by omega) (by omega), by rw [hC.1.2 i z hz']; exact q_in (by omega) (by omega), ?_⟩⟩
        rw [hC.1.2 i z hz', nI_clamp (by omega), hon]
        intro S2 h2 S3 h3
        have hall : ∀ a j, S3 a j = if a = d + 2 + z.nm ∧ j = 3 then S1 (d + 2 + z.nm) 3 + y else if a = d + 2 + z.nm ∧ j = 2 then S1 (d + 2 + z.nm) 2 + x else S1 a j := by
          intro a j
          rw [h3, up_at, h2, up_at, up_at, if_neg (show ¬ (d + 2 + z.nm = d + 2 + z.nm ∧ 3 = 2) by omega)]
        refine ih (i + 1) S3 (by omega) (cd_step hf hG hC hz hin.2.1 hin.2.2 ?_ ?_ ?_) (hF.tr ?_)
        · have hit := hC.2.1 z (at_mem hz')
          obtain ⟨e2, e3, e4, e5⟩ := hit.2.2.2 hin.1
          unfold shf
          rw [if_neg hin.1]
          refine ⟨?_, ?_, ?_, fun _ => ⟨?_, ?_, ?_, ?_⟩⟩
          · rw [hall, if_neg (by omega), if_neg (by omega)]; exact hit.1
          · rw [hall, if_neg (by omega), if_neg (by omega)]; exact hit.2.1
          · rw [hall, if_neg (by omega), if_neg (by omega)]; exact hit.2.2.1
          · rw [hall, if_neg (by omega), if_pos ⟨rfl, rfl⟩, e2]; rfl
          · rw [hall, if_pos ⟨rfl, rfl⟩, e3]; rfl
          · rw [hall, if_neg (by omega), if_neg (by omega)]; exact e4
          · rw [hall, if_neg (by omega), if_neg (by omega)]; exact e5
        · rw [hall, if_neg (by omega), if_neg (by omega)]
        · intro a j ha
          rw [hall, if_neg (by omega), if_neg (by omega)]
        · intro a j ha
          unfold tC at ha
          rw [hall, if_neg (by omega), if_neg (by omega)]
      · refine shin_no hC.2.1 hG' hU' (by rw [mp_len]; exact hl) hB' hk' hz' (in_dec hin) ⟨fun _ => ?_, fun h => absurd rfl h⟩
        rw [hon]
        refine ih (i + 1) S1 (by omega) ?_ hF
        rw [mp_skip]
        · exact hC
        · rcases in_dec hin with h | h | h
          · refine Or.inr (Or.inr (fun w hw => ?_))
            rw [Option.some.inj (hw.symm.trans hz)]
            unfold shf
            rw [if_pos h]
          · exact Or.inl h
          · exact Or.inr (Or.inl h)
  obtain ⟨hO, hI, hT⟩ := hR
  have key : ∀ (m i : Nat), i + m = D.length → cw_move_L3 post (m + 1) S d (nI o.nm) x y (nI i) := by
    intro m
    induction m with
    | zero =>
      intro i hi
      unfold cw_move_L3
      rw [hO.1, q_le (by omega) (by omega)]
      refine ⟨fun _ => ⟨D.length + 1, key2 D.length 0 S (by omega) ?_ Fq.rf⟩, fun h => absurd (show D.length ≤ i by omega) h⟩
      rw [Nat.zero_min, show mp D k 0 (shf x y) = D from by
        rw [show mp D k 0 (shf x y) = mp D k k (shf x y) from by
          apply List.ext_getElem?
          intro j
          rw [mp_at, mp_at]
          congr 1
          funext w
          rw [if_neg (by omega), if_neg (by omega)], mp_nil]]
      exact ⟨hO, hI, hT⟩
    | succ m ih =>
      intro i hi
      obtain ⟨z, hz⟩ := at_some (D := D) (i := i) (by omega)
      have hnz := hG.2.2 _ _ hz
      unfold cw_move_L3
      rw [hO.1, q_le (by omega) (by omega), nI_clamp (show i < 2 ^ 31 by omega), hO.2 i z hz, q_1]
      refine ⟨fun h => absurd h (by omega), fun _ => ⟨q_in (by omega) (by omega), ?_⟩⟩
      by_cases hin : z.fm ≠ 3 ∧ k ≤ i ∧ i < e
      · refine shin_yes hI hG hl hB hk hz hin.1 hin.2.1 hin.2.2 ⟨fun h => absurd h (by decide), fun _ => ⟨q_in (by omega) (by omega), by rw [hO.2 i z hz]; exact q_in (by omega) (by omega), ?_⟩⟩
        rw [hO.2 i z hz, nI_clamp (by omega)]
        exact canShift_ok (hI z (at_mem hz)) hin.1 (fun _ => ⟨fun _ => ih (i + 1) (by omega), fun h => absurd h (by decide)⟩) (fun h => absurd (hgood i z hz hin.1 hin.2.1 hin.2.2) h)
      · exact shin_no hI hG hU hl hB hk hz (in_dec hin) ⟨fun _ => ih (i + 1) (by omega), fun h => absurd rfl h⟩
  exact ⟨D.length + 1, key D.length 0 (by omega)⟩
