theorem mp_0 (D : List Ob) (k : Nat) (f : Ob → Ob) : mp D k 0 f = D := by
  rw [show mp D k 0 f = mp D k k f from by
    apply List.ext_getElem?
    intro j
    rw [mp_at, mp_at]
    congr 1
    funext w
    rw [if_neg (by omega), if_neg (by omega)], mp_nil]
theorem canStretch_ok {post : Int32 → Mem → Prop} {S : Mem} {q : Nat} {m : Ob} (hI : It S q m) (h3 : m.fm ≠ 3) {bl bt p q' : Int32} (hq : ¬ q' = 0) (hy : okO (scl bl bt p q' m) → post 1 S) (hn : ¬ okO (scl bl bt p q' m) → post 0 S) : ci_canStretch post S q bl bt p q' := by
  obtain ⟨e2, e3, e4, e5⟩ := hI.2.2.2 h3
  have hok : okO (scl bl bt p q' m) ↔ (¬ bl + ((m.l - bl) * p) / q' < -200 ∧ ¬ bt + ((m.t - bt) * p) / q' < -200 ∧ ¬ 200 < bl + ((m.l - bl) * p) / q' + mx1 ((m.w * p) / q') ∧ ¬ 200 < bt + ((m.t - bt) * p) / q' + mx1 ((m.h * p) / q')) := by
    unfold okO scl
    rw [if_neg h3]
    exact ⟨fun h => h.resolve_left h3, fun h => Or.inr h⟩
  unfold ci_canStretch ci_scaledPlace ci_scaledLength
  dsimp only
  rw [e2, e3, e4, e5]
  exact ⟨hq, hq, hq, hq, keeps (fun h => ⟨nar1, hy (hok.mpr h)⟩) (fun h => ⟨nar0, hn (fun h' => h (hok.mp h'))⟩)⟩
theorem cscale_no {post : Int32 → Mem → Prop} {S : Mem} {d : Nat} {D : List Ob} (hO : Orr S d D) (hI : Itm S d D) (hG : Gd D) (hU : Up D) (hl : D.length ≤ 12) {k e : Nat} {o : Ob} (hB : Blk D k e) (hk : D[k]? = some o) {p q : Int32} (hq : ¬ q = 0) (hbad : ∃ (j : Nat) (m : Ob), D[j]? = some m ∧ m.fm ≠ 3 ∧ k ≤ j ∧ j < e ∧ ¬ okO (scl (lo (seg D k e) Ob.l 2147483647) (lo (seg D k e) Ob.t 2147483647) p q m)) (hp : post 0 S) : cw_scale post S d (nI o.nm) p q := by
  obtain ⟨j, b, hj, hb3, hb1, hb2, hbad⟩ := hbad
  have hjl := at_lt hj
  refine edge_0 hO hI hG hU hl hB hk (edge_1 hO hI hG hU hl hB hk ?_)
  have key : ∀ (m i : Nat), i + m = D.length → i ≤ j → cw_scale_L19 post (m + 1) S d (nI o.nm) p q (lo (seg D k e) Ob.l 2147483647) (lo (seg D k e) Ob.t 2147483647) (nI i) := by
    intro m
    induction m with
    | zero => intro i hi hij; omega
    | succ m ih =>
      intro i hi hij
      obtain ⟨z, hz⟩ := at_some (D := D) (i := i) (by omega)
      have hnz := hG.2.2 _ _ hz
      unfold cw_scale_L19
      rw [hO.1, q_le (by omega) (by omega), nI_clamp (show i < 2 ^ 31 by omega), hO.2 i z hz, q_1]
      refine ⟨fun h => absurd h (by omega), fun _ => ⟨q_in (by omega) (by omega), ?_⟩⟩
      by_cases hin : z.fm ≠ 3 ∧ k ≤ i ∧ i < e
      · refine shin_yes hI hG hl hB hk hz hin.1 hin.2.1 hin.2.2 ⟨fun h => absurd h (by decide), fun _ => ⟨q_in (by omega) (by omega), by rw [hO.2 i z hz]; exact q_in (by omega) (by omega), ?_⟩⟩
        rw [hO.2 i z hz, nI_clamp (by omega)]
        refine canStretch_ok (hI z (at_mem hz)) hin.1 hq (fun hok => ⟨fun _ => ih (i + 1) (by omega) ?_, fun h => absurd h (by decide)⟩) (fun _ => ⟨fun h => absurd rfl h, fun _ => hp⟩)
        by_cases hij' : i = j
        · subst hij'
          rw [Option.some.inj (hz.symm.trans hj)] at hok
          exact absurd hok hbad
        · omega
      · refine shin_no hI hG hU hl hB hk hz (in_dec hin) ⟨fun _ => ih (i + 1) (by omega) ?_, fun h => absurd rfl h⟩
        by_cases hij' : i = j
        · subst hij'
          rw [Option.some.inj (hz.symm.trans hj)] at hin
          exact absurd ⟨hb3, hb1, hb2⟩ hin
        · omega
  exact ⟨D.length + 1, key D.length 0 (by omega) (by omega)⟩
theorem cscale_yes {post : Int32 → Mem → Prop} {S : Mem} {d : Nat} {D : List Ob} (hR : CD S d D) (hG : Gd D) (hU : Up D) (hl : D.length ≤ 12) {k e : Nat} {o : Ob} (hB : Blk D k e) (hk : D[k]? = some o) {p q : Int32} (hq : ¬ q = 0) (hgood : ∀ (j : Nat) (m : Ob), D[j]? = some m → m.fm ≠ 3 → k ≤ j → j < e → okO (scl (lo (seg D k e) Ob.l 2147483647) (lo (seg D k e) Ob.t 2147483647) p q m)) (hp : ∀ S', CD S' d (mp D k e (scl (lo (seg D k e) Ob.l 2147483647) (lo (seg D k e) Ob.t 2147483647) p q)) → Fq (tC d) S S' → post 1 S') : cw_scale post S d (nI o.nm) p q := by
  have hno := hG.2.2 _ _ hk
  refine edge_0 hR.1 hR.2.1 hG hU hl hB hk (edge_1 hR.1 hR.2.1 hG hU hl hB hk ?_)
  generalize lo (seg D k e) Ob.l 2147483647 = bl at hgood hp ⊢
  generalize lo (seg D k e) Ob.t 2147483647 = bt at hgood hp ⊢
  have hf := fsk_scl bl bt p q
  have key2 : ∀ (m i : Nat) (S1 : Mem), i + m = D.length → CD S1 d (mp D k (min i e) (scl bl bt p q)) → Fq (tC d) S S1 → cw_scale_L78 post (m + 1) S1 d (nI o.nm) p q bl bt (nI i) := by
    intro m
    induction m with
    | zero =>
      intro i S1 hi hC hF
      unfold cw_scale_L78
      rw [hC.1.1, mp_len, q_le (by omega) (by omega)]
      have := hB.2.1
      rw [show min i e = e by omega] at hC
      exact ⟨fun _ => hp S1 hC hF, fun h => absurd (show D.length ≤ i by omega) h⟩
    | succ m ih =>
      intro i S1 hi hC hF
      obtain ⟨z, hz⟩ := at_some (D := D) (i := i) (by omega)
      have hnz := hG.2.2 _ _ hz
      have hsk := sk_mp (D := D) (k := k) (e := min i e) hf
      have hG' := gd_sk hsk hG
      have hU' := up_sk hsk hU
      have hB' := blk_sk hsk hB
      obtain ⟨o', hk', hon, -⟩ := sk_at' hsk hk
      have hz' : (mp D k (min i e) (scl bl bt p q))[i]? = some z := by rw [mp_at, hz, Option.map_some, if_neg (by omega)]
      unfold cw_scale_L78
      rw [hC.1.1, mp_len, q_le (by omega) (by omega), nI_clamp (show i < 2 ^ 31 by omega), hC.1.2 i z hz', q_1, ← hon]
      refine ⟨fun h => absurd h (by omega), fun _ => ⟨q_in (by omega) (by omega), ?_⟩⟩
      by_cases hin : z.fm ≠ 3 ∧ k ≤ i ∧ i < e
      · refine shin_yes hC.2.1 hG' (by rw [mp_len]; exact hl) hB' hk' hz' hin.1 hin.2.1 hin.2.2 ⟨fun h => absurd h (by decide), fun _ => ⟨q_in (by omega) (by omega), by rw [hC.1.2 i z hz']; exact q_in (by omega) (by omega), ?_⟩⟩
        rw [hC.1.2 i z hz', nI_clamp (by omega), hon]
        have hit := hC.2.1 z (at_mem hz')
        obtain ⟨e2, e3, e4, e5⟩ := hit.2.2.2 hin.1
        unfold ci_stretch ci_scaledPlace ci_scaledLength ci_setBox
        dsimp only
        rw [e2, e3, e4, e5]
        refine ⟨hq, hq, hq, hq, fun S2 h2 S3 h3 S4 h4 S5 h5 => ?_⟩
        have hall : ∀ a j, S5 a j = if a = d + 2 + z.nm ∧ j = 5 then mx1 ((z.h * p) / q) else if a = d + 2 + z.nm ∧ j = 4 then mx1 ((z.w * p) / q) else if a = d + 2 + z.nm ∧ j = 3 then bt + ((z.t - bt) * p) / q else if a = d + 2 + z.nm ∧ j = 2 then bl + ((z.l - bl) * p) / q else S1 a j := by
          intro a j
          rw [h5, up_at, h4, up_at, h3, up_at, h2, up_at]
          rfl
        refine ih (i + 1) S5 (by omega) (cd_step hf hG hC hz hin.2.1 hin.2.2 ?_ ?_ ?_) (hF.tr ?_)
        · unfold scl
          rw [if_neg hin.1]
          refine ⟨?_, ?_, ?_, fun _ => ⟨?_, ?_, ?_, ?_⟩⟩
          · rw [hall, if_neg (by omega), if_neg (by omega), if_neg (by omega), if_neg (by omega)]; exact hit.1
          · rw [hall, if_neg (by omega), if_neg (by omega), if_neg (by omega), if_neg (by omega)]; exact hit.2.1
          · rw [hall, if_neg (by omega), if_neg (by omega), if_neg (by omega), if_neg (by omega)]; exact hit.2.2.1
          · rw [hall, if_neg (by omega), if_neg (by omega), if_neg (by omega), if_pos ⟨rfl, rfl⟩]; rfl
          · rw [hall, if_neg (by omega), if_neg (by omega), if_pos ⟨rfl, rfl⟩]; rfl
          · rw [hall, if_neg (by omega), if_pos ⟨rfl, rfl⟩]; rfl
          · rw [hall, if_pos ⟨rfl, rfl⟩]; rfl
        · rw [hall, if_neg (by omega), if_neg (by omega), if_neg (by omega), if_neg (by omega)]
        · intro a j ha
          rw [hall, if_neg (by omega), if_neg (by omega), if_neg (by omega), if_neg (by omega)]
        · intro a j ha
          unfold tC at ha
          rw [hall, if_neg (by omega), if_neg (by omega), if_neg (by omega), if_neg (by omega)]
      · refine shin_no hC.2.1 hG' hU' (by rw [mp_len]; exact hl) hB' hk' hz' (in_dec hin) ⟨fun _ => ?_, fun h => absurd rfl h⟩
        rw [hon]
        refine ih (i + 1) S1 (by omega) ?_ hF
        rw [mp_skip]
        · exact hC
        · rcases in_dec hin with h | h | h
          · refine Or.inr (Or.inr (fun w hw => ?_))
            rw [Option.some.inj (hw.symm.trans hz)]
            unfold scl
            rw [if_pos h]
          · exact Or.inl h
          · exact Or.inr (Or.inl h)
  obtain ⟨hO, hI, hT⟩ := hR
  have key : ∀ (m i : Nat), i + m = D.length → cw_scale_L19 post (m + 1) S d (nI o.nm) p q bl bt (nI i) := by
    intro m
    induction m with
    | zero =>
      intro i hi
      unfold cw_scale_L19
      rw [hO.1, q_le (by omega) (by omega)]
      refine ⟨fun _ => ⟨D.length + 1, key2 D.length 0 S (by omega) ?_ Fq.rf⟩, fun h => absurd (show D.length ≤ i by omega) h⟩
      rw [Nat.zero_min, mp_0]
      exact ⟨hO, hI, hT⟩
    | succ m ih =>
      intro i hi
      obtain ⟨z, hz⟩ := at_some (D := D) (i := i) (by omega)
      have hnz := hG.2.2 _ _ hz
      unfold cw_scale_L19
      rw [hO.1, q_le (by omega) (by omega), nI_clamp (show i < 2 ^ 31 by omega), hO.2 i z hz, q_1]
      refine ⟨fun h => absurd h (by omega), fun _ => ⟨q_in (by omega) (by omega), ?_⟩⟩
      by_cases hin : z.fm ≠ 3 ∧ k ≤ i ∧ i < e
      · refine shin_yes hI hG hl hB hk hz hin.1 hin.2.1 hin.2.2 ⟨fun h => absurd h (by decide), fun _ => ⟨q_in (by omega) (by omega), by rw [hO.2 i z hz]; exact q_in (by omega) (by omega), ?_⟩⟩
        rw [hO.2 i z hz, nI_clamp (by omega)]
        exact canStretch_ok (hI z (at_mem hz)) hin.1 hq (fun _ => ⟨fun _ => ih (i + 1) (by omega), fun h => absurd h (by decide)⟩) (fun h => absurd (hgood i z hz hin.1 hin.2.1 hin.2.2) h)
      · exact shin_no hI hG hU hl hB hk hz (in_dec hin) ⟨fun _ => ih (i + 1) (by omega), fun h => absurd rfl h⟩
  exact ⟨D.length + 1, key D.length 0 (by omega)⟩
theorem cpaint_ok {post : Int32 → Mem → Prop} {S : Mem} {d : Nat} {D : List Ob} (hR : CD S d D) (hG : Gd D) (hU : Up D) (hl : D.length ≤ 12) {k e : Nat} {o : Ob} (hB : Blk D k e) (hk : D[k]? = some o) {b : Int32} (hp : ∀ S', CD S' d (mp D k e (pnt b)) → Fq (tC d) S S' → post 1 S') : cw_paint post S d (nI o.nm) b := by
  have hno := hG.2.2 _ _ hk
  have hf := fsk_pnt b
  have key2 : ∀ (m i : Nat) (S1 : Mem), i + m = D.length → CD S1 d (mp D k (min i e) (pnt b)) → Fq (tC d) S S1 → cw_paint_L2 post (m + 1) S1 d (nI o.nm) b (nI i) := by
    intro m
    induction m with
    | zero =>
      intro i S1 hi hC hF
      unfold cw_paint_L2
      rw [hC.1.1, mp_len, q_le (by omega) (by omega)]
      have := hB.2.1
      rw [show min i e = e by omega] at hC
      exact ⟨fun _ => hp S1 hC hF, fun h => absurd (show D.length ≤ i by omega) h⟩
    | succ m ih =>
      intro i S1 hi hC hF
      obtain ⟨z, hz⟩ := at_some (D := D) (i := i) (by omega)
      have hnz := hG.2.2 _ _ hz
      have hsk := sk_mp (D := D) (k := k) (e := min i e) hf
      have hG' := gd_sk hsk hG
      have hU' := up_sk hsk hU
      have hB' := blk_sk hsk hB
      obtain ⟨o', hk', hon, -⟩ := sk_at' hsk hk
      have hz' : (mp D k (min i e) (pnt b))[i]? = some z := by rw [mp_at, hz, Option.map_some, if_neg (by omega)]
      unfold cw_paint_L2
      rw [hC.1.1, mp_len, q_le (by omega) (by omega), nI_clamp (show i < 2 ^ 31 by omega), hC.1.2 i z hz', q_1, ← hon]
      refine ⟨fun h => absurd h (by omega), fun _ => ⟨q_in (by omega) (by omega), ?_⟩⟩
      by_cases hin : z.fm ≠ 3 ∧ k ≤ i ∧ i < e
      · refine shin_yes hC.2.1 hG' (by rw [mp_len]; exact hl) hB' hk' hz' hin.1 hin.2.1 hin.2.2 ⟨fun h => absurd h (by decide), fun _ => ⟨q_in (by omega) (by omega), by rw [hC.1.2 i z hz']; exact q_in (by omega) (by omega), ?_⟩⟩
        rw [hC.1.2 i z hz', nI_clamp (by omega), hon]
        intro S2 h2
        have hit := hC.2.1 z (at_mem hz')
        obtain ⟨e2, e3, e4, e5⟩ := hit.2.2.2 hin.1
        refine ih (i + 1) S2 (by omega) (cd_step hf hG hC hz hin.2.1 hin.2.2 ?_ ?_ ?_) (hF.tr ?_)
        · unfold pnt
          rw [if_neg hin.1]
          refine ⟨?_, ?_, ?_, fun _ => ⟨?_, ?_, ?_, ?_⟩⟩
          · rw [h2, up_at, if_neg (by omega)]; exact hit.1
          · rw [h2, up_at, if_pos ⟨rfl, rfl⟩]; rfl
          · rw [h2, up_at, if_neg (by omega)]; exact hit.2.2.1
          · rw [h2, up_at, if_neg (by omega)]; exact e2
          · rw [h2, up_at, if_neg (by omega)]; exact e3
          · rw [h2, up_at, if_neg (by omega)]; exact e4
          · rw [h2, up_at, if_neg (by omega)]; exact e5
        · rw [h2, up_at, if_neg (by omega)]
        · intro a j ha
          rw [h2, up_at, if_neg (by omega)]
        · intro a j ha
          unfold tC at ha
          rw [h2, up_at, if_neg (by omega)]
      · refine shin_no hC.2.1 hG' hU' (by rw [mp_len]; exact hl) hB' hk' hz' (in_dec hin) ⟨fun _ => ?_, fun h => absurd rfl h⟩
        rw [hon]
        refine ih (i + 1) S1 (by omega) ?_ hF
        rw [mp_skip]
        · exact hC
        · rcases in_dec hin with h | h | h
          · refine Or.inr (Or.inr (fun w hw => ?_))
            rw [Option.some.inj (hw.symm.trans hz)]
            unfold pnt
            rw [if_pos h]
          · exact Or.inl h
          · exact Or.inr (Or.inl h)
  exact ⟨D.length + 1, key2 D.length 0 S (by omega) (by rw [Nat.zero_min, mp_0]; exact hR) Fq.rf⟩
