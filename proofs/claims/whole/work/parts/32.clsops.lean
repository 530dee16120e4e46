/-- one object more, its item laid before -/
theorem cd_add {S S3 S4 : Mem} {d n : Nat} {D D' : List Ob} {o : Ob} (hR : CD S d D) (hG : Gd D) (hn : n < 24) (hon : o.nm = n) (hfr : ∀ x ∈ D, x.nm ≠ n) (hS3 : ∀ a j, a ≠ d + 2 + n → S3 a j = S a j) (h0 : S3 (d + 2 + n) 0 = 1) (hit : It S3 (d + 2 + n) o) (hO : Orr S4 d D') (hmem : ∀ x, x ∈ D' ↔ x ∈ D ∨ x = o) (hF : Fq (tOr d) S3 S4) : CD S4 d D' := by
  have hcell : ∀ x, x < 24 → ∀ j, S4 (d + 2 + x) j = S3 (d + 2 + x) j := fun x hx j => hF _ _ (by unfold tOr; omega)
  refine ⟨hO, fun x hx => ?_, fun x hx => ?_, fun x hx hno => ?_⟩
  · rcases (hmem x).mp hx with h | h
    · have h1 := gd_lt hG h
      have h2 := hfr x h
      exact it_of (hR.2.1 x h) (fun j _ => by rw [hcell _ h1, hS3 _ _ (by omega)])
    · subst h
      rw [hon]
      exact it_of hit (fun j _ => hcell _ hn _)
  · rcases (hmem x).mp hx with h | h
    · have h1 := gd_lt hG h
      have h2 := hfr x h
      rw [hcell _ h1, hS3 _ _ (by omega)]
      exact hR.2.2.1 x h
    · subst h
      rw [hon, hcell _ hn]; exact h0
  · have hxn : x ≠ n := fun h => hno o ((hmem o).mpr (Or.inr rfl)) (by rw [hon, h])
    rw [hcell _ hx, hS3 _ _ (by omega)]
    exact hR.2.2.2 x hx (fun y hy => hno y ((hmem y).mpr (Or.inl hy)))
theorem cmake_no {post : Int32 → Mem → Prop} {S : Mem} {d l1 n : Nat} {D : List Ob} (hR : CD S d D) (hl : D.length ≤ 12) {A0 A1 A2 A3 : Int32} (g1 : S (l1 + 1) 1 = A1) (g2 : S (l1 + 1) 2 = A2) (g3 : S (l1 + 1) 3 = A3) (h0 : A0 ≠ 3) (hbad : 12 ≤ D.length ∨ ¬ okO (mkd n A0 A1 A2 A3)) (hp : post 0 S) : cw_make post S d l1 (nI n) := by
  have h12 : (12 : Int32) ≤ S d 2 ↔ 12 ≤ D.length := by rw [hR.1.1, show (12 : Int32) = nI 12 from rfl, q_le (by omega) (by omega)]
  unfold cw_make
  rw [g1, g2, g3, h12]
  refine ⟨fun _ => hp, fun h => keeps (fun hk => ?_) (fun _ => ⟨fun h => absurd rfl h, fun _ => hp⟩)⟩
  rcases hbad with hb | hb
  · exact absurd hb h
  · exact absurd (Or.inr hk) hb
theorem cmake_yes {post : Int32 → Mem → Prop} {S : Mem} {d l1 n : Nat} {D : List Ob} (hR : CD S d D) (hG : Gd D) (hl : D.length < 12) (hn : n < 24) (hfr : ∀ x ∈ D, x.nm ≠ n) (hl1 : l1 + 1 < d ∨ d + 28 ≤ l1 + 1) {A0 A1 A2 A3 : Int32} (g0 : S (l1 + 1) 0 = A0) (g1 : S (l1 + 1) 1 = A1) (g2 : S (l1 + 1) 2 = A2) (g3 : S (l1 + 1) 3 = A3) (h0 : A0 ≠ 3) (hok : okO (mkd n A0 A1 A2 A3)) (hp : ∀ S', CD S' d (D ++ [mkd n A0 A1 A2 A3]) → Fq (tC d) S S' → post 1 S') : cw_make post S d l1 (nI n) := by
  have h12 : (12 : Int32) ≤ S d 2 ↔ 12 ≤ D.length := by rw [hR.1.1, show (12 : Int32) = nI 12 from rfl, q_le (by omega) (by omega)]
  unfold cw_make
  rw [g1, g2, g3, h12, nI_clamp (by omega)]
  refine ⟨fun h => absurd h (by omega), fun _ => keeps (fun _ => ⟨fun _ => ⟨q_in (by omega) (by omega), fun S1 h1 S2 h2 S3 h3 S4 h4 => ⟨q_in (by omega) (by omega), fun S5 h5 S6 h6 S7 h7 S8 h8 => ?_⟩⟩, fun h => absurd h (by decide)⟩) (fun h => absurd (hok.resolve_left h0) h)⟩
  rw [g0] at h2
  have hall : ∀ a j, a ≠ d + 2 + n → S8 a j = S a j := by
    intro a j ha
    rw [h8, up_at, if_neg (by omega), h7, up_at, if_neg (by omega), h6, up_at, if_neg (by omega), h5, up_at, if_neg (by omega), h4, up_at, if_neg (by omega), h3, up_at, if_neg (by omega), h2, up_at, if_neg (by omega), h1, up_at, if_neg (by omega)]
  have hO8 : Orr S8 d (D ++ []) := by
    rw [List.append_nil]
    exact ⟨by rw [hall _ _ (by omega)]; exact hR.1.1, fun k o hk => by rw [hall _ _ (by omega)]; exact hR.1.2 k o hk⟩
  rw [hO8.1]
  refine insert_ok hO8 (by rw [List.append_nil]; omega) (mkd n A0 A1 A2 A3) (by rw [List.append_nil]) (fun S9 hO9 hF9 => hp S9 ?_ ?_)
  · refine cd_add hR hG hn (o := mkd n A0 A1 A2 A3) rfl hfr hall ?_ ?_ hO9 (fun x => by simp) hF9
    · rw [h8, up_at, if_neg (by omega), h7, up_at, if_neg (by omega), h6, up_at, if_neg (by omega), h5, up_at, if_neg (by omega), h4, up_at, if_neg (by omega), h3, up_at, if_neg (by omega), h2, up_at, if_neg (by omega), h1, up_at, if_pos ⟨rfl, rfl⟩]
    · refine ⟨?_, ?_, ?_, fun _ => ⟨?_, ?_, ?_, ?_⟩⟩
      · rw [h8, up_at, if_neg (by omega), h7, up_at, if_neg (by omega), h6, up_at, if_neg (by omega), h5, up_at, if_neg (by omega), h4, up_at, if_neg (by omega), h3, up_at, if_neg (by omega), h2, up_at, if_pos ⟨rfl, rfl⟩]; rfl
      · rw [h8, up_at, if_neg (by omega), h7, up_at, if_neg (by omega), h6, up_at, if_neg (by omega), h5, up_at, if_neg (by omega), h4, up_at, if_neg (by omega), h3, up_at, if_pos ⟨rfl, rfl⟩]; rfl
      · rw [h8, up_at, if_neg (by omega), h7, up_at, if_neg (by omega), h6, up_at, if_neg (by omega), h5, up_at, if_neg (by omega), h4, up_at, if_pos ⟨rfl, rfl⟩]; rfl
      · rw [h8, up_at, if_neg (by omega), h7, up_at, if_neg (by omega), h6, up_at, if_neg (by omega), h5, up_at, if_pos ⟨rfl, rfl⟩]; rfl
      · rw [h8, up_at, if_neg (by omega), h7, up_at, if_neg (by omega), h6, up_at, if_pos ⟨rfl, rfl⟩]; rfl
      · rw [h8, up_at, if_neg (by omega), h7, up_at, if_pos ⟨rfl, rfl⟩]; rfl
      · rw [h8, up_at, if_pos ⟨rfl, rfl⟩]; rfl
  · refine Fq.tr (fun a j ha => hall a j ?_) (hF9.mono tOr_C)
    unfold tC at ha
    omega
theorem cdouble_no {post : Int32 → Mem → Prop} {S : Mem} {d n : Nat} {D : List Ob} {o : Ob} (hR : CD S d D) (hG : Gd D) (hl : D.length ≤ 12) (ho : o ∈ D) {x y : Int32} (hbad : o.fm = 3 ∨ 12 ≤ D.length ∨ ¬ okO (shf x y o)) (hp : post 0 S) : cw_makeDouble post S d (nI o.nm) x y (nI n) := by
  have hno := gd_lt hG ho
  have hit := hR.2.1 o ho
  have h12 : (12 : Int32) ≤ S d 2 ↔ 12 ≤ D.length := by rw [hR.1.1, show (12 : Int32) = nI 12 from rfl, q_le (by omega) (by omega)]
  unfold cw_makeDouble ci_isShape
  rw [nI_clamp (show o.nm < 2 ^ 31 by omega), hit.1]
  refine ⟨q_in (by omega) (by omega), ?_⟩
  by_cases h3 : o.fm = 3
  · rw [if_pos h3]
    exact ⟨nar0, fun _ => hp, fun h => absurd rfl h⟩
  · rw [if_neg h3]
    refine ⟨nar1, fun h => absurd h (by decide), fun _ => ⟨fun _ => hp, fun h => canShift_ok hit h3 (fun hk => ?_) (fun _ => ⟨fun h => absurd rfl h, fun _ => hp⟩)⟩⟩
    rcases hbad with hb | hb | hb
    · exact absurd hb h3
    · exact absurd (h12.mpr hb) h
    · exact absurd hk hb
theorem cdouble_yes {post : Int32 → Mem → Prop} {S : Mem} {d n : Nat} {a c : List Ob} {o : Ob} (hR : CD S d (a ++ o :: c)) (hG : Gd (a ++ o :: c)) (hl : (a ++ o :: c).length < 12) (hn : n < 24) (hfr : ∀ x ∈ a ++ o :: c, x.nm ≠ n) {x y : Int32} (h3 : o.fm ≠ 3) (hok : okO (shf x y o)) (hp : ∀ S', CD S' d (a ++ o :: dbl n x y o :: c) → Fq (tC d) S S' → post 1 S') : cw_makeDouble post S d (nI o.nm) x y (nI n) := by
  have ho : o ∈ a ++ o :: c := by simp
  have hno := gd_lt hG ho
  have hit := hR.2.1 o ho
  have hne := hfr o ho
  obtain ⟨e2, e3, e4, e5⟩ := hit.2.2.2 h3
  have h12 : (12 : Int32) ≤ S d 2 ↔ 12 ≤ (a ++ o :: c).length := by rw [hR.1.1, show (12 : Int32) = nI 12 from rfl, q_le (by omega) (by omega)]
  have hlen : (a ++ o :: c).length = a.length + (c.length + 1) := by simp
  unfold cw_makeDouble ci_isShape
  rw [nI_clamp (show o.nm < 2 ^ 31 by omega), nI_clamp (show n < 2 ^ 31 by omega), hit.1, if_neg h3]
  refine ⟨q_in (by omega) (by omega), nar1, fun h => absurd h (by decide), fun _ => ⟨fun h => absurd (h12.mp h) (by omega), fun _ => canShift_ok hit h3 (fun _ => ⟨fun _ => ⟨q_in (by omega) (by omega), fun S1 h1 S2 h2 S3 h3' S4 h4 => ⟨q_in (by omega) (by omega), fun S5 h5 S6 h6 S7 h7 S8 h8 => ?_⟩⟩, fun h => absurd h (by decide)⟩) (fun h => absurd hok h)⟩⟩
  have hall4 : ∀ a j, a ≠ d + 2 + n → S4 a j = S a j := by
    intro a j ha
    rw [h4, up_at, if_neg (by omega), h3', up_at, if_neg (by omega), h2, up_at, if_neg (by omega), h1, up_at, if_neg (by omega)]
  rw [hall4 _ _ (by omega), e2] at h5
  rw [hall4 _ _ (by omega), e3] at h6
  rw [hall4 _ _ (by omega), e4] at h7
  rw [hall4 _ _ (by omega), e5] at h8
  rw [hit.1] at h2
  rw [hit.2.1] at h3'
  rw [hit.2.2.1] at h4
  have hall : ∀ a j, a ≠ d + 2 + n → S8 a j = S a j := by
    intro a j ha
    rw [h8, up_at, if_neg (by omega), h7, up_at, if_neg (by omega), h6, up_at, if_neg (by omega), h5, up_at, if_neg (by omega)]
    exact hall4 a j ha
  have hO8 : Orr S8 d (a ++ o :: c) := ⟨by rw [hall _ _ (by omega)]; exact hR.1.1, fun k o' hk => by rw [hall _ _ (by omega)]; exact hR.1.2 k o' hk⟩
  refine place_ok hO8 hG (by omega) at_app ?_
  rw [q_1]
  have hO8' : Orr S8 d ((a ++ [o]) ++ c) := by simpa using hO8
  refine insert_ok hO8' (by simp only [List.length_append, List.length_cons, List.length_nil]; omega) (dbl n x y o) (by simp) (fun S9 hO9 hF9 => hp S9 ?_ ?_)
  · refine cd_add hR hG hn (o := dbl n x y o) rfl hfr hall ?_ ?_ (by simpa using hO9) (fun z => by simp; grind) hF9
    · rw [h8, up_at, if_neg (by omega), h7, up_at, if_neg (by omega), h6, up_at, if_neg (by omega), h5, up_at, if_neg (by omega), h4, up_at, if_neg (by omega), h3', up_at, if_neg (by omega), h2, up_at, if_neg (by omega), h1, up_at, if_pos ⟨rfl, rfl⟩]
    · refine ⟨?_, ?_, ?_, fun _ => ⟨?_, ?_, ?_, ?_⟩⟩
      · rw [h8, up_at, if_neg (by omega), h7, up_at, if_neg (by omega), h6, up_at, if_neg (by omega), h5, up_at, if_neg (by omega), h4, up_at, if_neg (by omega), h3', up_at, if_neg (by omega), h2, up_at, if_pos ⟨rfl, rfl⟩]; rfl
      · rw [h8, up_at, if_neg (by omega), h7, up_at, if_neg (by omega), h6, up_at, if_neg (by omega), h5, up_at, if_neg (by omega), h4, up_at, if_neg (by omega), h3', up_at, if_pos ⟨rfl, rfl⟩]; rfl
      · rw [h8, up_at, if_neg (by omega), h7, up_at, if_neg (by omega), h6, up_at, if_neg (by omega), h5, up_at, if_neg (by omega), h4, up_at, if_pos ⟨rfl, rfl⟩]; rfl
      · rw [h8, up_at, if_neg (by omega), h7, up_at, if_neg (by omega), h6, up_at, if_neg (by omega), h5, up_at, if_pos ⟨rfl, rfl⟩]; rfl
      · rw [h8, up_at, if_neg (by omega), h7, up_at, if_neg (by omega), h6, up_at, if_pos ⟨rfl, rfl⟩]; rfl
      · rw [h8, up_at, if_neg (by omega), h7, up_at, if_pos ⟨rfl, rfl⟩]; rfl
      · rw [h8, up_at, if_pos ⟨rfl, rfl⟩]; rfl
  · refine Fq.tr (fun a j ha => hall a j ?_) (hF9.mono tOr_C)
    unfold tC at ha
    omega
