theorem ne_side {X Y : List Ob} {a o : Ob} (hG : Gd (X ++ a :: Y)) (ho : o ∈ X ∨ o ∈ Y) : o.nm ≠ a.nm := by
  intro hne
  rcases ho with ho | ho
  · obtain ⟨j, h1, h2⟩ := mem_l (B := a :: Y) ho
    have := hG.1 _ _ _ _ h2 at_app hne
    omega
  · obtain ⟨j, h1, h2⟩ := mem_r (A := X ++ [a]) ho
    rw [List.append_assoc, List.singleton_append] at h2
    have := hG.1 _ _ _ _ h2 at_app hne
    rw [List.length_append, List.length_singleton] at h1
    omega
theorem gd_mem {D : List Ob} (hG : Gd D) {a b : Ob} (ha : a ∈ D) (hb : b ∈ D) (h : a.nm = b.nm) : a = b := by
  obtain ⟨i, hi⟩ := List.mem_iff_getElem?.mp ha
  obtain ⟨j, hj⟩ := List.mem_iff_getElem?.mp hb
  have := hG.1 i j a b hi hj h
  subst this
  exact Option.some.inj (hi.symm.trans hj)
theorem orr_names {S : Mem} {d : Nat} {L L' : List Ob} (hm : L'.map Ob.nm = L.map Ob.nm) (h : Orr S d L) : Orr S d L' := by
  have hl : L'.length = L.length := by
    have := congrArg List.length hm
    rwa [List.length_map, List.length_map] at this
  refine ⟨by rw [hl]; exact h.1, fun k o hk => ?_⟩
  have h1 : (L'.map Ob.nm)[k]? = some o.nm := by rw [List.getElem?_map, hk]; rfl
  rw [hm, List.getElem?_map] at h1
  obtain ⟨o', h2, h3⟩ := Option.map_eq_some_iff.mp h1
  rw [← h3]
  exact h.2 k o' h2
theorem orr_fq {S S' : Mem} {d : Nat} {L : List Ob} (h : Orr S d L) (h1 : S' d 2 = S d 2) (h2 : ∀ i, S' (d + 26) i = S (d + 26) i) : Orr S' d L := ⟨h1.trans h.1, fun k o hk => (h2 k).trans (h.2 k o hk)⟩
theorem cgroup_mid {K : Mem → Prop} {S : Mem} {d n : Nat} {s1 A s2 B s3 : List Ob} {a b : Ob} (hR : CD S d (s1 ++ ((a :: A) ++ (s2 ++ ((b :: B) ++ s3))))) (hG : Gd (s1 ++ ((a :: A) ++ (s2 ++ ((b :: B) ++ s3))))) (hU : Up (s1 ++ ((a :: A) ++ (s2 ++ ((b :: B) ++ s3))))) (hl : (s1 ++ ((a :: A) ++ (s2 ++ ((b :: B) ++ s3)))).length < 12) (hB : Blk (s1 ++ ((a :: A) ++ (s2 ++ ((b :: B) ++ s3)))) s1.length (s1.length + 1 + A.length)) (g : Ob) (hg : g.nm = n) (hK : ∀ S', Orr S' d ((s1 ++ s2) ++ (g :: ((a :: A) ++ ((b :: B) ++ s3)))) → Fq (tOr d) S S' → K S') : cw_placeOf (fun r3 S3 => cw_endOf (fun r4 S4 => cw_placeOf (fun r5 S5 => cw_moveBlock (fun S6 => cw_placeOf (fun r7 S7 => cw_insert (fun S8 => K S8) S7 d (nI n) r7) S6 d (nI a.nm)) S5 d r3 r4 r5) S4 d (nI b.nm)) S3 d (nI a.nm)) S d (nI a.nm) := by
  subst hg
  have hlen : (s1 ++ ((a :: A) ++ (s2 ++ ((b :: B) ++ s3)))).length = s1.length + (A.length + 1 + (s2.length + (B.length + 1 + s3.length))) := by simp only [List.length_append, List.length_cons]
  have hka : (s1 ++ ((a :: A) ++ (s2 ++ ((b :: B) ++ s3))))[s1.length]? = some a := by rw [List.cons_append]; exact at_app
  have hkb : (s1 ++ ((a :: A) ++ (s2 ++ ((b :: B) ++ s3))))[s1.length + 1 + A.length + s2.length]? = some b := by
    rw [show s1 ++ ((a :: A) ++ (s2 ++ ((b :: B) ++ s3))) = (s1 ++ ((a :: A) ++ s2)) ++ b :: (B ++ s3) by simp, show s1.length + 1 + A.length + s2.length = (s1 ++ ((a :: A) ++ s2)).length by simp only [List.length_append, List.length_cons]; omega]
    exact at_app
  obtain ⟨hO, hI, hT⟩ := hR
  refine place_ok hO hG (by omega) hka (end_ok hO hI hG hU (by omega) hB hka (place_ok hO hG (by omega) hkb ?_))
  refine moveOn_ok (X := s1) (B := a :: A) (Y := s2) (Z := (b :: B) ++ s3) hO (by simp) (by omega) rfl (by rw [List.length_cons]; omega) (by rw [List.length_cons]; omega) (fun S6 hO6 hF6 => ?_)
  have hG6 : Gd (s1 ++ (s2 ++ ((a :: A) ++ ((b :: B) ++ s3)))) := gd_perm (List.Perm.append_left s1 (List.perm_append_comm_assoc s2 (a :: A) _)) hG
  have hk6 : (s1 ++ (s2 ++ ((a :: A) ++ ((b :: B) ++ s3))))[s1.length + s2.length]? = some a := by
    rw [← List.append_assoc, ← List.length_append, List.cons_append]; exact at_app
  refine place_ok hO6 hG6 (by simp only [List.length_append, List.length_cons] at hl ⊢; omega) hk6 ?_
  exact insert_ok (a := s1 ++ s2) (c := (a :: A) ++ ((b :: B) ++ s3)) (by simpa using hO6) (by simp only [List.length_append, List.length_cons] at hl ⊢; omega) g (by simp) (fun S' h1 h2 => hK S' h1 (hF6.tr h2))
theorem cgroup_fin {S S8 S11 : Mem} {d n : Nat} {s1 A s2 B s3 : List Ob} {a b : Ob} (hR : CD S d (s1 ++ ((a :: A) ++ (s2 ++ ((b :: B) ++ s3))))) (hG : Gd (s1 ++ ((a :: A) ++ (s2 ++ ((b :: B) ++ s3))))) (hn : n < 24) (hfr : ∀ x ∈ s1 ++ ((a :: A) ++ (s2 ++ ((b :: B) ++ s3))), x.nm ≠ n) (hO8 : Orr S8 d ((s1 ++ s2) ++ (grp n :: ((a :: A) ++ ((b :: B) ++ s3))))) (hF8 : Fq (tOr d) S S8) (hout : ∀ c j, (c < d + 2 ∨ d + 26 ≤ c) → S11 c j = S8 c j) (hold : ∀ m j, m < 24 → m ≠ n → S11 (d + 2 + m) j = if (m = a.nm ∨ m = b.nm) ∧ j = 7 then nI n else S8 (d + 2 + m) j) (h0 : S11 (d + 2 + n) 0 = 1) (h1 : S11 (d + 2 + n) 1 = 3) (h6 : S11 (d + 2 + n) 6 = -1) (h7 : S11 (d + 2 + n) 7 = -1) : CD S11 d ((s1 ++ s2) ++ (grp n :: (setp (some n) a :: (A ++ (setp (some n) b :: (B ++ s3)))))) := by
  obtain ⟨hO, hI, hT⟩ := hR
  have ha : a ∈ s1 ++ ((a :: A) ++ (s2 ++ ((b :: B) ++ s3))) := by simp
  have hb : b ∈ s1 ++ ((a :: A) ++ (s2 ++ ((b :: B) ++ s3))) := by simp
  have hna := gd_lt hG ha
  have hnb := gd_lt hG hb
  have hga : ∀ o, o ∈ s1 ∨ o ∈ A ++ (s2 ++ ((b :: B) ++ s3)) → o.nm ≠ a.nm := fun o ho => ne_side (X := s1) (Y := A ++ (s2 ++ ((b :: B) ++ s3))) (by simpa using hG) ho
  have hgb : ∀ o, o ∈ s1 ++ ((a :: A) ++ s2) ∨ o ∈ B ++ s3 → o.nm ≠ b.nm := fun o ho => ne_side (X := s1 ++ ((a :: A) ++ s2)) (Y := B ++ s3) (by simpa using hG) ho
  have old : ∀ o, (o ∈ s1 ∨ o ∈ A ∨ o ∈ s2 ∨ o ∈ B ∨ o ∈ s3) → o ∈ s1 ++ ((a :: A) ++ (s2 ++ ((b :: B) ++ s3))) ∧ o.nm ≠ a.nm ∧ o.nm ≠ b.nm := by
    intro o ho
    refine ⟨by simp only [List.mem_append, List.mem_cons]; grind, hga o (by simp only [List.mem_append, List.mem_cons]; grind), hgb o (by simp only [List.mem_append, List.mem_cons]; grind)⟩
  have hc8 : ∀ m j, m < 24 → S8 (d + 2 + m) j = S (d + 2 + m) j := fun m j hm => hF8 _ _ (by unfold tOr; omega)
  have itOld : ∀ o, (o ∈ s1 ∨ o ∈ A ∨ o ∈ s2 ∨ o ∈ B ∨ o ∈ s3) → It S11 (d + 2 + o.nm) o ∧ S11 (d + 2 + o.nm) 0 = 1 := by
    intro o ho
    obtain ⟨g1, g2, g3⟩ := old o ho
    have hno := gd_lt hG g1
    have hnn := hfr o g1
    have he : ∀ j, S11 (d + 2 + o.nm) j = S (d + 2 + o.nm) j := fun j => by rw [hold _ _ hno hnn, if_neg (by omega), hc8 _ _ hno]
    exact ⟨it_of (hI o g1) (fun j _ => he j), by rw [he]; exact hT.1 o g1⟩
  have itNew : ∀ o, (o = a ∨ o = b) → It S11 (d + 2 + (setp (some n) o).nm) (setp (some n) o) ∧ S11 (d + 2 + (setp (some n) o).nm) 0 = 1 := by
    intro o ho
    have g1 : o ∈ s1 ++ ((a :: A) ++ (s2 ++ ((b :: B) ++ s3))) := by rcases ho with rfl | rfl <;> assumption
    have hno := gd_lt hG g1
    have hnn := hfr o g1
    have hab : o.nm = a.nm ∨ o.nm = b.nm := by rcases ho with rfl | rfl <;> simp
    have he : ∀ j, j ≠ 7 → S11 (d + 2 + o.nm) j = S (d + 2 + o.nm) j := fun j hj => by rw [hold _ _ hno hnn, if_neg (by omega), hc8 _ _ hno]
    have he7 : S11 (d + 2 + o.nm) 7 = nI n := by rw [hold _ _ hno hnn, if_pos ⟨hab, rfl⟩]
    obtain ⟨i1, i6, i7, ib⟩ := hI o g1
    refine ⟨⟨(he 1 (by omega)).trans i1, (he 6 (by omega)).trans i6, he7, fun hs => ?_⟩, (he 0 (by omega)).trans (hT.1 o g1)⟩
    obtain ⟨b2, b3, b4, b5⟩ := ib hs
    exact ⟨(he 2 (by omega)).trans b2, (he 3 (by omega)).trans b3, (he 4 (by omega)).trans b4, (he 5 (by omega)).trans b5⟩
  have all : ∀ o, o ∈ (s1 ++ s2) ++ (grp n :: (setp (some n) a :: (A ++ (setp (some n) b :: (B ++ s3))))) → It S11 (d + 2 + o.nm) o ∧ S11 (d + 2 + o.nm) 0 = 1 := by
    intro o ho
    simp only [List.mem_append, List.mem_cons] at ho
    rcases ho with (h | h) | h | h | h | h | h | h
    · exact itOld o (Or.inl h)
    · exact itOld o (Or.inr (Or.inr (Or.inl h)))
    · subst h
      exact ⟨⟨h1, h6, h7, fun hs => absurd rfl hs⟩, h0⟩
    · subst h
      exact itNew a (Or.inl rfl)
    · exact itOld o (Or.inr (Or.inl h))
    · subst h
      exact itNew b (Or.inr rfl)
    · exact itOld o (Or.inr (Or.inr (Or.inr (Or.inl h))))
    · exact itOld o (Or.inr (Or.inr (Or.inr (Or.inr h))))
  refine ⟨?_, fun o ho => (all o ho).1, fun o ho => (all o ho).2, fun x hx hno => ?_⟩
  · refine orr_names (L := (s1 ++ s2) ++ (grp n :: ((a :: A) ++ ((b :: B) ++ s3)))) ?_ (orr_fq hO8 (hout _ _ (by omega)) (fun i => hout _ _ (by omega)))
    simp only [List.map_append, List.map_cons, List.cons_append]
    rfl
  · have hxn : x ≠ n := fun h => hno (grp n) (by simp) (by rw [h]; rfl)
    rw [hold _ _ hx hxn, if_neg (by omega), hc8 _ _ hx]
    refine hT.2 x hx (fun o ho hox => ?_)
    simp only [List.mem_append, List.mem_cons] at ho
    by_cases hoa : o = a
    · exact hno (setp (some n) a) (by simp) (by rw [← hox, hoa]; rfl)
    · by_cases hob : o = b
      · exact hno (setp (some n) b) (by simp) (by rw [← hox, hob]; rfl)
      · refine hno o ?_ hox
        simp only [List.mem_append, List.mem_cons]
        grind
theorem cgroup_yes {post : Int32 → Mem → Prop} {S : Mem} {d n : Nat} {s1 A s2 B s3 : List Ob} {a b : Ob} (hR : CD S d (s1 ++ ((a :: A) ++ (s2 ++ ((b :: B) ++ s3))))) (hG : Gd (s1 ++ ((a :: A) ++ (s2 ++ ((b :: B) ++ s3))))) (hU : Up (s1 ++ ((a :: A) ++ (s2 ++ ((b :: B) ++ s3))))) (hl : (s1 ++ ((a :: A) ++ (s2 ++ ((b :: B) ++ s3)))).length < 12) (hB : Blk (s1 ++ ((a :: A) ++ (s2 ++ ((b :: B) ++ s3)))) s1.length (s1.length + 1 + A.length)) (hpa : a.p = none) (hpb : b.p = none) (hn : n < 24) (hfr : ∀ x ∈ s1 ++ ((a :: A) ++ (s2 ++ ((b :: B) ++ s3))), x.nm ≠ n) {x y : Nat} (hxy : (x = a.nm ∧ y = b.nm) ∨ (x = b.nm ∧ y = a.nm)) (hp : ∀ S', CD S' d ((s1 ++ s2) ++ (grp n :: (setp (some n) a :: (A ++ (setp (some n) b :: (B ++ s3)))))) → Fq (tC d) S S' → post 1 S') : cw_group post S d (nI x) (nI y) (nI n) := by
  have hlen : (s1 ++ ((a :: A) ++ (s2 ++ ((b :: B) ++ s3)))).length = s1.length + (A.length + 1 + (s2.length + (B.length + 1 + s3.length))) := by simp only [List.length_append, List.length_cons]
  have hka : (s1 ++ ((a :: A) ++ (s2 ++ ((b :: B) ++ s3))))[s1.length]? = some a := by rw [List.cons_append]; exact at_app
  have hkb : (s1 ++ ((a :: A) ++ (s2 ++ ((b :: B) ++ s3))))[s1.length + 1 + A.length + s2.length]? = some b := by
    rw [show s1 ++ ((a :: A) ++ (s2 ++ ((b :: B) ++ s3))) = (s1 ++ ((a :: A) ++ s2)) ++ b :: (B ++ s3) by simp, show s1.length + 1 + A.length + s2.length = (s1 ++ ((a :: A) ++ s2)).length by simp only [List.length_append, List.length_cons]; omega]
    exact at_app
  have hna := hG.2.2 _ _ hka
  have hnb := hG.2.2 _ _ hkb
  have hne : a.nm ≠ b.nm := fun h => by have := hG.1 _ _ _ _ hka hkb h; omega
  have hza := hfr a (at_mem hka)
  have hzb := hfr b (at_mem hkb)
  have hx : x < 24 := by omega
  have hy : y < 24 := by omega
  have hxy' : x ≠ y := by omega
  have hpar : ∀ m, (m = a.nm ∨ m = b.nm) → S (d + 2 + m) 0 = 1 ∧ S (d + 2 + m) 7 = -1 := by
    intro m hm
    rcases hm with rfl | rfl
    · exact ⟨hR.2.2.1 a (at_mem hka), by rw [(hR.2.1 a (at_mem hka)).2.2.1, hpa]; rfl⟩
    · exact ⟨hR.2.2.1 b (at_mem hkb), by rw [(hR.2.1 b (at_mem hkb)).2.2.1, hpb]; rfl⟩
  have h12 : S d 2 < 12 ↔ (s1 ++ ((a :: A) ++ (s2 ++ ((b :: B) ++ s3)))).length < 12 := by rw [hR.1.1, show (12 : Int32) = nI 12 from rfl, q_lt (by omega) (by omega)]
  have tail : ∀ S8, Orr S8 d ((s1 ++ s2) ++ (grp n :: ((a :: A) ++ ((b :: B) ++ s3)))) → Fq (tOr d) S S8 → vp_in (nI n) 24 ∧ ci_becomeGroup (fun S9 => vp_in (nI x) 24 ∧ ∀ S10, S10 = up2 S9 (d + 2 + (nI x).toNatClampNeg) 7 (nI n) → vp_in (nI y) 24 ∧ ∀ S11, S11 = up2 S10 (d + 2 + (nI y).toNatClampNeg) 7 (nI n) → post 1 S11) S8 (d + 2 + (nI n).toNatClampNeg) := by
    intro S8 hO8 hF8
    rw [nI_clamp (show n < 2 ^ 31 by omega), nI_clamp (show x < 2 ^ 31 by omega), nI_clamp (show y < 2 ^ 31 by omega)]
    refine ⟨q_in (by omega) (by omega), fun T1 e1 T2 e2 T3 e3 T4 e4 => ⟨q_in (by omega) (by omega), fun T5 e5 => ⟨q_in (by omega) (by omega), fun T6 e6 => ?_⟩⟩⟩
    refine hp T6 (cgroup_fin hR hG hn hfr hO8 hF8 ?_ ?_ ?_ ?_ ?_ ?_) ?_
    · intro c j hc
      rw [e6, up_at, if_neg (by omega), e5, up_at, if_neg (by omega), e4, up_at, if_neg (by omega), e3, up_at, if_neg (by omega), e2, up_at, if_neg (by omega), e1, up_at, if_neg (by omega)]
    · intro m j hm hmn
      by_cases h7 : (m = a.nm ∨ m = b.nm) ∧ j = 7
      · rw [if_pos h7, e6, up_at]
        by_cases hmy : m = y
        · rw [if_pos (by omega)]
        · rw [if_neg (by omega), e5, up_at, if_pos (by omega)]
      · rw [if_neg h7, e6, up_at, if_neg (by omega), e5, up_at, if_neg (by omega), e4, up_at, if_neg (by omega), e3, up_at, if_neg (by omega), e2, up_at, if_neg (by omega), e1, up_at, if_neg (by omega)]
    · rw [e6, up_at, if_neg (by omega), e5, up_at, if_neg (by omega), e4, up_at, if_neg (by omega), e3, up_at, if_neg (by omega), e2, up_at, if_neg (by omega), e1, up_at, if_pos ⟨rfl, rfl⟩]
    · rw [e6, up_at, if_neg (by omega), e5, up_at, if_neg (by omega), e4, up_at, if_neg (by omega), e3, up_at, if_neg (by omega), e2, up_at, if_pos ⟨rfl, rfl⟩]
    · rw [e6, up_at, if_neg (by omega), e5, up_at, if_neg (by omega), e4, up_at, if_neg (by omega), e3, up_at, if_pos ⟨rfl, rfl⟩]
    · rw [e6, up_at, if_neg (by omega), e5, up_at, if_neg (by omega), e4, up_at, if_pos ⟨rfl, rfl⟩]
    · refine Fq.tr (hF8.mono tOr_C) (fun c j hc => ?_)
      unfold tC at hc
      rw [e6, up_at, if_neg (by omega), e5, up_at, if_neg (by omega), e4, up_at, if_neg (by omega), e3, up_at, if_neg (by omega), e2, up_at, if_neg (by omega), e1, up_at, if_neg (by omega)]
  have mid := cgroup_mid hR hG hU hl hB (grp n) rfl tail
  have hpx := hpar x (by omega)
  have hpy := hpar y (by omega)
  unfold cw_group
  rw [q_eq (show x < 2 ^ 31 by omega) (show y < 2 ^ 31 by omega)]
  refine ⟨fun h => absurd h hxy', fun _ => ⟨q_in (by omega) (by omega), fun h => ?_, fun _ => ⟨q_in (by omega) (by omega), fun h => ?_, fun _ => ⟨q_in (by omega) (by omega), fun _ => ⟨fun _ => ?_, fun h => absurd (h12.mpr hl) h⟩, fun h => ?_⟩⟩⟩⟩
  · rw [nI_clamp (by omega), hpy.1] at h
    exact absurd h (by decide)
  · rw [nI_clamp (by omega), hpx.2] at h
    exact absurd rfl h
  · rcases hxy with ⟨rfl, rfl⟩ | ⟨rfl, rfl⟩
    · refine place_ok hR.1 hG (by omega) hka (place_ok hR.1 hG (by omega) hkb ?_)
      have hc : ¬ nI (s1.length + 1 + A.length + s2.length) ≤ nI s1.length := by rw [q_le (by omega) (by omega)]; omega
      rw [if_neg hc, if_pos (show nI a.nm = nI a.nm from rfl)]
      exact mid
    · refine place_ok hR.1 hG (by omega) hkb (place_ok hR.1 hG (by omega) hka ?_)
      have hc : nI s1.length ≤ nI (s1.length + 1 + A.length + s2.length) := by rw [q_le (by omega) (by omega)]; omega
      have hc2 : ¬ nI a.nm = nI b.nm := by rw [q_eq (by omega) (by omega)]; exact hne
      rw [if_pos hc, if_neg hc2]
      exact mid
  · rw [nI_clamp (by omega), hpy.2] at h
    exact absurd rfl h
