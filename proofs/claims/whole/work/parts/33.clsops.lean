theorem cd_perm {S S' : Mem} {d : Nat} {D D' : List Ob} (hR : CD S d D) (hG : Gd D) (hO : Orr S' d D') (hmem : ∀ x, x ∈ D' ↔ x ∈ D) (hF : Fq (tOr d) S S') : CD S' d D' := by
  have hI := itm_fq hR.2.1 (fun o ho => gd_lt hG ho) hF
  have hT := th_fq hR.2.2 (fun o ho => gd_lt hG ho) hF
  exact ⟨hO, fun o ho => hI o ((hmem o).mp ho), fun o ho => hT.1 o ((hmem o).mp ho), fun x hx hno => hT.2 x hx (fun o ho => hno o ((hmem o).mpr ho))⟩
theorem craise_ok {post : Int32 → Mem → Prop} {S : Mem} {d : Nat} {u1 s1 sub s2 u2 : List Ob} {o : Ob} (hR : CD S d (u1 ++ (s1 ++ (o :: (sub ++ (s2 ++ u2)))))) (hG : Gd (u1 ++ (s1 ++ (o :: (sub ++ (s2 ++ u2)))))) (hU : Up (u1 ++ (s1 ++ (o :: (sub ++ (s2 ++ u2)))))) (hl : (u1 ++ (s1 ++ (o :: (sub ++ (s2 ++ u2))))).length ≤ 12) (co : Co o.p u1 u2) (f1 : Fo o.p s1) (f2 : Fo o.p s2) (bl : Bl o sub) {b : Int32} (hp0 : ¬ b = 1 → ∀ S', CD S' d (u1 ++ ((o :: sub) ++ (s1 ++ (s2 ++ u2)))) → Fq (tC d) S S' → post 1 S') (hp1 : b = 1 → ∀ S', CD S' d (u1 ++ (s1 ++ (s2 ++ ((o :: sub) ++ u2)))) → Fq (tC d) S S' → post 1 S') : cw_raise post S d (nI o.nm) b := by
  have hB := blk_co hG co f1 f2 (bl_fo bl)
  have hko : (u1 ++ (s1 ++ (o :: (sub ++ (s2 ++ u2)))))[u1.length + s1.length]? = some o := by
    rw [← List.append_assoc, ← List.length_append]; exact at_app
  have hno := hG.2.2 _ _ hko
  obtain ⟨hO, hI, hT⟩ := hR
  have hit := hI o (at_mem hko)
  have hlen : (u1 ++ (s1 ++ (o :: (sub ++ (s2 ++ u2))))).length = u1.length + (s1.length + (sub.length + (s2.length + u2.length) + 1)) := by simp only [List.length_append, List.length_cons]
  have fin : ∀ {first last : Nat}, first = u1.length → last = u1.length + s1.length + 1 + sub.length + s2.length → cw_raise_J45 post S d (nI o.nm) b (nI first) (nI last) := by
    intro first last hfi hla
    unfold cw_raise_J45
    refine place_ok hO hG hl hko (end_ok hO hI hG hU hl hB hko ?_)
    by_cases hb : b = 1
    · rw [if_pos hb]
      refine moveOn_ok (X := u1 ++ s1) (B := o :: sub) (Y := s2) (Z := u2) (by simpa using hO) (by simp) (by simp only [List.length_append, List.length_cons] at hl ⊢; omega) (by simp) (by simp only [List.length_append, List.length_cons]; omega) (by simp only [List.length_append, List.length_cons]; omega) (fun S' h1 h2 => hp1 hb S' (cd_perm ⟨hO, hI, hT⟩ hG (by simpa using h1) (fun x => by simp only [List.mem_append, List.mem_cons]; grind) h2) (h2.mono tOr_C))
    · rw [if_neg hb]
      refine moveBack_ok (X := u1) (Y := s1) (B := o :: sub) (Z := s2 ++ u2) (by simpa using hO) (by simp only [List.length_append, List.length_cons] at hl ⊢; omega) rfl (by simp only [List.length_cons]; omega) hfi (fun S' h1 h2 => hp0 hb S' (cd_perm ⟨hO, hI, hT⟩ hG h1 (fun x => by simp only [List.mem_append, List.mem_cons]; grind) h2) (h2.mono tOr_C))
  unfold cw_raise
  rw [nI_clamp (by omega), hit.2.2.1]
  refine ⟨q_in (by omega) (by omega), ?_⟩
  rcases co_inv co with ⟨hq, hu1, hu2⟩ | ⟨g, v1, l1, l2, v2, hq, hu1, hu2, hgf, hgc, hg1, hg2⟩
  · rw [hq]
    refine ⟨fun h => absurd rfl h, fun _ => ⟨fun h => absurd rfl h, fun _ => ?_⟩⟩
    rw [hO.1]
    refine fin (first := 0) (by rw [hu1]; rfl) ?_
    rw [hlen, hu1, hu2]
    simp only [List.length_nil]
    omega
  · subst hu1 hu2
    have heq : (v1 ++ (l1 ++ [g])) ++ (s1 ++ (o :: (sub ++ (s2 ++ (l2 ++ v2))))) = v1 ++ (l1 ++ (g :: ((s1 ++ (o :: (sub ++ s2))) ++ (l2 ++ v2)))) := by simp
    have hgat : ((v1 ++ (l1 ++ [g])) ++ (s1 ++ (o :: (sub ++ (s2 ++ (l2 ++ v2))))))[v1.length + l1.length]? = some g := by
      rw [heq, ← List.append_assoc, ← List.length_append]
      exact at_app
    have hgn := hG.2.2 _ _ hgat
    have hBg := blk_home (M := s1 ++ (o :: (sub ++ s2))) (heq ▸ hG) hgc hg1 hg2 (hq ▸ fo_app f1 (fo_blk rfl bl f2))
    rw [← heq] at hBg
    rw [hq]
    refine ⟨fun _ => ?_, fun h => absurd h (q_neg (by omega))⟩
    refine place_ok hO hG hl hgat ?_
    unfold cw_raise_J26
    refine ⟨fun _ => end_ok hO hI hG hU hl hBg hgat ?_, fun h => absurd h (q_neg (by omega))⟩
    rw [q_1]
    refine fin ?_ ?_
    · simp only [List.length_append, List.length_cons, List.length_nil]; omega
    · simp only [List.length_append, List.length_cons, List.length_nil]; omega
theorem cgroup_no {post : Int32 → Mem → Prop} {S : Mem} {d n : Nat} {D : List Ob} {a : Ob} (hR : CD S d D) (hG : Gd D) (hl : D.length ≤ 12) (ha : a ∈ D) {y : Nat} (hy : y < 24) (hbad : a.nm = y ∨ (∀ b ∈ D, b.nm ≠ y) ∨ a.p ≠ none ∨ (∃ b ∈ D, b.nm = y ∧ b.p ≠ none) ∨ 12 ≤ D.length) (hP : ∀ b ∈ D, ∀ z, b.p = some z → z < 24) (hp : post 0 S) : cw_group post S d (nI a.nm) (nI y) (nI n) := by
  have hna := gd_lt hG ha
  unfold cw_group
  rw [q_eq (by omega) (by omega), nI_clamp (by omega), nI_clamp (by omega), (hR.2.1 a ha).2.2.1, hR.1.1, show (12 : Int32) = nI 12 from rfl, q_lt (by omega) (by omega)]
  have hpn : ∀ b ∈ D, (pI b.p = -1 ↔ b.p = none) := by
    intro b hb
    cases h : b.p with
    | none => exact ⟨fun _ => rfl, fun _ => rfl⟩
    | some z => exact ⟨fun h' => absurd h' (q_neg (by have := hP b hb z h; omega)), fun h' => by cases h'⟩
  refine ⟨fun _ => hp, fun hne => ⟨q_in (by omega) (by omega), fun _ => hp, fun hth => ⟨q_in (by omega) (by omega), fun _ => hp, fun hap => ⟨q_in (by omega) (by omega), fun hbp => ⟨fun hlt => ?_, fun _ => hp⟩, fun _ => hp⟩⟩⟩⟩
  exfalso
  rw [hpn a ha] at hap
  have hin : ∃ b ∈ D, b.nm = y := by
    apply Classical.byContradiction
    intro hno
    exact hth (hR.2.2.2 y hy (fun b hb h => hno ⟨b, hb, h⟩))
  obtain ⟨b, hb, hby⟩ := hin
  rw [← hby, (hR.2.1 b hb).2.2.1, hpn b hb] at hbp
  rcases hbad with h | h | h | ⟨c, hc, hcy, hcp⟩ | h
  · exact hne h
  · exact h b hb hby
  · exact h hap
  · obtain ⟨i, hi⟩ := List.mem_iff_getElem?.mp hb
    obtain ⟨j, hj⟩ := List.mem_iff_getElem?.mp hc
    have := hG.1 i j b c hi hj (by omega)
    subst this
    rw [Option.some.inj (hi.symm.trans hj)] at hbp
    exact hcp hbp
  · omega
