theorem fo_rep {x : Nat} {q q' : Option Nat} {D : List Ob} (h : Fo q' D) : (∀ g ∈ D, g.nm ≠ x) → (q' = some x → Fo q (D.map (rep x q))) ∧ (q' ≠ some x → Fo q' (D.map (rep x q))) := by
  refine Fo.ind (M := fun q' D => (∀ g ∈ D, g.nm ≠ x) → (q' = some x → Fo q (D.map (rep x q))) ∧ (q' ≠ some x → Fo q' (D.map (rep x q)))) ?_ ?_ ?_ h
  · exact fun _ => ⟨fun _ => Fo.nil, fun _ => Fo.nil⟩
  · intro q' o r h1 h2 _ ih hn
    have ih' := ih (fun g hg => hn g (List.mem_cons_of_mem _ hg))
    refine ⟨fun hq => ?_, fun hq => ?_⟩
    · have hr : rep x q o = setp q o := if_pos (h1.trans hq)
      rw [List.map_cons, hr]
      exact Fo.sh rfl h2 (ih'.1 hq)
    · have hr : rep x q o = o := if_neg (by rw [h1]; exact hq)
      rw [List.map_cons, hr]
      exact Fo.sh h1 h2 (ih'.2 hq)
  · intro q' o s r h1 h2 h3 _ _ ih4 ih5 hn
    have hno : o.nm ≠ x := hn o List.mem_cons_self
    have i4 := (ih4 (fun g hg => hn g (by simp [hg]))).2 (fun hh => hno (Option.some.inj hh))
    have i5 := ih5 (fun g hg => hn g (by simp [hg]))
    refine ⟨fun hq => ?_, fun hq => ?_⟩
    · have hr : rep x q o = setp q o := if_pos (h1.trans hq)
      rw [List.map_cons, List.map_append, hr]
      exact Fo.gr rfl h2 (by simp [h3]) i4 (i5.1 hq)
    · have hr : rep x q o = o := if_neg (by rw [h1]; exact hq)
      rw [List.map_cons, List.map_append, hr]
      exact Fo.gr h1 h2 (by simp [h3]) i4 (i5.2 hq)
theorem gd_cons {D : List Ob} {g : Ob} (hG : Gd D) (hl : D.length ≤ 12) (hn : g.nm < 24) (hfr : ∀ x ∈ D, x.nm ≠ g.nm) : Gd (g :: D) := by
  rw [gd_iff] at hG ⊢
  refine ⟨?_, by rw [List.length_cons]; omega, fun o ho => ?_⟩
  · rw [List.map_cons, List.nodup_cons]
    refine ⟨fun h => ?_, hG.1⟩
    obtain ⟨z, hz, he⟩ := List.mem_map.mp h
    exact hfr z hz he
  · rcases List.mem_cons.mp ho with rfl | h
    · exact hn
    · exact hG.2.2 o h
theorem rep_wf {x : Nat} {q : Option Nat} {m : Ob} (h : wfO m) : wfO (rep x q m) := by
  unfold rep
  split
  · exact h
  · exact h
theorem step_7 {n : Nat} {u1 s1 sub s2 u2 : List Ob} {o : Ob} {A1 A2 A3 : Int32} (hW : WF (u1 ++ (s1 ++ (o :: (sub ++ (s2 ++ u2))))) n) (hn : n < 24) (co : Co o.p u1 u2) (f1 : Fo o.p s1) (f2 : Fo o.p s2) (bl : Bl o sub) : (∃ D', Yes (u1 ++ (s1 ++ (o :: (sub ++ (s2 ++ u2))))) n 7 (nI o.nm) A1 A2 A3 D') ∨ No (u1 ++ (s1 ++ (o :: (sub ++ (s2 ++ u2))))) n 7 (nI o.nm) A1 A2 A3 := by
  obtain ⟨hB, hko, hseg, hmp, hat⟩ := ctx hW co f1 f2 bl
  have hG := hW.2.1
  have hU := up_of hW.1
  have hl := hW.2.2.1
  have hno := hG.2.2 _ _ hko
  rcases bl with ⟨h3, -⟩ | ⟨h3, hne, hs⟩
  · refine Or.inr ⟨Or.inl (fit_7 hG hn hko (Or.inr ⟨h3, rfl⟩)), ?_⟩
    intro post S d q hC hA hq hp
    exact cryJ_7 hA hno (hC.2.2.1 o (at_mem hko)) (cungroup_no hC hG (at_mem hko) h3 ⟨nar0, hp S hC Fq.rf⟩)
  · have heq : u1 ++ (s1 ++ (o :: (sub ++ (s2 ++ u2)))) = (u1 ++ s1) ++ (o :: (sub ++ (s2 ++ u2))) := by simp
    have hnn : ∀ g ∈ sub, g.nm ≠ o.nm := fun g hg => ne_side (X := u1 ++ s1) (Y := sub ++ (s2 ++ u2)) (heq ▸ hG) (Or.inr (by simp [hg]))
    have hmn : (sub.map (rep o.nm o.p)).map Ob.nm = sub.map Ob.nm := by
      rw [List.map_map]
      congr 1
      funext z
      exact (fsk_rep_nm _ _ z).1
    have hW' : WF ((u1 ++ s1) ++ (sub.map (rep o.nm o.p) ++ (s2 ++ u2))) (n + 1) := by
      refine wf_mono ⟨?_, gd_names (D := (u1 ++ s1) ++ (sub ++ (s2 ++ u2))) ?_ (gd_sub ?_ hG), ?_, fun m hm => ?_⟩
      · have := plug co (B := s1 ++ (sub.map (rep o.nm o.p) ++ s2)) (fo_app f1 (fo_app ((fo_rep hs hnn).1 rfl) f2)) (Or.inl (by simp [hne]))
        simpa using this
      · simp only [List.map_append, hmn]
      · rw [heq]
        exact List.Sublist.append_left (List.sublist_cons_self _ _) _
      · simp only [List.length_append, List.length_cons, List.length_map] at hl ⊢
        omega
      · simp only [List.mem_append, List.mem_map] at hm
        have hin : ∀ z, (z ∈ u1 ∨ z ∈ s1 ∨ z ∈ sub ∨ z ∈ s2 ∨ z ∈ u2) → z ∈ u1 ++ (s1 ++ (o :: (sub ++ (s2 ++ u2)))) := by
          intro z hz
          simp only [List.mem_append, List.mem_cons]
          grind
        rcases hm with (hm | hm) | ⟨z, hz, rfl⟩ | hm | hm
        · exact hW.2.2.2 m (hin m (Or.inl hm))
        · exact hW.2.2.2 m (hin m (Or.inr (Or.inl hm)))
        · have := hW.2.2.2 z (hin z (Or.inr (Or.inr (Or.inl hz))))
          exact ⟨by rw [(fsk_rep_nm _ _ z).1]; exact this.1, rep_wf this.2⟩
        · exact hW.2.2.2 m (hin m (Or.inr (Or.inr (Or.inr (Or.inl hm)))))
        · exact hW.2.2.2 m (hin m (Or.inr (Or.inr (Or.inr (Or.inr hm)))))
    have hB' : Blk ((u1 ++ s1) ++ (o :: (sub ++ (s2 ++ u2)))) (u1 ++ s1).length ((u1 ++ s1).length + 1 + sub.length) := by
      rw [← heq, List.length_append]
      exact hB
    refine Or.inl ⟨_, fit_7 hG hn hko (Or.inl ⟨h3, rfl⟩), ?_, wf_lim hW', ?_, hW'⟩
    · intro post S hR hA hp
      refine act_k hR hG hn hA (by decide) hko (actJ_7 hn hA ?_)
      rw [← List.length_append]
      exact ungroup_app (heq ▸ hR) (heq ▸ hG) (heq ▸ hU) hB' (fun S' a b => hp S' a (b.mono t1_Ac))
    · intro post S d q hC hA hq hp
      exact cryJ_7 hA hno (hC.2.2.1 o (at_mem hko)) (cungroup_yes (heq ▸ hC) (heq ▸ hG) (heq ▸ hU) (heq ▸ hl) hB' h3 (fun S' a b => ⟨nar1, hp S' a b⟩))
theorem step_8 {n : Nat} {u1 s1 sub s2 u2 : List Ob} {o : Ob} {A1 A2 A3 : Int32} (hW : WF (u1 ++ (s1 ++ (o :: (sub ++ (s2 ++ u2))))) n) (hn : n < 24) (co : Co o.p u1 u2) (f1 : Fo o.p s1) (f2 : Fo o.p s2) (bl : Bl o sub) (h1 : btw (-200) 200 A1) (h2 : btw (-200) 200 A2) : (∃ D', Yes (u1 ++ (s1 ++ (o :: (sub ++ (s2 ++ u2))))) n 8 (nI o.nm) A1 A2 A3 D') ∨ No (u1 ++ (s1 ++ (o :: (sub ++ (s2 ++ u2))))) n 8 (nI o.nm) A1 A2 A3 := by
  obtain ⟨hB, hko, hseg, hmp, hat⟩ := ctx hW co f1 f2 bl
  have hG := hW.2.1
  have hU := up_of hW.1
  have hl := hW.2.2.1
  have hno := hG.2.2 _ _ hko
  have g1 := btw_200 h1
  have g2 := btw_200 h2
  rcases bl with ⟨h3, hsub⟩ | ⟨h3, hne, hs⟩
  · subst hsub
    have heq : u1 ++ (s1 ++ (o :: (([] : List Ob) ++ (s2 ++ u2)))) = (u1 ++ s1) ++ (o :: (s2 ++ u2)) := by simp
    rw [heq] at hW hG hU hl hko ⊢
    have hlen : ((u1 ++ s1) ++ (o :: (s2 ++ u2))).length = u1.length + s1.length + (s2.length + u2.length + 1) := by simp only [List.length_append, List.length_cons]
    have hfr : ∀ x ∈ (u1 ++ s1) ++ (o :: (s2 ++ u2)), x.nm ≠ n := fun x hx => by have := (hW.2.2.2 x hx).1; omega
    have hact : Act ((u1 ++ s1) ++ (o :: (s2 ++ u2))) n 8 (nI o.nm) A1 A2 A3 ((u1 ++ s1) ++ (o :: (dbl n A1 A2 o :: (s2 ++ u2)))) := by
      intro post S hR hA hp
      refine act_k hR hG hn hA (by decide) hko (actJ_8 hn hA ?_)
      exact twice_ok hR (by omega) h3 (by rw [List.length_append]) (fun S' a b => hp S' a (b.mono t1_Ac))
    have hfit : Fit ((u1 ++ s1) ++ (o :: (s2 ++ u2))) n 8 (nI o.nm) A1 A2 A3 1 := fit_8 hG hn hko (Or.inr ⟨h3, rfl⟩)
    by_cases hg : ((u1 ++ s1) ++ (o :: (s2 ++ u2))).length < 12 ∧ okO (shf A1 A2 o)
    · have hW' : WF ((u1 ++ s1) ++ (o :: (dbl n A1 A2 o :: (s2 ++ u2)))) (n + 1) := by
        refine ⟨?_, ?_, ?_, fun m hm => ?_⟩
        · have := plug co (B := s1 ++ (o :: (dbl n A1 A2 o :: s2))) (fo_app f1 (Fo.sh rfl h3 (Fo.sh rfl h3 f2))) (Or.inl (by simp))
          simpa using this
        · refine gd_perm (D := dbl n A1 A2 o :: ((u1 ++ s1) ++ (o :: (s2 ++ u2)))) ?_ (gd_cons hG (by omega) hn hfr)
          have := List.perm_middle (a := dbl n A1 A2 o) (l₁ := (u1 ++ s1) ++ [o]) (l₂ := s2 ++ u2)
          simpa using this
        · simp only [List.length_append, List.length_cons] at hl hg ⊢
          omega
        · have hm' : m = dbl n A1 A2 o ∨ m ∈ (u1 ++ s1) ++ (o :: (s2 ++ u2)) := by
            simp only [List.mem_append, List.mem_cons] at hm ⊢
            grind
          rcases hm' with rfl | hm'
          · exact ⟨Nat.lt_succ_self n, dbl_wf (hW.2.2.2 o (at_mem hko)).2 h3 ⟨by omega, by omega⟩ ⟨by omega, by omega⟩ hg.2⟩
          · have := hW.2.2.2 m hm'
            exact ⟨by omega, this.2⟩
      refine Or.inl ⟨_, hfit, hact, wf_lim hW', ?_, hW'⟩
      intro post S d q hC hA hq hp
      exact cryJ_8 hA hno (hC.2.2.1 o (at_mem hko)) (cdouble_yes hC hG hg.1 hn hfr h3 hg.2 (fun S' a b => ⟨nar1, hp S' a b⟩))
    · have hbad : 12 ≤ ((u1 ++ s1) ++ (o :: (s2 ++ u2))).length ∨ ¬ okO (shf A1 A2 o) := by
        by_cases h12 : 12 ≤ ((u1 ++ s1) ++ (o :: (s2 ++ u2))).length
        · exact Or.inl h12
        · exact Or.inr (fun hok => hg ⟨by omega, hok⟩)
      refine Or.inr ⟨Or.inr ⟨hfit, _, by simp only [List.length_append, List.length_cons] at hl ⊢; omega, fun hL => ?_, hact⟩, ?_⟩
      · rcases hbad with h12 | hok
        · have := hL.1
          simp only [List.length_append, List.length_cons] at this h12
          omega
        · refine hok ((dbl_ok (n := n) h3).mp (hL.2 ((u1 ++ s1).length + 1) _ ?_))
          exact app_r (X := u1 ++ s1) (i := 1) rfl
      · intro post S d q hC hA hq hp
        exact cryJ_8 hA hno (hC.2.2.1 o (at_mem hko)) (cdouble_no hC hG hl (at_mem hko) (Or.inr hbad) ⟨nar0, hp S hC Fq.rf⟩)
  · refine Or.inr ⟨Or.inl (fit_8 hG hn hko (Or.inl ⟨h3, rfl⟩)), ?_⟩
    intro post S d q hC hA hq hp
    exact cryJ_8 hA hno (hC.2.2.1 o (at_mem hko)) (cdouble_no hC hG hl (at_mem hko) (Or.inl h3) ⟨nar0, hp S hC Fq.rf⟩)
theorem step_0 {D : List Ob} {n : Nat} {A0 A1 A2 A3 : Int32} (hW : WF D n) (hn : n < 24) (h0 : btw 0 2 A0) (h1 : btw (-200) 200 A1) (h2 : btw (-200) 200 A2) (hw : btw 1 100 (A3 - A3 / 128 * 128)) (hh : btw 1 100 (A3 / 128)) : (∃ D', Yes D n 0 A0 A1 A2 A3 D') ∨ No D n 0 A0 A1 A2 A3 := by
  have hG := hW.2.1
  have hl := hW.2.2.1
  have h02 := btw_2 h0
  have hA3 := fm_ne h02
  have hfr : ∀ x ∈ D, x.nm ≠ n := fun x hx => by have := (hW.2.2.2 x hx).1; omega
  have hact : Act D n 0 A0 A1 A2 A3 (D ++ [mkd n A0 A1 A2 A3]) := by
    intro post S hR hA hp
    exact act_0 hR hn hA (make_ok hR (by omega) hn hA.2.1 hA.2.2.1 hA.2.2.2.1 hA.2.2.2.2 (fun S' a b => hp S' a (b.mono t1_Ac)))
  by_cases hg : D.length < 12 ∧ okO (mkd n A0 A1 A2 A3)
  · have hW' : WF (D ++ [mkd n A0 A1 A2 A3]) (n + 1) := by
      refine ⟨fo_app hW.1 (Fo.sh rfl hA3 Fo.nil), ?_, ?_, fun m hm => ?_⟩
      · exact gd_perm (D := mkd n A0 A1 A2 A3 :: D) (by simpa using List.perm_append_comm (l₁ := D) (l₂ := [mkd n A0 A1 A2 A3])) (gd_cons hG (by omega) hn hfr)
      · rw [List.length_append, List.length_singleton]; omega
      · rw [List.mem_append, List.mem_singleton] at hm
        rcases hm with hm | rfl
        · have := hW.2.2.2 m hm
          exact ⟨by omega, this.2⟩
        · exact ⟨Nat.lt_succ_self n, mkd_wf h02 (btw_200 h1) (btw_200 h2) (btw_toInt (by decide) (by decide) hw) (btw_toInt (by decide) (by decide) hh) hg.2⟩
    refine Or.inl ⟨_, fit_0 hn, hact, wf_lim hW', ?_, hW'⟩
    intro post S d q hC hA hq hp
    exact cryJ_0 hA (cmake_yes hC hG hg.1 hn hfr (by omega) hA.2.1 hA.2.2.1 hA.2.2.2.1 hA.2.2.2.2 hA3 hg.2 (fun S' a b => ⟨nar1, hp S' a b⟩))
  · have hbad : 12 ≤ D.length ∨ ¬ okO (mkd n A0 A1 A2 A3) := by
      by_cases h12 : 12 ≤ D.length
      · exact Or.inl h12
      · exact Or.inr (fun hok => hg ⟨by omega, hok⟩)
    refine Or.inr ⟨Or.inr ⟨fit_0 hn, _, by rw [List.length_append, List.length_singleton]; omega, fun hL => ?_, hact⟩, ?_⟩
    · rcases hbad with h12 | hok
      · have := hL.1
        rw [List.length_append, List.length_singleton] at this
        omega
      · exact hok (hL.2 D.length _ at_app)
    · intro post S d q hC hA hq hp
      exact cryJ_0 hA (cmake_no hC hl hA.2.2.1 hA.2.2.2.1 hA.2.2.2.2 hA3 hbad ⟨nar0, hp S hC Fq.rf⟩)
theorem top_split {D : List Ob} (h : Fo none D) {b : Ob} (hb : b ∈ D) (hp : b.p = none) : ∃ t1 B t2, D = t1 ++ (b :: (B ++ t2)) ∧ Fo none t1 ∧ Bl b B ∧ Fo none t2 := by
  obtain ⟨l1, r, he⟩ := List.append_of_mem hb
  obtain ⟨u1, s1, sub, s2, u2, h1, h2, h3, h4, h5, h6⟩ := split h he
  rw [hp] at h3 h4 h5
  rcases co_inv h3 with ⟨-, hu1, hu2⟩ | ⟨g, v1, l1, l2, v2, hq, -⟩
  · subst hu1 hu2
    exact ⟨s1, sub, s2, by rw [he, h1, h2]; simp, h4, h6, h5⟩
  · cases hq
theorem bl_par {a : Ob} {A : List Ob} (h : Bl a A) {m : Ob} (hm : m ∈ A) : m.p ≠ none := by
  intro hp
  rcases fo_par (bl_fo h) hm with h1 | ⟨g, -, h1⟩
  · rw [h1] at hp; cases hp
  · rw [h1] at hp; cases hp
theorem two_tops {D : List Ob} (h : Fo none D) {x y : Ob} (hx : x ∈ D) (hy : y ∈ D) (hxp : x.p = none) (hyp : y.p = none) (hne : x ≠ y) : ∃ (s1 A s2 B s3 : List Ob) (a b : Ob), D = s1 ++ ((a :: A) ++ (s2 ++ ((b :: B) ++ s3))) ∧ ((a = x ∧ b = y) ∨ (a = y ∧ b = x)) ∧ Fo none s1 ∧ Bl a A ∧ Fo none s2 ∧ Bl b B ∧ Fo none s3 := by
  obtain ⟨t1, A, t2, he, h1, h2, h3⟩ := top_split h hx hxp
  have hy' : y ∈ t1 ∨ y ∈ t2 := by
    rw [he] at hy
    simp only [List.mem_append, List.mem_cons] at hy
    rcases hy with hy | hy | hy | hy
    · exact Or.inl hy
    · exact absurd hy.symm hne
    · exact absurd hyp (bl_par h2 hy)
    · exact Or.inr hy
  rcases hy' with hy | hy
  · obtain ⟨p1, B, p2, he2, g1, g2, g3⟩ := top_split h1 hy hyp
    exact ⟨p1, B, p2, A, t2, y, x, by rw [he, he2]; simp, Or.inr ⟨rfl, rfl⟩, g1, g2, g3, h2, h3⟩
  · obtain ⟨p1, B, p2, he2, g1, g2, g3⟩ := top_split h3 hy hyp
    exact ⟨t1, A, p1, B, p2, x, y, by rw [he, he2]; simp, Or.inl ⟨rfl, rfl⟩, h1, h2, g1, g2, g3⟩
theorem top_blk {s1 A r : List Ob} {c : Ob} (hG : Gd (s1 ++ (c :: (A ++ r)))) (hp : c.p = none) (h1 : Fo none s1) (h2 : Bl c A) (h3 : Fo none r) : Blk (s1 ++ (c :: (A ++ r))) s1.length (s1.length + 1 + A.length) := by
  have := blk_co (u1 := []) (s1 := s1) (sub := A) (s2 := r) (u2 := []) (o := c) (by simpa using hG) (by rw [hp]; exact Co.top) (by rw [hp]; exact h1) (by rw [hp]; exact h3) (bl_fo h2)
  rw [List.nil_append, List.append_nil, List.length_nil, Nat.zero_add] at this
  exact this
theorem bl_setp {a : Ob} {A : List Ob} {q : Option Nat} (h : Bl a A) : Bl (setp q a) A := h
theorem grp_wf {n : Nat} {s1 A s2 B s3 : List Ob} {a b : Ob} (hW : WF (s1 ++ ((a :: A) ++ (s2 ++ ((b :: B) ++ s3)))) n) (hn : n < 24) (hl : (s1 ++ ((a :: A) ++ (s2 ++ ((b :: B) ++ s3)))).length < 12) (h1 : Fo none s1) (h2 : Bl a A) (h3 : Fo none s2) (h4 : Bl b B) (h5 : Fo none s3) : WF ((s1 ++ s2) ++ (grp n :: (setp (some n) a :: (A ++ (setp (some n) b :: (B ++ s3)))))) (n + 1) := by
  have hG := hW.2.1
  have hfr : ∀ x ∈ s1 ++ ((a :: A) ++ (s2 ++ ((b :: B) ++ s3))), x.nm ≠ n := fun x hx => by have := (hW.2.2.2 x hx).1; omega
  refine ⟨?_, ?_, ?_, fun m hm => ?_⟩
  · have := fo_app (fo_app h1 h3) (Fo.gr (q := none) (o := grp n) (s := setp (some n) a :: (A ++ (setp (some n) b :: B))) (r := s3) rfl rfl (by simp) (fo_blk rfl (bl_setp h2) (fo_blk1 rfl (bl_setp h4))) h5)
    simpa using this
  · refine gd_names (D := (s1 ++ s2) ++ (grp n :: ((a :: A) ++ ((b :: B) ++ s3)))) ?_ (gd_perm (D := grp n :: (s1 ++ ((a :: A) ++ (s2 ++ ((b :: B) ++ s3))))) ?_ (gd_cons hG (by omega) hn hfr))
    · simp only [List.map_append, List.map_cons, List.cons_append]
      rfl
    · refine List.perm_middle.trans (List.Perm.cons _ ?_)
      have := List.Perm.append_left s1 (List.perm_append_comm_assoc s2 (a :: A) ((b :: B) ++ s3))
      simpa using this
  · simp only [List.length_append, List.length_cons] at hl ⊢
    omega
  · have hin : ∀ z, (z ∈ s1 ∨ z = a ∨ z ∈ A ∨ z ∈ s2 ∨ z = b ∨ z ∈ B ∨ z ∈ s3) → z.nm < n + 1 ∧ wfO z := by
      intro z hz
      have := hW.2.2.2 z (by simp only [List.mem_append, List.mem_cons]; grind)
      exact ⟨by omega, this.2⟩
    simp only [List.mem_append, List.mem_cons] at hm
    rcases hm with (hm | hm) | hm | hm | hm | hm | hm | hm
    · exact hin m (Or.inl hm)
    · exact hin m (Or.inr (Or.inr (Or.inr (Or.inl hm))))
    · subst hm
      exact ⟨Nat.lt_succ_self n, Or.inl ⟨rfl, rfl⟩⟩
    · subst hm
      exact hin a (Or.inr (Or.inl rfl))
    · exact hin m (Or.inr (Or.inr (Or.inl hm)))
    · subst hm
      exact hin b (Or.inr (Or.inr (Or.inr (Or.inr (Or.inl rfl)))))
    · exact hin m (Or.inr (Or.inr (Or.inr (Or.inr (Or.inr (Or.inl hm))))))
    · exact hin m (Or.inr (Or.inr (Or.inr (Or.inr (Or.inr (Or.inr hm))))))
theorem step_6 {D : List Ob} {n y : Nat} {x : Ob} {A2 A3 : Int32} (hW : WF D n) (hn : n < 24) (hx : x ∈ D) (hy : y < 24) : (∃ D', Yes D n 6 (nI x.nm) (nI y) A2 A3 D') ∨ No D n 6 (nI x.nm) (nI y) A2 A3 := by
  have hG := hW.2.1
  have hU := up_of hW.1
  have hl := hW.2.2.1
  obtain ⟨k, hk⟩ := List.mem_iff_getElem?.mp hx
  have hnx := hG.2.2 _ _ hk
  have hP : ∀ b ∈ D, ∀ z, b.p = some z → z < 24 := by
    intro b hb z hz
    obtain ⟨i, hi⟩ := List.mem_iff_getElem?.mp hb
    exact par_lt hU hG hi z hz
  have cno : (x.nm = y ∨ (∀ b ∈ D, b.nm ≠ y) ∨ x.p ≠ none ∨ (∃ b ∈ D, b.nm = y ∧ b.p ≠ none) ∨ 12 ≤ D.length) → Cry D n 6 (nI x.nm) (nI y) A2 A3 0 D := by
    intro hbad post S d q hC hA hq hp
    exact cryJ_6 hA hnx (hC.2.2.1 x hx) (cgroup_no hC hG hl hx hy hbad hP ⟨nar0, hp S hC Fq.rf⟩)
  by_cases hyD : ∃ b ∈ D, b.nm = y
  · obtain ⟨b, hb, rfl⟩ := hyD
    obtain ⟨j, hj⟩ := List.mem_iff_getElem?.mp hb
    by_cases hg : j ≠ k ∧ x.p = none ∧ b.p = none
    · obtain ⟨hjk, hxp, hbp⟩ := hg
      have hne : x ≠ b := by
        rintro rfl
        exact hjk (hG.1 _ _ _ _ hj hk rfl)
      have hfit : Fit D n 6 (nI x.nm) (nI b.nm) A2 A3 1 := fit_6 hG hU hn hk hj (Or.inl ⟨hjk, hxp, hbp, rfl⟩)
      obtain ⟨s1, A, s2, B, s3, a, c, hD, hor, h1, h2, h3, h4, h5⟩ := two_tops hW.1 hx hb hxp hbp hne
      have hap : a.p = none := by rcases hor with ⟨rfl, rfl⟩ | ⟨rfl, rfl⟩ <;> assumption
      have hcp : c.p = none := by rcases hor with ⟨rfl, rfl⟩ | ⟨rfl, rfl⟩ <;> assumption
      have hBa : Blk (s1 ++ ((a :: A) ++ (s2 ++ ((c :: B) ++ s3)))) s1.length (s1.length + 1 + A.length) := by
        have := top_blk (s1 := s1) (A := A) (r := s2 ++ ((c :: B) ++ s3)) (c := a) (by rw [hD] at hG; simpa using hG) hap h1 h2 (fo_app h3 (fo_blk hcp h4 h5))
        simpa using this
      have hka : (s1 ++ ((a :: A) ++ (s2 ++ ((c :: B) ++ s3))))[s1.length]? = some a := by rw [List.cons_append]; exact at_app
      have hkc : (s1 ++ ((a :: A) ++ (s2 ++ ((c :: B) ++ s3))))[s1.length + 1 + A.length + s2.length]? = some c := by
        rw [show s1 ++ ((a :: A) ++ (s2 ++ ((c :: B) ++ s3))) = (s1 ++ ((a :: A) ++ s2)) ++ c :: (B ++ s3) by simp, show s1.length + 1 + A.length + s2.length = (s1 ++ ((a :: A) ++ s2)).length by simp only [List.length_append, List.length_cons]; omega]
        exact at_app
      have hlen : (s1 ++ ((a :: A) ++ (s2 ++ ((c :: B) ++ s3)))).length = s1.length + (A.length + 1 + (s2.length + (B.length + 1 + s3.length))) := by simp only [List.length_append, List.length_cons]
      subst hD
      have hfr : ∀ z ∈ s1 ++ ((a :: A) ++ (s2 ++ ((c :: B) ++ s3))), z.nm ≠ n := fun z hz => by have := (hW.2.2.2 z hz).1; omega
      have hact : Act (s1 ++ ((a :: A) ++ (s2 ++ ((c :: B) ++ s3)))) n 6 (nI x.nm) (nI b.nm) A2 A3 ((s1 ++ s2) ++ (grp n :: (setp (some n) a :: (A ++ (setp (some n) c :: (B ++ s3)))))) := by
        intro post S hR hA hp
        rcases hor with ⟨rfl, rfl⟩ | ⟨rfl, rfl⟩
        · refine act_k hR hG hn hA (by decide) hka (actJ_6 hn hA (find_some hR hG hkc ?_))
          have hc : ¬ nI (s1.length + 1 + A.length + s2.length) ≤ nI s1.length := by rw [q_le (by omega) (by omega)]; omega
          exact group_ok hR hG hU hl hBa (if_neg hc) (if_neg hc) (fun S' a b => hp S' a (b.mono t2_Ac))
        · refine act_k hR hG hn hA (by decide) hkc (actJ_6 hn hA (find_some hR hG hka ?_))
          have hc : nI s1.length ≤ nI (s1.length + 1 + A.length + s2.length) := by rw [q_le (by omega) (by omega)]; omega
          exact group_ok hR hG hU hl hBa (if_pos hc) (if_pos hc) (fun S' a b => hp S' a (b.mono t2_Ac))
      by_cases h12 : (s1 ++ ((a :: A) ++ (s2 ++ ((c :: B) ++ s3)))).length < 12
      · have hW' := grp_wf hW hn h12 h1 h2 h3 h4 h5
        refine Or.inl ⟨_, hfit, hact, wf_lim hW', ?_, hW'⟩
        intro post S d q hC hA hq hp
        refine cryJ_6 hA hnx (hC.2.2.1 x hx) (cgroup_yes hC hG hU h12 hBa hap hcp hn hfr ?_ (fun S' a b => ⟨nar1, hp S' a b⟩))
        rcases hor with ⟨rfl, rfl⟩ | ⟨rfl, rfl⟩
        · exact Or.inl ⟨rfl, rfl⟩
        · exact Or.inr ⟨rfl, rfl⟩
      · refine Or.inr ⟨Or.inr ⟨hfit, _, ?_, fun hL => ?_, hact⟩, cno (Or.inr (Or.inr (Or.inr (Or.inr (by omega)))))⟩
        · simp only [List.length_append, List.length_cons] at hl ⊢
          omega
        · have := hL.1
          simp only [List.length_append, List.length_cons] at this h12
          omega
    · have hbad : j = k ∨ x.p ≠ none ∨ b.p ≠ none := by
        by_cases q1 : j = k
        · exact Or.inl q1
        · by_cases q2 : x.p = none
          · exact Or.inr (Or.inr (fun q3 => hg ⟨q1, q2, q3⟩))
          · exact Or.inr (Or.inl q2)
      refine Or.inr ⟨Or.inl (fit_6 hG hU hn hk hj (Or.inr ⟨hbad, rfl⟩)), cno ?_⟩
      rcases hbad with q | q | q
      · subst q
        exact Or.inl (by rw [Option.some.inj (hk.symm.trans hj)])
      · exact Or.inr (Or.inr (Or.inl q))
      · exact Or.inr (Or.inr (Or.inr (Or.inl ⟨b, hb, rfl, q⟩)))
  · have hno : ∀ b ∈ D, b.nm ≠ y := fun b hb h => hyD ⟨b, hb, h⟩
    exact Or.inr ⟨Or.inl (fit_69n hG hn (Or.inl rfl) hk hy hno), cno (Or.inr (Or.inl hno))⟩
theorem obj_at {D : List Ob} {n : Nat} (hW : WF D n) {b : Ob} (hb : b ∈ D) : ∃ j f, D[j]? = some b ∧ Blk D j f ∧ (∃ m ∈ seg D j f, m.fm ≠ 3) ∧ ∀ m ∈ seg D j f, wfO m := by
  obtain ⟨u1, s1, o, sub, s2, u2, hD, hn, co, f1, f2, bl⟩ := sp_of hW ⟨b, hb, rfl⟩
  have hob : o = b := gd_mem hW.2.1 (by rw [hD]; simp) hb hn
  subst hob
  subst hD
  obtain ⟨hB, hko, hseg, hmp, hat⟩ := ctx hW co f1 f2 bl
  refine ⟨_, _, hko, hB, ?_, ?_⟩
  · rw [hseg]; exact bl_shape bl
  · rw [hseg]
    intro m hm
    obtain ⟨i, -, -, hi⟩ := hat m hm
    exact (hW.2.2.2 m (at_mem hi)).2
theorem ad_in {s a b : Int32} (hs : s = 0 ∨ s = 1 ∨ s = 2 ∨ s = 3) (ha : -2000 ≤ a.toInt ∧ a.toInt ≤ 2000) (hb : -2000 ≤ b.toInt ∧ b.toInt ≤ 2000) : (-2000 ≤ (adx s a b).toInt ∧ (adx s a b).toInt ≤ 2000) ∧ (-2000 ≤ (ady s a b).toInt ∧ (ady s a b).toInt ≤ 2000) := by
  have h0 : (0 : Int32).toInt = 0 := by decide
  rcases hs with rfl | rfl | rfl | rfl
  · rw [adx_0, ady_0, h0]; omega
  · rw [adx_1, ady_1, h0]; omega
  · rw [adx_2, ady_2, h0]; omega
  · rw [adx_3, ady_3, h0]; omega
theorem dif_in {a b : Int32} (ha : -200 ≤ a.toInt ∧ a.toInt ≤ 200) (hb : -200 ≤ b.toInt ∧ b.toInt ≤ 200) : -2000 ≤ (a - b).toInt ∧ (a - b).toInt ≤ 2000 := by
  rw [sub_toInt (by omega) (by omega)]
  omega
theorem step_9 {n y : Nat} {u1 s1 sub s2 u2 : List Ob} {o : Ob} {A2 A3 : Int32} (hW : WF (u1 ++ (s1 ++ (o :: (sub ++ (s2 ++ u2))))) n) (hn : n < 24) (co : Co o.p u1 u2) (f1 : Fo o.p s1) (f2 : Fo o.p s2) (bl : Bl o sub) (hy : y < 24) (hs : btw 0 3 A2) : (∃ D', Yes (u1 ++ (s1 ++ (o :: (sub ++ (s2 ++ u2))))) n 9 (nI o.nm) (nI y) A2 A3 D') ∨ No (u1 ++ (s1 ++ (o :: (sub ++ (s2 ++ u2))))) n 9 (nI o.nm) (nI y) A2 A3 := by
  obtain ⟨hB, hko, hseg, hmp, hat⟩ := ctx hW co f1 f2 bl
  have hG := hW.2.1
  have hU := up_of hW.1
  have hl := hW.2.2.1
  have hno := hG.2.2 _ _ hko
  have hs4 := btw_3 hs
  by_cases hyD : ∃ b ∈ u1 ++ (s1 ++ (o :: (sub ++ (s2 ++ u2)))), b.nm = y
  · obtain ⟨b, hb, rfl⟩ := hyD
    obtain ⟨j, f, hj, hBj, hsh, hwf⟩ := obj_at hW hb
    have hb1 := hB.1
    have hb2 := hBj.1
    by_cases hin : (j ≤ u1.length + s1.length ∧ u1.length + s1.length < f) ∨ (u1.length + s1.length ≤ j ∧ j < u1.length + s1.length + 1 + sub.length)
    · refine Or.inr ⟨Or.inl (fit_9 hG hU hn hko hB hj hBj (Or.inr ⟨hin, rfl⟩)), ?_⟩
      intro post S d q hC hA hq hp
      exact cryJ_9 hA hno (hC.2.2.1 o (at_mem hko)) (calign_in hC hG hU hl hko hB hj hBj hin ⟨nar0, hp S hC Fq.rf⟩)
    · have hwm : ∀ m ∈ seg (u1 ++ (s1 ++ (o :: (sub ++ (s2 ++ u2))))) (u1.length + s1.length) (u1.length + s1.length + 1 + sub.length), wfO m := by
        rw [hseg]
        intro m hm
        obtain ⟨i, -, -, hi⟩ := hat m hm
        exact (hW.2.2.2 m (at_mem hi)).2
      have hshm : ∃ m ∈ seg (u1 ++ (s1 ++ (o :: (sub ++ (s2 ++ u2))))) (u1.length + s1.length) (u1.length + s1.length + 1 + sub.length), m.fm ≠ 3 := by
        rw [hseg]; exact bl_shape bl
      obtain ⟨e1, e2, e3, e4⟩ := box_eq hshm hwm
      obtain ⟨c1, c2, c3, c4⟩ := box_eq hsh hwf
      obtain ⟨i1, i2, i3, i4⟩ := box_in hshm hwm
      obtain ⟨k1, k2, k3, k4⟩ := box_in hsh hwf
      have hx := (ad_in hs4 (dif_in k1 i1) (dif_in k3 i3)).1
      have hyy := (ad_in hs4 (dif_in k2 i2) (dif_in k4 i4)).2
      refine blk_step hW co f1 f2 bl (f := shf (adx A2 (lo (seg (u1 ++ (s1 ++ (o :: (sub ++ (s2 ++ u2))))) j f) Ob.l 100000 - lo (seg (u1 ++ (s1 ++ (o :: (sub ++ (s2 ++ u2))))) (u1.length + s1.length) (u1.length + s1.length + 1 + sub.length)) Ob.l 100000) (hi (seg (u1 ++ (s1 ++ (o :: (sub ++ (s2 ++ u2))))) j f) (fun o => o.l + o.w) (-100000) - hi (seg (u1 ++ (s1 ++ (o :: (sub ++ (s2 ++ u2))))) (u1.length + s1.length) (u1.length + s1.length + 1 + sub.length)) (fun o => o.l + o.w) (-100000))) (ady A2 (lo (seg (u1 ++ (s1 ++ (o :: (sub ++ (s2 ++ u2))))) j f) Ob.t 100000 - lo (seg (u1 ++ (s1 ++ (o :: (sub ++ (s2 ++ u2))))) (u1.length + s1.length) (u1.length + s1.length + 1 + sub.length)) Ob.t 100000) (hi (seg (u1 ++ (s1 ++ (o :: (sub ++ (s2 ++ u2))))) j f) (fun o => o.t + o.h) (-100000) - hi (seg (u1 ++ (s1 ++ (o :: (sub ++ (s2 ++ u2))))) (u1.length + s1.length) (u1.length + s1.length + 1 + sub.length)) (fun o => o.t + o.h) (-100000)))) (fsk_shf _ _) (fit_9 hG hU hn hko hB hj hBj (Or.inl ⟨by omega, by omega, rfl⟩)) ?_ ?_ ?_ ?_
      · intro post S hR hA hp
        refine act_k hR hG hn hA (by decide) hko (actJ_9 hn hA (find_some hR hG hj ?_))
        exact align_ok hR hG hU hko hB hj hBj (fun S' a b => hp S' a b)
      · intro m hm
        obtain ⟨i, -, -, hi⟩ := hat m hm
        exact shf_wf (hW.2.2.2 m (at_mem hi)).2 hx hyy
      · intro hg post S d q hC hA hq hp
        rw [e1, e2, e3, e4, c1, c2, c3, c4] at hg hp
        exact cryJ_9 hA hno (hC.2.2.1 o (at_mem hko)) (calign_go hC hG hU hl hko hB hj hBj (by omega) (by omega) hs4 (cmove_yes hC hG hU hl hB hko hg (fun S' a b => ⟨nar1, nar1, hp S' a b⟩)))
      · intro hbd post S d q hC hA hq hp
        rw [e1, e2, e3, e4, c1, c2, c3, c4] at hbd
        exact cryJ_9 hA hno (hC.2.2.1 o (at_mem hko)) (calign_go hC hG hU hl hko hB hj hBj (by omega) (by omega) hs4 (cmove_no hC.1 hC.2.1 hG hU hl hB hko hbd ⟨nar0, nar0, hp S hC Fq.rf⟩))
  · have hnb : ∀ b ∈ u1 ++ (s1 ++ (o :: (sub ++ (s2 ++ u2)))), b.nm ≠ y := fun b hb h => hyD ⟨b, hb, h⟩
    refine Or.inr ⟨Or.inl (fit_69n hG hn (Or.inr rfl) hko hy hnb), ?_⟩
    intro post S d q hC hA hq hp
    exact cryJ_9 hA hno (hC.2.2.1 o (at_mem hko)) (calign_gone hC hy hnb ⟨nar0, hp S hC Fq.rf⟩)
theorem step_gone {D : List Ob} {n x : Nat} {K A1 A2 A3 : Int32} (hW : WF D n) (hn : n < 24) (hK : ¬ K = 0) (hx : x < 24) (hno : ¬ ∃ o ∈ D, o.nm = x) : (∃ D', Yes D n K (nI x) A1 A2 A3 D') ∨ No D n K (nI x) A1 A2 A3 := by
  have h : ∀ o ∈ D, o.nm ≠ x := fun o ho q => hno ⟨o, ho, q⟩
  exact Or.inr ⟨Or.inl (fit_none hW.2.1 hn hK hx h), cry_none hK hx h⟩
theorem step {D : List Ob} {n : Nat} {K A0 A1 A2 A3 : Int32} (hW : WF D n) (hn : n < 24) (hv : va K A0 A1 A2 A3) : (∃ D', Yes D n K A0 A1 A2 A3 D') ∨ No D n K A0 A1 A2 A3 := by
  rcases hv with ⟨rfl, h0, h1, h2, h3, h4⟩ | ⟨rfl, h0⟩ | ⟨rfl, h0, h1, h2⟩ | ⟨rfl, h0, h1, h2⟩ | ⟨rfl, h0, h1⟩ | ⟨rfl, h0, h1⟩ | ⟨rfl, h0, h1⟩ | ⟨rfl, h0⟩ | ⟨rfl, h0, h1, h2⟩ | ⟨rfl, h0, h1, h2⟩
  · exact step_0 hW hn h0 h1 h2 h3 h4
  · obtain ⟨x, hx, rfl⟩ := nm_of h0
    by_cases hin : ∃ o ∈ D, o.nm = x
    · obtain ⟨u1, s1, o, sub, s2, u2, rfl, rfl, co, f1, f2, bl⟩ := sp_of hW hin
      exact step_1 hW hn co f1 f2 bl
    · exact step_gone hW hn (by decide) hx hin
  · obtain ⟨x, hx, rfl⟩ := nm_of h0
    by_cases hin : ∃ o ∈ D, o.nm = x
    · obtain ⟨u1, s1, o, sub, s2, u2, rfl, rfl, co, f1, f2, bl⟩ := sp_of hW hin
      exact step_2 hW hn co f1 f2 bl h1 h2
    · exact step_gone hW hn (by decide) hx hin
  · obtain ⟨x, hx, rfl⟩ := nm_of h0
    by_cases hin : ∃ o ∈ D, o.nm = x
    · obtain ⟨u1, s1, o, sub, s2, u2, rfl, rfl, co, f1, f2, bl⟩ := sp_of hW hin
      exact step_3 hW hn co f1 f2 bl h1 h2
    · exact step_gone hW hn (by decide) hx hin
  · obtain ⟨x, hx, rfl⟩ := nm_of h0
    by_cases hin : ∃ o ∈ D, o.nm = x
    · obtain ⟨u1, s1, o, sub, s2, u2, rfl, rfl, co, f1, f2, bl⟩ := sp_of hW hin
      exact step_4 hW hn co f1 f2 bl
    · exact step_gone hW hn (by decide) hx hin
  · obtain ⟨x, hx, rfl⟩ := nm_of h0
    by_cases hin : ∃ o ∈ D, o.nm = x
    · obtain ⟨u1, s1, o, sub, s2, u2, rfl, rfl, co, f1, f2, bl⟩ := sp_of hW hin
      exact step_5 hW hn co f1 f2 bl h1
    · exact step_gone hW hn (by decide) hx hin
  · obtain ⟨x, hx, rfl⟩ := nm_of h0
    by_cases hin : ∃ o ∈ D, o.nm = x
    · obtain ⟨o, ho, rfl⟩ := hin
      obtain ⟨y, hy, rfl⟩ := nm_of h1
      exact step_6 hW hn ho hy
    · exact step_gone hW hn (by decide) hx hin
  · obtain ⟨x, hx, rfl⟩ := nm_of h0
    by_cases hin : ∃ o ∈ D, o.nm = x
    · obtain ⟨u1, s1, o, sub, s2, u2, rfl, rfl, co, f1, f2, bl⟩ := sp_of hW hin
      exact step_7 hW hn co f1 f2 bl
    · exact step_gone hW hn (by decide) hx hin
  · obtain ⟨x, hx, rfl⟩ := nm_of h0
    by_cases hin : ∃ o ∈ D, o.nm = x
    · obtain ⟨u1, s1, o, sub, s2, u2, rfl, rfl, co, f1, f2, bl⟩ := sp_of hW hin
      exact step_8 hW hn co f1 f2 bl h1 h2
    · exact step_gone hW hn (by decide) hx hin
  · obtain ⟨x, hx, rfl⟩ := nm_of h0
    by_cases hin : ∃ o ∈ D, o.nm = x
    · obtain ⟨u1, s1, o, sub, s2, u2, rfl, rfl, co, f1, f2, bl⟩ := sp_of hW hin
      obtain ⟨y, hy, rfl⟩ := nm_of h1
      exact step_9 hW hn co f1 f2 bl hy h2
    · exact step_gone hW hn (by decide) hx hin
