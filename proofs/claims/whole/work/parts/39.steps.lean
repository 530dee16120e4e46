def btw (lo hi x : Int32) : Prop := ¬ x < lo ∧ ¬ hi < x
theorem btw_toInt {lo hi x : Int32} {a b : Int} (ha : lo.toInt = a) (hb : hi.toInt = b) (h : btw lo hi x) : a ≤ x.toInt ∧ x.toInt ≤ b := by
  unfold btw at h
  rw [Int32.lt_iff_toInt_lt, Int32.lt_iff_toInt_lt, ha, hb] at h
  omega
theorem nm_of {A : Int32} (h : btw 0 23 A) : ∃ x, x < 24 ∧ A = nI x := by
  have h1 := btw_toInt (a := 0) (b := 23) (by decide) (by decide) h
  refine ⟨A.toInt.toNat, by omega, Int32.toInt_inj.mp ?_⟩
  rw [nI_toInt (by omega)]
  omega
theorem btw_200 {A : Int32} (h : btw (-200) 200 A) : -200 ≤ A.toInt ∧ A.toInt ≤ 200 := btw_toInt cm200 c200 h
theorem btw_3 {s : Int32} (h : btw 0 3 s) : s = 0 ∨ s = 1 ∨ s = 2 ∨ s = 3 := by
  have h1 := btw_toInt (a := 0) (b := 3) (by decide) (by decide) h
  have h2 : s.toInt = 0 ∨ s.toInt = 1 ∨ s.toInt = 2 ∨ s.toInt = 3 := by omega
  rcases h2 with h | h | h | h
  · exact Or.inl (Int32.toInt_inj.mp (h.trans (by decide)))
  · exact Or.inr (Or.inl (Int32.toInt_inj.mp (h.trans (by decide))))
  · exact Or.inr (Or.inr (Or.inl (Int32.toInt_inj.mp (h.trans (by decide)))))
  · exact Or.inr (Or.inr (Or.inr (Int32.toInt_inj.mp (h.trans (by decide)))))
theorem btw_2 {s : Int32} (h : btw 0 2 s) : s = 0 ∨ s = 1 ∨ s = 2 := by
  have h1 := btw_toInt (a := 0) (b := 2) (by decide) (by decide) h
  have h2 : s.toInt = 0 ∨ s.toInt = 1 ∨ s.toInt = 2 := by omega
  rcases h2 with h | h | h
  · exact Or.inl (Int32.toInt_inj.mp (h.trans (by decide)))
  · exact Or.inr (Or.inl (Int32.toInt_inj.mp (h.trans (by decide))))
  · exact Or.inr (Or.inr (Int32.toInt_inj.mp (h.trans (by decide))))
theorem btw_1 {s : Int32} (h : btw 0 1 s) : s = 0 ∨ s = 1 := by
  have h1 := btw_toInt (a := 0) (b := 1) (by decide) (by decide) h
  have h2 : s.toInt = 0 ∨ s.toInt = 1 := by omega
  rcases h2 with h | h
  · exact Or.inl (Int32.toInt_inj.mp (h.trans (by decide)))
  · exact Or.inr (Int32.toInt_inj.mp (h.trans (by decide)))
/-- valid arguments -/
def va (K A0 A1 A2 A3 : Int32) : Prop := (K = 0 ∧ btw 0 2 A0 ∧ btw (-200) 200 A1 ∧ btw (-200) 200 A2 ∧ btw 1 100 (A3 - A3 / 128 * 128) ∧ btw 1 100 (A3 / 128)) ∨ (K = 1 ∧ btw 0 23 A0) ∨ (K = 2 ∧ btw 0 23 A0 ∧ btw (-200) 200 A1 ∧ btw (-200) 200 A2) ∨ (K = 3 ∧ btw 0 23 A0 ∧ btw 1 9 A1 ∧ btw 1 9 A2) ∨ (K = 4 ∧ btw 0 23 A0 ∧ btw 0 7 A1) ∨ (K = 5 ∧ btw 0 23 A0 ∧ btw 0 1 A1) ∨ (K = 6 ∧ btw 0 23 A0 ∧ btw 0 23 A1) ∨ (K = 7 ∧ btw 0 23 A0) ∨ (K = 8 ∧ btw 0 23 A0 ∧ btw (-200) 200 A1 ∧ btw (-200) 200 A2) ∨ (K = 9 ∧ btw 0 23 A0 ∧ btw 0 23 A1 ∧ btw 0 3 A2)
theorem ctx {n : Nat} {u1 s1 sub s2 u2 : List Ob} {o : Ob} (hW : WF (u1 ++ (s1 ++ (o :: (sub ++ (s2 ++ u2))))) n) (co : Co o.p u1 u2) (f1 : Fo o.p s1) (f2 : Fo o.p s2) (bl : Bl o sub) : Blk (u1 ++ (s1 ++ (o :: (sub ++ (s2 ++ u2))))) (u1.length + s1.length) (u1.length + s1.length + 1 + sub.length) ∧ (u1 ++ (s1 ++ (o :: (sub ++ (s2 ++ u2)))))[u1.length + s1.length]? = some o ∧ seg (u1 ++ (s1 ++ (o :: (sub ++ (s2 ++ u2))))) (u1.length + s1.length) (u1.length + s1.length + 1 + sub.length) = o :: sub ∧ (∀ f, mp (u1 ++ (s1 ++ (o :: (sub ++ (s2 ++ u2))))) (u1.length + s1.length) (u1.length + s1.length + 1 + sub.length) f = (u1 ++ s1) ++ ((o :: sub).map f ++ (s2 ++ u2))) ∧ (∀ m ∈ o :: sub, ∃ j, u1.length + s1.length ≤ j ∧ j < u1.length + s1.length + 1 + sub.length ∧ (u1 ++ (s1 ++ (o :: (sub ++ (s2 ++ u2)))))[j]? = some m) := by
  have heq : u1 ++ (s1 ++ (o :: (sub ++ (s2 ++ u2)))) = (u1 ++ s1) ++ ((o :: sub) ++ (s2 ++ u2)) := by simp
  have hk : u1.length + s1.length = (u1 ++ s1).length := by rw [List.length_append]
  have he : u1.length + s1.length + 1 + sub.length = (u1 ++ s1).length + (o :: sub).length := by rw [List.length_append, List.length_cons]; omega
  refine ⟨blk_co hW.2.1 co f1 f2 (bl_fo bl), ?_, ?_, fun f => ?_, fun m hm => ?_⟩
  · rw [← List.append_assoc, ← List.length_append]; exact at_app
  · rw [he, hk, heq]
    exact seg_mid _ _ _
  · rw [he, hk, heq]
    exact mp_mid _ _ _ _
  · obtain ⟨i, hi⟩ := List.mem_iff_getElem?.mp hm
    have hil := at_lt hi
    refine ⟨(u1 ++ s1).length + i, by omega, by omega, ?_⟩
    rw [heq]
    exact app_r (app_l hi)
theorem blk_step {n : Nat} {u1 s1 sub s2 u2 : List Ob} {o : Ob} {K A0 A1 A2 A3 : Int32} {f : Ob → Ob} (hW : WF (u1 ++ (s1 ++ (o :: (sub ++ (s2 ++ u2))))) n) (co : Co o.p u1 u2) (f1 : Fo o.p s1) (f2 : Fo o.p s2) (bl : Bl o sub) (hf : fsk f) (hfit : Fit (u1 ++ (s1 ++ (o :: (sub ++ (s2 ++ u2))))) n K A0 A1 A2 A3 1) (hact : Act (u1 ++ (s1 ++ (o :: (sub ++ (s2 ++ u2))))) n K A0 A1 A2 A3 (mp (u1 ++ (s1 ++ (o :: (sub ++ (s2 ++ u2))))) (u1.length + s1.length) (u1.length + s1.length + 1 + sub.length) f)) (hsm : ∀ m ∈ o :: sub, okO (f m) → wfO (f m)) (hyes : (∀ (j : Nat) (m : Ob), (u1 ++ (s1 ++ (o :: (sub ++ (s2 ++ u2)))))[j]? = some m → m.fm ≠ 3 → u1.length + s1.length ≤ j → j < u1.length + s1.length + 1 + sub.length → okO (f m)) → Cry (u1 ++ (s1 ++ (o :: (sub ++ (s2 ++ u2))))) n K A0 A1 A2 A3 1 (mp (u1 ++ (s1 ++ (o :: (sub ++ (s2 ++ u2))))) (u1.length + s1.length) (u1.length + s1.length + 1 + sub.length) f)) (hno : (∃ (j : Nat) (m : Ob), (u1 ++ (s1 ++ (o :: (sub ++ (s2 ++ u2)))))[j]? = some m ∧ m.fm ≠ 3 ∧ u1.length + s1.length ≤ j ∧ j < u1.length + s1.length + 1 + sub.length ∧ ¬ okO (f m)) → Cry (u1 ++ (s1 ++ (o :: (sub ++ (s2 ++ u2))))) n K A0 A1 A2 A3 0 (u1 ++ (s1 ++ (o :: (sub ++ (s2 ++ u2)))))) : (∃ D', Yes (u1 ++ (s1 ++ (o :: (sub ++ (s2 ++ u2))))) n K A0 A1 A2 A3 D') ∨ No (u1 ++ (s1 ++ (o :: (sub ++ (s2 ++ u2))))) n K A0 A1 A2 A3 := by
  obtain ⟨hB, hko, hseg, hmp, hat⟩ := ctx hW co f1 f2 bl
  by_cases hg : ∀ (j : Nat) (m : Ob), (u1 ++ (s1 ++ (o :: (sub ++ (s2 ++ u2)))))[j]? = some m → m.fm ≠ 3 → u1.length + s1.length ≤ j → j < u1.length + s1.length + 1 + sub.length → okO (f m)
  · have hW' : WF (mp (u1 ++ (s1 ++ (o :: (sub ++ (s2 ++ u2))))) (u1.length + s1.length) (u1.length + s1.length + 1 + sub.length) f) (n + 1) := by
      rw [hmp]
      refine wf_mono (wf_map hW co f1 f2 bl hf (fun m hm => hsm m hm ?_))
      by_cases h3 : m.fm = 3
      · exact Or.inl ((hf m).2.2.trans h3)
      · obtain ⟨j, h1, h2, h4⟩ := hat m hm
        exact hg j m h4 h3 h1 h2
    exact Or.inl ⟨_, hfit, hact, wf_lim hW', hyes hg, hW'⟩
  · right
    have hbad : ∃ (j : Nat) (m : Ob), (u1 ++ (s1 ++ (o :: (sub ++ (s2 ++ u2)))))[j]? = some m ∧ m.fm ≠ 3 ∧ u1.length + s1.length ≤ j ∧ j < u1.length + s1.length + 1 + sub.length ∧ ¬ okO (f m) := by
      apply Classical.byContradiction
      intro hno'
      refine hg (fun j m h1 h2 h3 h4 => ?_)
      apply Classical.byContradiction
      intro h5
      exact hno' ⟨j, m, h1, h2, h3, h4, h5⟩
    refine ⟨Or.inr ⟨hfit, _, by rw [mp_len]; exact hW.2.1.2.1, fun hL => ?_, hact⟩, hno hbad⟩
    obtain ⟨j, m, h1, h2, h3, h4, h5⟩ := hbad
    exact h5 (hL.2 j (f m) (by rw [mp_at, h1, Option.map_some, if_pos ⟨h3, h4⟩]))
theorem step_2 {n : Nat} {u1 s1 sub s2 u2 : List Ob} {o : Ob} {A1 A2 A3 : Int32} (hW : WF (u1 ++ (s1 ++ (o :: (sub ++ (s2 ++ u2))))) n) (hn : n < 24) (co : Co o.p u1 u2) (f1 : Fo o.p s1) (f2 : Fo o.p s2) (bl : Bl o sub) (h1 : btw (-200) 200 A1) (h2 : btw (-200) 200 A2) : (∃ D', Yes (u1 ++ (s1 ++ (o :: (sub ++ (s2 ++ u2))))) n 2 (nI o.nm) A1 A2 A3 D') ∨ No (u1 ++ (s1 ++ (o :: (sub ++ (s2 ++ u2))))) n 2 (nI o.nm) A1 A2 A3 := by
  obtain ⟨hB, hko, hseg, hmp, hat⟩ := ctx hW co f1 f2 bl
  have hG := hW.2.1
  have hU := up_of hW.1
  have hl := hW.2.2.1
  have hno := hG.2.2 _ _ hko
  have g1 := btw_200 h1
  have g2 := btw_200 h2
  refine blk_step hW co f1 f2 bl (fsk_shf A1 A2) (fit_15 hG hn (by simp) hko) ?_ ?_ ?_ ?_
  · intro post S hR hA hp
    refine act_k hR hG hn hA (by decide) hko (actJ_2 hn hA (behind_ok hR hG hU hB hko ?_))
    exact shift_ok hR hG.2.1 (Nat.le_of_lt hB.1) hB.2.1 (fun S' a b => hp S' a (b.mono t1_Ac))
  · intro m hm
    obtain ⟨j, -, -, hj⟩ := hat m hm
    exact shf_wf (hW.2.2.2 m (at_mem hj)).2 ⟨by omega, by omega⟩ ⟨by omega, by omega⟩
  · intro hg post S d q hC hA hq hp
    exact cryJ_2 hA hno (hC.2.2.1 o (at_mem hko)) (cmove_yes hC hG hU hl hB hko hg (fun S' a b => ⟨nar1, hp S' a b⟩))
  · intro hb post S d q hC hA hq hp
    exact cryJ_2 hA hno (hC.2.2.1 o (at_mem hko)) (cmove_no hC.1 hC.2.1 hG hU hl hB hko hb ⟨nar0, hp S hC Fq.rf⟩)
theorem step_3 {n : Nat} {u1 s1 sub s2 u2 : List Ob} {o : Ob} {A1 A2 A3 : Int32} (hW : WF (u1 ++ (s1 ++ (o :: (sub ++ (s2 ++ u2))))) n) (hn : n < 24) (co : Co o.p u1 u2) (f1 : Fo o.p s1) (f2 : Fo o.p s2) (bl : Bl o sub) (h1 : btw 1 9 A1) (h2 : btw 1 9 A2) : (∃ D', Yes (u1 ++ (s1 ++ (o :: (sub ++ (s2 ++ u2))))) n 3 (nI o.nm) A1 A2 A3 D') ∨ No (u1 ++ (s1 ++ (o :: (sub ++ (s2 ++ u2))))) n 3 (nI o.nm) A1 A2 A3 := by
  obtain ⟨hB, hko, hseg, hmp, hat⟩ := ctx hW co f1 f2 bl
  have hG := hW.2.1
  have hU := up_of hW.1
  have hl := hW.2.2.1
  have hno := hG.2.2 _ _ hko
  have g1 := btw_toInt (a := 1) (b := 9) (by decide) (by decide) h1
  have g2 := btw_toInt (a := 1) (b := 9) (by decide) (by decide) h2
  have hq0 : ¬ A2 = 0 := by
    intro h
    rw [h, show (0 : Int32).toInt = 0 from by decide] at g2
    omega
  have hwm : ∀ m ∈ o :: sub, wfO m := fun m hm => by
    obtain ⟨j, -, -, hj⟩ := hat m hm
    exact (hW.2.2.2 m (at_mem hj)).2
  obtain ⟨e1, e2, -, -⟩ := box_eq (bl_shape bl) hwm
  obtain ⟨b1, b2, -, -⟩ := box_in (bl_shape bl) hwm
  refine blk_step hW co f1 f2 bl (f := scl (lo (seg (u1 ++ (s1 ++ (o :: (sub ++ (s2 ++ u2))))) (u1.length + s1.length) (u1.length + s1.length + 1 + sub.length)) Ob.l 100000) (lo (seg (u1 ++ (s1 ++ (o :: (sub ++ (s2 ++ u2))))) (u1.length + s1.length) (u1.length + s1.length + 1 + sub.length)) Ob.t 100000) A1 A2) (fsk_scl _ _ A1 A2) (fit_15 hG hn (by simp) hko) ?_ ?_ ?_ ?_
  · intro post S hR hA hp
    refine act_k hR hG hn hA (by decide) hko (actJ_3 hn hA (behind_ok hR hG hU hB hko ?_))
    exact scale_ok hR hG.2.1 (Nat.le_of_lt hB.1) hB.2.1 hq0 (fun S' a b => hp S' a b)
  · intro m hm
    rw [hseg]
    exact scl_wf (hwm m hm) b1.1 (fun h3 => (lo_le (f := Ob.l) (o :: sub) 100000).2 m hm h3) b2.1 (fun h3 => (lo_le (f := Ob.t) (o :: sub) 100000).2 m hm h3) g1.1 g1.2 g2.1
  · intro hg post S d q hC hA hq hp
    rw [hseg, e1, e2, ← hseg] at hg hp
    exact cryJ_3 hA hno (hC.2.2.1 o (at_mem hko)) (cscale_yes hC hG hU hl hB hko hq0 hg (fun S' a b => ⟨nar1, hp S' a b⟩))
  · intro hb post S d q hC hA hq hp
    rw [hseg, e1, e2, ← hseg] at hb
    exact cryJ_3 hA hno (hC.2.2.1 o (at_mem hko)) (cscale_no hC.1 hC.2.1 hG hU hl hB hko hq0 hb ⟨nar0, hp S hC Fq.rf⟩)
theorem pnt_ok {b : Int32} {m : Ob} (h : okO m) : okO (pnt b m) := by
  unfold pnt
  by_cases h3 : m.fm = 3
  · rw [if_pos h3]; exact h
  · rw [if_neg h3]; exact h
theorem step_4 {n : Nat} {u1 s1 sub s2 u2 : List Ob} {o : Ob} {A1 A2 A3 : Int32} (hW : WF (u1 ++ (s1 ++ (o :: (sub ++ (s2 ++ u2))))) n) (hn : n < 24) (co : Co o.p u1 u2) (f1 : Fo o.p s1) (f2 : Fo o.p s2) (bl : Bl o sub) : (∃ D', Yes (u1 ++ (s1 ++ (o :: (sub ++ (s2 ++ u2))))) n 4 (nI o.nm) A1 A2 A3 D') ∨ No (u1 ++ (s1 ++ (o :: (sub ++ (s2 ++ u2))))) n 4 (nI o.nm) A1 A2 A3 := by
  obtain ⟨hB, hko, hseg, hmp, hat⟩ := ctx hW co f1 f2 bl
  have hG := hW.2.1
  have hU := up_of hW.1
  have hl := hW.2.2.1
  have hno := hG.2.2 _ _ hko
  refine blk_step hW co f1 f2 bl (fsk_pnt A1) (fit_15 hG hn (by simp) hko) ?_ ?_ ?_ ?_
  · intro post S hR hA hp
    refine act_k hR hG hn hA (by decide) hko (actJ_4 hn hA (behind_ok hR hG hU hB hko ?_))
    exact paint_ok hR hG.2.1 (wf_c hW) (Nat.le_of_lt hB.1) hB.2.1 (fun S' a b => hp S' a (b.mono t1_Ac))
  · intro m hm _
    obtain ⟨j, -, -, hj⟩ := hat m hm
    exact pnt_wf (hW.2.2.2 m (at_mem hj)).2
  · intro hg post S d q hC hA hq hp
    exact cryJ_4 hA hno (hC.2.2.1 o (at_mem hko)) (cpaint_ok hC hG hU hl hB hko (fun S' a b => ⟨nar1, hp S' a b⟩))
  · rintro ⟨j, m, hj, -, -, -, hb⟩
    exact absurd (pnt_ok (wf_ok (hW.2.2.2 m (at_mem hj)).2)) hb
theorem step_1 {n : Nat} {u1 s1 sub s2 u2 : List Ob} {o : Ob} {A1 A2 A3 : Int32} (hW : WF (u1 ++ (s1 ++ (o :: (sub ++ (s2 ++ u2))))) n) (hn : n < 24) (co : Co o.p u1 u2) (f1 : Fo o.p s1) (f2 : Fo o.p s2) (bl : Bl o sub) : (∃ D', Yes (u1 ++ (s1 ++ (o :: (sub ++ (s2 ++ u2))))) n 1 (nI o.nm) A1 A2 A3 D') ∨ No (u1 ++ (s1 ++ (o :: (sub ++ (s2 ++ u2))))) n 1 (nI o.nm) A1 A2 A3 := by
  obtain ⟨hB, hko, hseg, hmp, hat⟩ := ctx hW co f1 f2 bl
  have hG := hW.2.1
  have hU := up_of hW.1
  have hl := hW.2.2.1
  have hno := hG.2.2 _ _ hko
  obtain ⟨D', h1, h2, h3, h4⟩ := del_ex hG hU hl co f1 f2 bl
  have hW' : WF D' (n + 1) := wf_mono ⟨h1, gd_sub h2 hG, Nat.le_trans h2.length_le hl, fun m hm => hW.2.2.2 m (h2.subset hm)⟩
  refine Or.inl ⟨D', fit_15 hG hn (by simp) hko, ?_, wf_lim hW', ?_, hW'⟩
  · intro post S hR hA hp
    exact act_k hR hG hn hA (by decide) hko (actJ_1 hn hA (h3 _ S hR (fun S' a b => hp S' a (b.mono t1_Ac))))
  · intro post S d q hC hA hq hp
    exact cryJ_1 hA hno (hC.2.2.1 o (at_mem hko)) (h4 _ S d hC (fun S' a b => ⟨nar1, hp S' a b⟩))
theorem step_5 {n : Nat} {u1 s1 sub s2 u2 : List Ob} {o : Ob} {A1 A2 A3 : Int32} (hW : WF (u1 ++ (s1 ++ (o :: (sub ++ (s2 ++ u2))))) n) (hn : n < 24) (co : Co o.p u1 u2) (f1 : Fo o.p s1) (f2 : Fo o.p s2) (bl : Bl o sub) (h1 : btw 0 1 A1) : (∃ D', Yes (u1 ++ (s1 ++ (o :: (sub ++ (s2 ++ u2))))) n 5 (nI o.nm) A1 A2 A3 D') ∨ No (u1 ++ (s1 ++ (o :: (sub ++ (s2 ++ u2))))) n 5 (nI o.nm) A1 A2 A3 := by
  obtain ⟨hB, hko, hseg, hmp, hat⟩ := ctx hW co f1 f2 bl
  have hG := hW.2.1
  have hU := up_of hW.1
  have hl := hW.2.2.1
  have hno := hG.2.2 _ _ hko
  left
  rcases btw_1 h1 with rfl | rfl
  · have hW' : WF (u1 ++ ((o :: sub) ++ (s1 ++ (s2 ++ u2)))) (n + 1) := by
      refine wf_mono ⟨?_, gd_perm ?_ hG, ?_, fun m hm => hW.2.2.2 m ?_⟩
      · have := plug co (B := (o :: sub) ++ (s1 ++ s2)) (fo_app (fo_blk1 rfl bl) (fo_app f1 f2)) (Or.inl (by simp))
        simpa using this
      · refine List.Perm.append_left u1 ?_
        have := List.perm_append_comm_assoc (o :: sub) s1 (s2 ++ u2)
        simpa using this
      · simp only [List.length_append, List.length_cons] at hl ⊢
        omega
      · simp only [List.mem_append, List.mem_cons] at hm ⊢
        grind
    refine ⟨_, fit_15 hG hn (by simp) hko, ?_, wf_lim hW', ?_, hW'⟩
    · intro post S hR hA hp
      refine act_k hR hG hn hA (by decide) hko (actJ_5 hn hA ?_)
      rw [if_neg (by decide)]
      exact raise_ok hR hG hU co f1 f2 bl rfl (fun _ S' a b => hp S' a (b.mono t2_Ac)) (fun h => absurd rfl h)
    · intro post S d q hC hA hq hp
      exact cryJ_5 hA hno (hC.2.2.1 o (at_mem hko)) (craise_ok hC hG hU hl co f1 f2 bl (fun _ S' a b => ⟨nar1, hp S' a b⟩) (fun h => absurd h (by decide)))
  · have hW' : WF (u1 ++ (s1 ++ (s2 ++ ((o :: sub) ++ u2)))) (n + 1) := by
      refine wf_mono ⟨?_, gd_perm ?_ hG, ?_, fun m hm => hW.2.2.2 m ?_⟩
      · have := plug co (B := (s1 ++ s2) ++ (o :: sub)) (fo_app (fo_app f1 f2) (fo_blk1 rfl bl)) (Or.inl (by simp))
        simpa using this
      · refine List.Perm.append_left u1 (List.Perm.append_left s1 ?_)
        have := List.perm_append_comm_assoc s2 (o :: sub) u2
        simpa using this
      · simp only [List.length_append, List.length_cons] at hl ⊢
        omega
      · simp only [List.mem_append, List.mem_cons] at hm ⊢
        grind
    refine ⟨_, fit_15 hG hn (by simp) hko, ?_, wf_lim hW', ?_, hW'⟩
    · intro post S hR hA hp
      refine act_k hR hG hn hA (by decide) hko (actJ_5 hn hA ?_)
      rw [if_pos rfl]
      exact raise_ok hR hG hU co f1 f2 bl rfl (fun h => absurd h (by decide)) (fun _ S' a b => hp S' a (b.mono t2_Ac))
    · intro post S d q hC hA hq hp
      exact cryJ_5 hA hno (hC.2.2.1 o (at_mem hko)) (craise_ok hC hG hU hl co f1 f2 bl (fun h => absurd rfl h) (fun _ S' a b => ⟨nar1, hp S' a b⟩))
