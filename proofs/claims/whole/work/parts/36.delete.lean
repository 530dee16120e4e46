/-- up from a deletion: the groups that have lost all members go, too -/
theorem del_loop {q : Option Nat} {u1 u2 : List Ob} (hc : Co q u1 u2) : ∀ {R : List Ob}, Fo q R → Gd (u1 ++ (R ++ u2)) → Up (u1 ++ (R ++ u2)) → (u1 ++ (R ++ u2)).length ≤ 12 → ∃ (D' : List Ob) (N N' : Nat), Fo none D' ∧ D'.Sublist (u1 ++ (R ++ u2)) ∧ (∀ (post : Mem → Prop) (S : Mem), RD S (u1 ++ (R ++ u2)) → (∀ S', RD S' D' → Fq t1 S S' → post S') → r_delete_L18 post N S (pI q)) ∧ (∀ (post : Int32 → Mem → Prop) (S : Mem) (d up : Nat), CD S d (u1 ++ (R ++ u2)) → up + u1.length ≤ 12 → (∀ S', CD S' d D' → Fq (tC d) S S' → post 1 S') → cw_delete_L26 post N' S d (pI q) (nI up)) := by
  refine Co.ind (M := fun q u1 u2 => ∀ {R : List Ob}, Fo q R → Gd (u1 ++ (R ++ u2)) → Up (u1 ++ (R ++ u2)) → (u1 ++ (R ++ u2)).length ≤ 12 → ∃ (D' : List Ob) (N N' : Nat), Fo none D' ∧ D'.Sublist (u1 ++ (R ++ u2)) ∧ (∀ (post : Mem → Prop) (S : Mem), RD S (u1 ++ (R ++ u2)) → (∀ S', RD S' D' → Fq t1 S S' → post S') → r_delete_L18 post N S (pI q)) ∧ (∀ (post : Int32 → Mem → Prop) (S : Mem) (d up : Nat), CD S d (u1 ++ (R ++ u2)) → up + u1.length ≤ 12 → (∀ S', CD S' d D' → Fq (tC d) S S' → post 1 S') → cw_delete_L26 post N' S d (pI q) (nI up))) ?_ ?_ hc
  · intro R hR hG hU hl
    simp only [List.nil_append, List.append_nil] at hG hU hl ⊢
    refine ⟨R, 1, 1, hR, List.Sublist.refl _, fun post S h hp => ?_, fun post S d up h hu hp => ?_⟩
    · show r_delete_L18 post (0 + 1) S (-1)
      unfold r_delete_L18
      exact ⟨fun _ => hp S h Fq.rf, fun h => absurd (show (-1 : Int32) < 0 by decide) h⟩
    · show cw_delete_L26 post (0 + 1) S d (-1) (nI up)
      unfold cw_delete_L26
      exact ⟨fun _ => hp S h Fq.rf, fun _ => ⟨fun _ => hp S h Fq.rf, fun h => absurd rfl h⟩⟩
  · intro g v1 l1 l2 v2 hgc f1 f2 hgf ih R hR hG hU hl
    have heq : (v1 ++ (l1 ++ [g])) ++ (R ++ (l2 ++ v2)) = v1 ++ (l1 ++ (g :: (R ++ (l2 ++ v2)))) := by simp
    have hfo : R ≠ [] → Fo none ((v1 ++ (l1 ++ [g])) ++ (R ++ (l2 ++ v2))) := fun hne => plug (Co.down hgc f1 f2 hgf) hR (Or.inl hne)
    have hul : (v1 ++ (l1 ++ [g])).length = v1.length + l1.length + 1 := by simp only [List.length_append, List.length_cons, List.length_nil]; omega
    rw [heq] at hG hU hl hfo ⊢
    have hlen : (v1 ++ (l1 ++ (g :: (R ++ (l2 ++ v2))))).length = v1.length + (l1.length + (R.length + (l2.length + v2.length) + 1)) := by simp only [List.length_append, List.length_cons]
    have hgat : (v1 ++ (l1 ++ (g :: (R ++ (l2 ++ v2)))))[v1.length + l1.length]? = some g := by
      rw [← List.append_assoc, ← List.length_append]; exact at_app
    have hgn := hG.2.2 _ _ hgat
    have hB := blk_home (M := R) hG hgc f1 f2 hR
    by_cases hne : R = []
    · subst hne
      have hred : v1 ++ (l1 ++ (g :: (([] : List Ob) ++ (l2 ++ v2)))) = (v1 ++ l1) ++ ([g] ++ (l2 ++ v2)) := by simp
      have heq3 : (v1 ++ l1) ++ (l2 ++ v2) = v1 ++ ((l1 ++ l2) ++ v2) := by simp
      have hsub : (v1 ++ ((l1 ++ l2) ++ v2)).Sublist (v1 ++ (l1 ++ (g :: (([] : List Ob) ++ (l2 ++ v2))))) := by
        rw [hred, ← heq3]
        exact List.Sublist.append_left (List.sublist_append_right _ _) _
      have hU1 : Up (v1 ++ ((l1 ++ l2) ++ v2)) := by
        rw [← heq3]
        refine up_rm (b := [g]) (hred ▸ hU) ?_
        rw [← hred, List.length_append, List.length_singleton]
        exact hB
      have hl1 : (v1 ++ ((l1 ++ l2) ++ v2)).length ≤ 12 := Nat.le_trans hsub.length_le hl
      obtain ⟨D', N, N', h1, h2, h3, h4⟩ := ih (R := l1 ++ l2) (fo_app f1 f2) (gd_sub hsub hG) hU1 hl1
      refine ⟨D', N + 1, N' + 1, h1, h2.trans hsub, fun post S hS hp => ?_, fun post S d up hS hu hp => ?_⟩
      · show r_delete_L18 post (N + 1) S (nI g.nm)
        unfold r_delete_L18
        refine ⟨fun h => absurd h (q_nlt0 (by omega)), fun _ => find_some hS hG hgat (behind_ok hS hG hU hB hgat ?_)⟩
        have hc1 : nI (v1.length + l1.length + 1 + ([] : List Ob).length) = nI (v1.length + l1.length + 1) := rfl
        rw [q_1, if_pos hc1, if_neg (show ¬ (1 : Int32) = 0 by decide), ix7 (by omega), (rd_at hS hgat).2.2.2.1]
        refine ⟨fun _ => vi7 (by omega), fun h => absurd h (by decide), fun _ => ?_⟩
        refine takeOut_app (a := v1 ++ l1) (b := [g]) (c := l2 ++ v2) (hred ▸ hS) (by rw [← hred]; omega) (by rw [List.length_append]) (by rw [List.length_append, List.length_singleton]) (fun S3 hR3 hF3 => ?_)
        rw [heq3] at hR3
        exact h3 post S3 hR3 (fun S' a b => hp S' a (hF3.tr b))
      · show cw_delete_L26 post (N' + 1) S d (nI g.nm) (nI up)
        unfold cw_delete_L26
        refine ⟨fun h => ?_, fun _ => ⟨fun h => absurd h (q_neg (by omega)), fun _ => end_ok hS.1 hS.2.1 hG hU hl hB hgat (place_ok hS.1 hG hl hgat ?_)⟩⟩
        · rw [show (12 : Int32) = nI 12 from rfl, q_le (by omega) (by omega)] at h
          omega
        · rw [nI_clamp (show g.nm < 2 ^ 31 by omega), (hS.2.1 g (at_mem hgat)).2.2.1, q_1 up]
          refine ⟨fun _ => ⟨q_in (by omega) (by omega), place_ok hS.1 hG hl hgat (end_ok hS.1 hS.2.1 hG hU hl hB hgat ?_)⟩, fun h => absurd ?_ h⟩
          · refine remove_ok (A := v1 ++ l1) (B := [g]) (C := l2 ++ v2) (hred ▸ hS) (hred ▸ hG) (by rw [← hred]; omega) (by rw [List.length_append]) (by rw [List.length_append]; rfl) (fun S3 hR3 hF3 => ?_)
            rw [heq3] at hR3
            exact h4 post S3 d (up + 1) hR3 (by omega) (fun S' a b => hp S' a (hF3.tr b))
          · rw [q_sub (by omega), show (1 : Int32) = nI 1 from rfl, q_le (by omega) (by omega), List.length_nil]
            omega
    · have hR0 : 0 < R.length := List.length_pos_iff.mpr hne
      refine ⟨v1 ++ (l1 ++ (g :: (R ++ (l2 ++ v2)))), 2, 1, hfo hne, List.Sublist.refl _, fun post S hS hp => ?_, fun post S d up hS hu hp => ?_⟩
      · show r_delete_L18 post (1 + 1) S (nI g.nm)
        unfold r_delete_L18
        refine ⟨fun h => absurd h (q_nlt0 (by omega)), fun _ => find_some hS hG hgat (behind_ok hS hG hU hB hgat ?_)⟩
        have hc1 : ¬ nI (v1.length + l1.length + 1 + R.length) = nI (v1.length + l1.length + 1) := by rw [q_eq (by omega) (by omega)]; omega
        rw [q_1, if_neg hc1, if_pos (show (0 : Int32) = 0 from rfl)]
        refine ⟨fun h => absurd rfl h, fun _ => ?_, fun h => absurd rfl h⟩
        show r_delete_L18 post (0 + 1) S (-1)
        unfold r_delete_L18
        exact ⟨fun _ => hp S hS Fq.rf, fun h => absurd (show (-1 : Int32) < 0 by decide) h⟩
      · show cw_delete_L26 post (0 + 1) S d (nI g.nm) (nI up)
        unfold cw_delete_L26
        refine ⟨fun _ => hp S hS Fq.rf, fun _ => ⟨fun h => absurd h (q_neg (by omega)), fun _ => end_ok hS.1 hS.2.1 hG hU hl hB hgat (place_ok hS.1 hG hl hgat ?_)⟩⟩
        refine ⟨fun h => ?_, fun _ => hp S hS Fq.rf⟩
        rw [q_sub (by omega), show (1 : Int32) = nI 1 from rfl, q_le (by omega) (by omega)] at h
        omega
theorem del_ex {u1 s1 sub s2 u2 : List Ob} {o : Ob} (hG : Gd (u1 ++ (s1 ++ (o :: (sub ++ (s2 ++ u2)))))) (hU : Up (u1 ++ (s1 ++ (o :: (sub ++ (s2 ++ u2)))))) (hl : (u1 ++ (s1 ++ (o :: (sub ++ (s2 ++ u2))))).length ≤ 12) (co : Co o.p u1 u2) (f1 : Fo o.p s1) (f2 : Fo o.p s2) (bl : Bl o sub) : ∃ D', Fo none D' ∧ D'.Sublist (u1 ++ (s1 ++ (o :: (sub ++ (s2 ++ u2))))) ∧ (∀ (post : Mem → Prop) (S : Mem), RD S (u1 ++ (s1 ++ (o :: (sub ++ (s2 ++ u2))))) → (∀ S', RD S' D' → Fq t1 S S' → post S') → r_delete post S (nI (u1.length + s1.length))) ∧ (∀ (post : Int32 → Mem → Prop) (S : Mem) (d : Nat), CD S d (u1 ++ (s1 ++ (o :: (sub ++ (s2 ++ u2))))) → (∀ S', CD S' d D' → Fq (tC d) S S' → post 1 S') → cw_delete post S d (nI o.nm)) := by
  have hB := blk_co hG co f1 f2 (bl_fo bl)
  have hlen : (u1 ++ (s1 ++ (o :: (sub ++ (s2 ++ u2))))).length = u1.length + (s1.length + (sub.length + (s2.length + u2.length) + 1)) := by simp only [List.length_append, List.length_cons]
  have hko : (u1 ++ (s1 ++ (o :: (sub ++ (s2 ++ u2)))))[u1.length + s1.length]? = some o := by
    rw [← List.append_assoc, ← List.length_append]; exact at_app
  have hno := hG.2.2 _ _ hko
  have heq : u1 ++ (s1 ++ (o :: (sub ++ (s2 ++ u2)))) = (u1 ++ s1) ++ ((o :: sub) ++ (s2 ++ u2)) := by simp
  have heq3 : (u1 ++ s1) ++ (s2 ++ u2) = u1 ++ ((s1 ++ s2) ++ u2) := by simp
  have hU1 : Up (u1 ++ ((s1 ++ s2) ++ u2)) := by
    rw [← heq3]
    refine up_rm (b := o :: sub) (heq ▸ hU) ?_
    rw [← heq, List.length_append, List.length_cons, show u1.length + s1.length + (sub.length + 1) = u1.length + s1.length + 1 + sub.length by omega]
    exact hB
  have hsub : (u1 ++ ((s1 ++ s2) ++ u2)).Sublist (u1 ++ (s1 ++ (o :: (sub ++ (s2 ++ u2))))) := by
    rw [heq, ← heq3]
    exact List.Sublist.append_left (List.sublist_append_right _ _) _
  obtain ⟨D', N, N', h1, h2, h3, h4⟩ := del_loop co (fo_app f1 f2) (gd_sub hsub hG) hU1 (Nat.le_trans hsub.length_le hl)
  refine ⟨D', h1, h2.trans hsub, fun post S hS hp => ?_, fun post S d hS hp => ?_⟩
  · unfold r_delete
    rw [ix7 (by omega), (rd_at hS hko).2.2.2.1]
    refine ⟨vi7 (by omega), behind_ok hS hG hU hB hko ?_⟩
    refine takeOut_app (a := u1 ++ s1) (b := o :: sub) (c := s2 ++ u2) (heq ▸ hS) (by rw [← heq]; omega) (by rw [List.length_append]) (by rw [List.length_append, List.length_cons]; omega) (fun S3 hR3 hF3 => ⟨N, ?_⟩)
    rw [heq3] at hR3
    exact h3 post S3 hR3 (fun S' a b => hp S' a (hF3.tr b))
  · unfold cw_delete
    rw [nI_clamp (by omega), (hS.2.1 o (at_mem hko)).2.2.1]
    refine ⟨q_in (by omega) (by omega), place_ok hS.1 hG hl hko (end_ok hS.1 hS.2.1 hG hU hl hB hko ?_)⟩
    refine remove_ok (A := u1 ++ s1) (B := o :: sub) (C := s2 ++ u2) (heq ▸ hS) (heq ▸ hG) (by rw [← heq]; omega) (by rw [List.length_append]) (by rw [List.length_append, List.length_cons]; omega) (fun S3 hR3 hF3 => ⟨N', ?_⟩)
    rw [heq3] at hR3
    exact h4 post S3 d 0 hR3 (by omega) (fun S' a b => hp S' a (hF3.tr b))
