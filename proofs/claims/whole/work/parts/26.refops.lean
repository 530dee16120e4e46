/-- the block of the group that stands around -/
theorem blk_home {g : Ob} {v1 l1 l2 v2 M : List Ob} (hG : Gd (v1 ++ (l1 ++ (g :: (M ++ (l2 ++ v2)))))) (co : Co g.p v1 v2) (f1 : Fo g.p l1) (f2 : Fo g.p l2) (hM : Fo (some g.nm) M) : Blk (v1 ++ (l1 ++ (g :: (M ++ (l2 ++ v2))))) (v1.length + l1.length) (v1.length + l1.length + 1 + M.length) := blk_co hG co f1 f2 hM
theorem bl_fo {o : Ob} {s : List Ob} (h : Bl o s) : Fo (some o.nm) s := by
  rcases h with ⟨-, rfl⟩ | ⟨-, -, h⟩
  · exact Fo.nil
  · exact h
theorem raise_ok {post : Mem → Prop} {S : Mem} {u1 s1 sub s2 u2 : List Ob} {o : Ob} (hR : RD S (u1 ++ (s1 ++ (o :: (sub ++ (s2 ++ u2)))))) (hG : Gd (u1 ++ (s1 ++ (o :: (sub ++ (s2 ++ u2)))))) (hU : Up (u1 ++ (s1 ++ (o :: (sub ++ (s2 ++ u2)))))) (co : Co o.p u1 u2) (f1 : Fo o.p s1) (f2 : Fo o.p s2) (bl : Bl o sub) {k : Nat} (hk : k = u1.length + s1.length) {b : Int32} (hp0 : b = 0 → ∀ S', RD S' (u1 ++ ((o :: sub) ++ (s1 ++ (s2 ++ u2)))) → Fq t2 S S' → post S') (hp1 : ¬ b = 0 → ∀ S', RD S' (u1 ++ (s1 ++ (s2 ++ ((o :: sub) ++ u2)))) → Fq t2 S S' → post S') : r_raise post S (nI k) b := by
  subst hk
  have hB := blk_co hG co f1 f2 (bl_fo bl)
  have hl := hG.2.1
  have hlen : (u1 ++ (s1 ++ (o :: (sub ++ (s2 ++ u2))))).length = u1.length + (s1.length + (sub.length + (s2.length + u2.length) + 1)) := by simp only [List.length_append, List.length_cons]
  have hko : (u1 ++ (s1 ++ (o :: (sub ++ (s2 ++ u2)))))[u1.length + s1.length]? = some o := by
    rw [← List.append_assoc, ← List.length_append]; exact at_app
  have hr := rd_at hR hko
  have heq : u1 ++ (s1 ++ (o :: (sub ++ (s2 ++ u2)))) = (u1 ++ s1) ++ ((o :: sub) ++ (s2 ++ u2)) := by simp
  have hU1 : Up ((u1 ++ s1) ++ (s2 ++ u2)) := by
    refine up_rm (b := o :: sub) (heq ▸ hU) ?_
    rw [← heq, List.length_append, List.length_cons, show u1.length + s1.length + (sub.length + 1) = u1.length + s1.length + 1 + sub.length by omega]
    exact hB
  have hG1 : Gd ((u1 ++ s1) ++ (s2 ++ u2)) := gd_sub (by rw [heq]; exact List.Sublist.append_left (List.sublist_append_right _ _) _) hG
  unfold r_raise
  rw [ix7 (by omega), hr.2.2.2.1]
  refine ⟨vi7 (by omega), behind_ok hR hG hU hB hko ?_⟩
  rw [q_sub (by omega), q_add]
  refine lift_app (heq ▸ hR) (by rw [← heq]; omega) (by rw [List.length_append]) (by simp only [List.length_append, List.length_cons]; omega) (fun S2 hR2 hm hF2 => ?_)
  have hmany : u1.length + s1.length + 1 + sub.length - (u1.length + s1.length) = (o :: sub).length := by rw [List.length_cons]; omega
  rw [hmany]
  rcases co_inv co with ⟨hq, hu1, hu2⟩ | ⟨g, v1, l1, l2, v2, hq, hu1, hu2, hgf, hgc, hg1, hg2⟩
  · subst hu1 hu2
    rw [hq]
    refine ⟨fun h => absurd h (by decide), fun _ => ?_⟩
    unfold r_raise_J39 r_raise_J70
    refine ⟨fun hb => ?_, fun hb => ⟨fun h => absurd h (by decide), fun _ => ?_⟩⟩
    · rw [show (-1 : Int32) + 1 = nI 0 from rfl]
      refine lay_app (a := []) (c := s1 ++ s2) (by simpa using hR2) (by simp only [List.length_append, List.length_cons, List.length_nil] at hl ⊢; omega) rfl rfl hm (fun S' h1 h2 => hp0 hb S' ?_ (hF2.tr (h2.mono t1_2)))
      simpa using h1
    · rw [hR2.1]
      refine lay_app (a := s1 ++ s2) (c := []) (by simpa using hR2) (by simp only [List.length_append, List.length_cons, List.length_nil] at hl ⊢; omega) (by simp) rfl hm (fun S' h1 h2 => hp1 hb S' ?_ (hF2.tr (h2.mono t1_2)))
      simpa using h1
  · subst hu1 hu2
    have hgat : (((v1 ++ (l1 ++ [g])) ++ s1) ++ (s2 ++ (l2 ++ v2)))[v1.length + l1.length]? = some g := by
      rw [show ((v1 ++ (l1 ++ [g])) ++ s1) ++ (s2 ++ (l2 ++ v2)) = (v1 ++ l1) ++ g :: (s1 ++ (s2 ++ (l2 ++ v2))) by simp, ← List.length_append]
      exact at_app
    have hgn := hG1.2.2 _ _ hgat
    rw [hq]
    refine ⟨fun _ => ?_, fun h => absurd (q_ge0 (a := g.nm) (by omega)) h⟩
    refine find_some hR2 hG1 hgat ?_
    unfold r_raise_J39 r_raise_J70
    have hu : (v1 ++ (l1 ++ [g])).length = v1.length + l1.length + 1 := by simp only [List.length_append, List.length_cons, List.length_nil]; omega
    refine ⟨fun hb => ?_, fun hb => ⟨fun _ => ?_, fun h => absurd (q_ge0 (a := g.nm) (by omega)) h⟩⟩
    · rw [q_1]
      refine lay_app (a := v1 ++ (l1 ++ [g])) (c := s1 ++ (s2 ++ (l2 ++ v2))) (by simpa using hR2) (by simp only [List.length_append, List.length_cons, List.length_nil] at hl ⊢; omega) hu.symm rfl hm (fun S' h1 h2 => hp0 hb S' h1 (hF2.tr (h2.mono t1_2)))
    · have heq2 : ((v1 ++ (l1 ++ [g])) ++ s1) ++ (s2 ++ (l2 ++ v2)) = v1 ++ (l1 ++ (g :: ((s1 ++ s2) ++ (l2 ++ v2)))) := by simp
      have hBg := blk_home (M := s1 ++ s2) (heq2 ▸ hG1) hgc hg1 hg2 (hq ▸ fo_app f1 f2)
      rw [← heq2] at hBg
      refine behind_ok hR2 hG1 hU1 hBg hgat ?_
      refine lay_app (a := (v1 ++ (l1 ++ [g])) ++ (s1 ++ s2)) (c := l2 ++ v2) (by simpa using hR2) (by simp only [List.length_append, List.length_cons, List.length_nil] at hl ⊢; omega) (by simp only [List.length_append, List.length_cons, List.length_nil]; omega) rfl hm (fun S' h1 h2 => hp1 hb S' ?_ (hF2.tr (h2.mono t1_2)))
      simpa using h1
/-- the group that is made around two -/
def grp (n : Nat) : Ob := mkOb n 3 0 0 0 0 (-1) none
/-- a row is made for a new group -/
theorem newGroup_ok {post : Mem → Prop} {S : Mem} {x y : List Ob} {n k : Nat} (hR : RD S (x ++ y)) (hl : (x ++ y).length ≤ 13) (hk : k = x.length) (hp : ∀ S', RD S' (x ++ (grp n :: y)) → Fq t1 S S' → post S') : r_makeRoom (fun S6 => vp_in ((8 * nI k) + 0) 112 ∧ ∀ S7, S7 = up2 S6 154 ((8 * nI k) + 0).toNatClampNeg (nI n) → vp_in ((8 * nI k) + 1) 112 ∧ ∀ S8, S8 = up2 S7 154 ((8 * nI k) + 1).toNatClampNeg 3 → vp_in ((8 * nI k) + 2) 112 ∧ ∀ S9, S9 = up2 S8 154 ((8 * nI k) + 2).toNatClampNeg 0 → vp_in ((8 * nI k) + 3) 112 ∧ ∀ S10, S10 = up2 S9 154 ((8 * nI k) + 3).toNatClampNeg 0 → vp_in ((8 * nI k) + 4) 112 ∧ ∀ S11, S11 = up2 S10 154 ((8 * nI k) + 4).toNatClampNeg 0 → vp_in ((8 * nI k) + 5) 112 ∧ ∀ S12, S12 = up2 S11 154 ((8 * nI k) + 5).toNatClampNeg 0 → vp_in ((8 * nI k) + 6) 112 ∧ ∀ S13, S13 = up2 S12 154 ((8 * nI k) + 6).toNatClampNeg (-1) → vp_in ((8 * nI k) + 7) 112 ∧ ∀ S14, S14 = up2 S13 154 (8 * k + 7) (-1) → post S14) S (nI k) 1 := by
  subst hk
  have hlen : (x ++ y).length = x.length + y.length := List.length_append
  refine makeRoom_ok (many := 1) hR (by omega) (by omega) (fun S6 g1 g2 g3 hF6 => ?_)
  rw [ix0 (by omega), ix1 (by omega), ix2 (by omega), ix3 (by omega), ix4 (by omega), ix5 (by omega), ix6 (by omega)]
  refine ⟨vi0 (by omega), fun S7 h7 => ⟨vi1 (by omega), fun S8 h8 => ⟨vi2 (by omega), fun S9 h9 => ⟨vi3 (by omega), fun S10 h10 => ⟨vi4 (by omega), fun S11 h11 => ⟨vi5 (by omega), fun S12 h12 => ⟨vi6 (by omega), fun S13 h13 => ⟨vi7 (by omega), fun S14 h14 => ?_⟩⟩⟩⟩⟩⟩⟩⟩
  have hF : Fq t1 S S14 := by
    rw [h14, h13, h12, h11, h10, h9, h8, h7]
    exact (((((((hF6.tr (fq_up (Or.inl rfl))).tr (fq_up (Or.inl rfl))).tr (fq_up (Or.inl rfl))).tr (fq_up (Or.inl rfl))).tr (fq_up (Or.inl rfl))).tr (fq_up (Or.inl rfl))).tr (fq_up (Or.inl rfl))).tr (fq_up (Or.inl rfl))
  refine hp S14 ⟨?_, fun i z hz => ?_⟩ hF
  · rw [h14, up_at, if_neg (by omega), h13, up_at, if_neg (by omega), h12, up_at, if_neg (by omega), h11, up_at, if_neg (by omega), h10, up_at, if_neg (by omega), h9, up_at, if_neg (by omega), h8, up_at, if_neg (by omega), h7, up_at, if_neg (by omega), g1]
    congr 1
    simp only [List.length_append, List.length_cons]
    omega
  · by_cases hi : i = x.length
    · subst hi
      rw [at_app] at hz
      cases Option.some.inj hz
      refine ⟨?_, ?_, ?_, ?_, fun h => absurd rfl h⟩
      · rw [h14, up_at, if_neg (by omega), h13, up_at, if_neg (by omega), h12, up_at, if_neg (by omega), h11, up_at, if_neg (by omega), h10, up_at, if_neg (by omega), h9, up_at, if_neg (by omega), h8, up_at, if_neg (by omega), h7, up_at, if_pos ⟨rfl, rfl⟩]; rfl
      · rw [h14, up_at, if_neg (by omega), h13, up_at, if_neg (by omega), h12, up_at, if_neg (by omega), h11, up_at, if_neg (by omega), h10, up_at, if_neg (by omega), h9, up_at, if_neg (by omega), h8, up_at, if_pos ⟨rfl, rfl⟩]; rfl
      · rw [h14, up_at, if_neg (by omega), h13, up_at, if_pos ⟨rfl, rfl⟩]; rfl
      · rw [h14, up_at, if_pos ⟨rfl, rfl⟩]; rfl
    · have hrow : Rw 154 S6 i z := by
        rcases Nat.lt_or_ge i x.length with hlt | hge
        · refine g2 i z ?_ hlt
          rw [List.getElem?_append_left hlt] at hz ⊢; exact hz
        · have h3 := g3 (i - 1) z ?_ (by omega)
          · rwa [show i - 1 + 1 = i by omega] at h3
          · rw [List.getElem?_append_right (by omega)] at hz ⊢
            obtain ⟨j, hj⟩ : ∃ j, i - x.length = j + 1 := ⟨i - x.length - 1, by omega⟩
            rw [hj, List.getElem?_cons_succ] at hz
            rw [show i - 1 - x.length = j by omega]
            exact hz
      refine rw_of hrow (fun c hc => ?_)
      rw [h14, up_at, if_neg (by omega), h13, up_at, if_neg (by omega), h12, up_at, if_neg (by omega), h11, up_at, if_neg (by omega), h10, up_at, if_neg (by omega), h9, up_at, if_neg (by omega), h8, up_at, if_neg (by omega), h7, up_at, if_neg (by omega)]
theorem group_ok {post : Mem → Prop} {S : Mem} {s1 A s2 B s3 : List Ob} {a b : Ob} (hR : RD S (s1 ++ ((a :: A) ++ (s2 ++ ((b :: B) ++ s3))))) (hG : Gd (s1 ++ ((a :: A) ++ (s2 ++ ((b :: B) ++ s3))))) (hU : Up (s1 ++ ((a :: A) ++ (s2 ++ ((b :: B) ++ s3))))) (hl : (s1 ++ ((a :: A) ++ (s2 ++ ((b :: B) ++ s3)))).length ≤ 12) (hB : Blk (s1 ++ ((a :: A) ++ (s2 ++ ((b :: B) ++ s3)))) s1.length (s1.length + 1 + A.length)) {n : Nat} {l2 l3 : Int32} (h2 : (if l3 ≤ l2 then l3 else l2 : Int32) = nI s1.length) (h3 : (if l3 ≤ l2 then l2 else l3 : Int32) = nI (s1.length + 1 + A.length + s2.length)) (hp : ∀ S', RD S' ((s1 ++ s2) ++ (grp n :: (setp (some n) a :: (A ++ (setp (some n) b :: (B ++ s3)))))) → Fq t2 S S' → post S') : r_group post S (nI n) l2 l3 := by
  have hlen : (s1 ++ ((a :: A) ++ (s2 ++ ((b :: B) ++ s3)))).length = s1.length + (A.length + 1 + (s2.length + (B.length + 1 + s3.length))) := by simp only [List.length_append, List.length_cons]
  have hka : (s1 ++ ((a :: A) ++ (s2 ++ ((b :: B) ++ s3))))[s1.length]? = some a := by rw [List.cons_append]; exact at_app
  unfold r_group
  rw [h2, h3]
  refine behind_ok hR hG hU hB hka ?_
  rw [q_sub (show s1.length ≤ s1.length + 1 + A.length by omega), show s1.length + 1 + A.length - s1.length = 1 + A.length by omega, q_add, q_sub (show 1 + A.length ≤ s1.length + 1 + A.length + s2.length by omega), show s1.length + 1 + A.length + s2.length - (1 + A.length) = s1.length + s2.length by omega]
  refine lift_app hR (by omega) rfl (by rw [List.length_cons]; omega) (fun S2 hR2 hm hF2 => ?_)
  refine lay_app (a := s1 ++ s2) (b := a :: A) (c := (b :: B) ++ s3) (by simpa using hR2) (by simp only [List.length_append, List.length_cons] at hl ⊢; omega) (by simp) (by rw [List.length_cons]; omega) hm (fun S3 hR3 hF3 => ?_)
  rw [q_add, ix7 (by omega), ix7 (by omega)]
  refine ⟨vi7 (by omega), fun S4 h4 => ⟨vi7 (by omega), fun S5 h5 => ?_⟩⟩
  have hR4 : RD S4 ((s1 ++ s2) ++ (setp (some n) a :: (A ++ ((b :: B) ++ s3)))) := by
    rw [h4, ← List.length_append]
    exact rd_put (x := s1 ++ s2) (by simpa using hR3) (some n)
  have hR5 : RD S5 ((s1 ++ s2) ++ (setp (some n) a :: (A ++ (setp (some n) b :: (B ++ s3))))) := by
    have h6 := rd_put (S := S4) (x := (s1 ++ s2) ++ (setp (some n) a :: A)) (y := B ++ s3) (o := b) (by simpa using hR4) (some n)
    rw [show ((s1 ++ s2) ++ (setp (some n) a :: A)).length = s1.length + s2.length + (1 + A.length) by simp only [List.length_append, List.length_cons]; omega] at h6
    rw [h5]
    show RD (up2 S4 154 _ (pI (some n))) _
    simpa using h6
  refine newGroup_ok (k := s1.length + s2.length) hR5 (by simp only [List.length_append, List.length_cons] at hl ⊢; omega) (by simp) (fun S' h1 hF' => hp S' h1 ?_)
  refine hF2.tr ((hF3.mono t1_2).tr (Fq.tr ?_ (hF'.mono t1_2)))
  rw [h5, h4]
  exact (fq_up (Or.inl rfl)).tr (fq_up (Or.inl rfl))
def alx (s bx ax r2 r1 : Int32) : Int32 := if s = 0 then bx - ax else (if s = 2 then r2 - r1 else 0)
theorem align_ok {post : Mem → Prop} {S : Mem} {D : List Ob} (hR : RD S D) (hG : Gd D) (hU : Up D) {k e j f : Nat} {a b : Ob} (hk : D[k]? = some a) (hBk : Blk D k e) (hj : D[j]? = some b) (hBj : Blk D j f) {s : Int32} (hp : ∀ S', RD S' (mp D k e (shf (if s = 0 then lo (seg D j f) Ob.l 100000 - lo (seg D k e) Ob.l 100000 else (if s = 2 then hi (seg D j f) (fun o => o.l + o.w) (-100000) - hi (seg D k e) (fun o => o.l + o.w) (-100000) else 0)) (if s = 1 then lo (seg D j f) Ob.t 100000 - lo (seg D k e) Ob.t 100000 else (if s = 3 then hi (seg D j f) (fun o => o.t + o.h) (-100000) - hi (seg D k e) (fun o => o.t + o.h) (-100000) else 0)))) → Fq tAc S S' → post S') : r_align post S (nI k) (nI j) s := by
  have hl := hG.2.1
  refine behind_ok hR hG hU hBj hj ?_
  refine findBox_ok hR hl (Nat.le_of_lt hBj.1) hBj.2.1 (fun S2 hF2 a12 a13 a14 a15 => ?_)
  have hR2 := rd_fq3 hR hF2
  refine behind_ok hR2 hG hU hBk hk ?_
  refine findBox_ok hR2 hl (Nat.le_of_lt hBk.1) hBk.2.1 (fun S4 hF4 b12 b13 b14 b15 => ?_)
  have hR4 := rd_fq3 hR2 hF4
  refine behind_ok hR4 hG hU hBk hk ?_
  rw [a12, a13, a14, a15, b12, b13, b14, b15]
  exact shift_ok hR4 hl (Nat.le_of_lt hBk.1) hBk.2.1 (fun S' h1 h2 => hp S' h1 ((hF2.mono t3_Ac).tr ((hF4.mono t3_Ac).tr (h2.mono t1_Ac))))
