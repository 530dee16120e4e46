def PQ (J : Nat → Nat → Int64) (v b : Int32) (S2 : Mem) : Prop := S2 148 0 = 0 ∧ ((0 : Int32) = 0 → up2 J 158 0 v.toInt64 158 0 = b.toInt64) ∧ Inv S2
theorem ok_object : OK_object Inv := by
  intro S J a1 a2 hI
  have hI' := hI
  obtain ⟨X, dn, kn, E, St, f, Ds, ef, Dt, hch, hb, hic, hir⟩ := hI
  have hW := bse_wf hb
  have hl := hW.2.2.1
  have hC := hic.2.2.1
  have hR : RD (up2 S 148 0 0) (Ds X.n) := rd_up hir.2.2.1 (by decide) (by omega)
  have hbad : (if a1 < 0 then 1 else (if (S 148 7) ≤ a1 then 1 else (if a2 < 0 then 1 else (if 8 ≤ a2 then 1 else 0 : Int32) : Int32) : Int32) : Int32) = 1 → RC_object Inv a1 a2 1 S J := by
    intro hv S1 e1
    rw [hv] at e1
    subst e1
    rw [up_self]
    exact ⟨fun h => absurd h one_le0, fun _ => pex (up_self _ _ _ _) (by decide) (inv_thr hI')⟩
  have hsz : S 148 7 = S 87 2 := hir.2.2.1.1.trans hC.1.1.symm
  unfold cd_object cd_object_J28
  refine ⟨fun h1 => ⟨rfl, hbad (by rw [if_pos h1])⟩, fun h1 => ⟨fun h2 => ⟨rfl, hbad (by rw [if_neg h1, hsz, if_pos h2])⟩, fun h2 => ⟨fun h3 => ⟨rfl, hbad (by rw [if_neg h1, hsz, if_neg h2, if_pos h3])⟩, fun h3 => ⟨fun h4 => ?_, fun h4 => ⟨rfl, hbad (by rw [if_neg h1, hsz, if_neg h2, if_neg h3, if_pos]; rw [Int32.le_iff_toInt_le, show (7 : Int32).toInt = 7 by decide] at h4; rw [Int32.le_iff_toInt_le, show (8 : Int32).toInt = 8 by decide]; omega)⟩⟩⟩⟩⟩
  have h4' := h4
  rw [Int32.le_iff_toInt_le, show (7 : Int32).toInt = 7 by decide] at h4'
  have hthr : (if a1 < 0 then 1 else (if (S 148 7) ≤ a1 then 1 else (if a2 < 0 then 1 else (if 8 ≤ a2 then 1 else 0 : Int32) : Int32) : Int32) : Int32) = 0 := by
    rw [if_neg h1, hsz, if_neg h2, if_neg h3, if_neg (by rw [Int32.le_iff_toInt_le, show (8 : Int32).toInt = 8 by decide]; omega)]
  obtain ⟨k, hk, rfl⟩ := idx (n := (Ds X.n).length) (by omega) h1 (by
    rw [hC.1.1, Int32.le_iff_toInt_le] at h2
    rw [Int32.lt_iff_toInt_lt]
    omega)
  obtain ⟨j, hj, rfl⟩ := idx (n := 8) (by omega) h3 (by
    rw [Int32.lt_iff_toInt_lt]
    show _ < (8 : Int32).toInt
    rw [show (8 : Int32).toInt = 8 by decide]
    omega)
  obtain ⟨o, ho⟩ := at_some hk
  have hno := gd_lt hW.2.1 (at_mem ho)
  obtain ⟨e, hB, hsh, hwf, hs1⟩ := obj_seg hW ho
  have hod : S 113 k = nI o.nm := hC.1.2 k o ho
  rw [nI_clamp (by omega), hod]
  refine ⟨q_in (by omega) (by omega), ?_⟩
  have fin : ∀ (v : Int32) (S' : Mem), Fq t3 (up2 S 148 0 0) S' → PQ J v v S' := by
    intro v S' hF
    refine pst ((hF _ _ (by unfold t3; omega)).trans (up_self _ _ _ _)) rfl (inv_fq (inv_thr (v := 0) hI') (fun a i q => hF a i ?_))
    unfold tIC tIR at q
    unfold t3
    omega
  have go : ∀ v : Int32, ((vp_in ((8 * nI k) + 1) 112) ∧ ((((up2 S 148 0 0) 154 ((8 * nI k) + 1).toNatClampNeg) = 3) → r_behind (fun r1 S2 => r_findBox (fun S3 => ((nI j) = 2 → PQ J v (S3 148 12) S3) ∧ ((nI j) = 3 → PQ J v (S3 148 13) S3) ∧ ((nI j) = 4 → PQ J v ((S3 148 14) - (S3 148 12)) S3) ∧ ((nI j) = 5 → PQ J v ((S3 148 15) - (S3 148 13)) S3) ∧ ((nI j) = 6 → PQ J v (-1) S3) ∧ (((nI j).toInt < 2 ∨ 6 < (nI j).toInt) → (vp_in ((8 * nI k) + nI j) 112) ∧ PQ J v (S3 154 ((8 * nI k) + nI j).toNatClampNeg) S3)) S2 (nI k) r1) (up2 S 148 0 0) (nI k)) ∧ ((¬ ((up2 S 148 0 0) 154 ((8 * nI k) + 1).toNatClampNeg) = 3) → (vp_in ((8 * nI k) + nI j) 112) ∧ PQ J v ((up2 S 148 0 0) 154 ((8 * nI k) + nI j).toNatClampNeg) (up2 S 148 0 0))) → RC_object Inv (nI k) (nI j) 0 S (up2 J 158 0 v.toInt64) := by
    intro v h S1 e1
    rw [hthr] at e1
    subst e1
    rw [up_self]
    exact ⟨fun _ => h, fun h => absurd z_le0 h⟩
  rcases (show j = 0 ∨ j = 1 ∨ j = 2 ∨ j = 3 ∨ j = 4 ∨ j = 5 ∨ j = 6 ∨ j = 7 by omega) with rfl | rfl | rfl | rfl | rfl | rfl | rfl | rfl
  · exact ctell_0 hC hW ho hB hsh hwf (go _ (robj_0 (post := PQ J _) hR hW ho hB hs1 (fun S' hF => fin _ S' hF)))
  · exact ctell_1 hC hW ho hB hsh hwf (go _ (robj_1 (post := PQ J _) hR hW ho hB hs1 (fun S' hF => fin _ S' hF)))
  · exact ctell_2 hC hW ho hB hsh hwf (go _ (robj_2 (post := PQ J _) hR hW ho hB hs1 (fun S' hF => fin _ S' hF)))
  · exact ctell_3 hC hW ho hB hsh hwf (go _ (robj_3 (post := PQ J _) hR hW ho hB hs1 (fun S' hF => fin _ S' hF)))
  · exact ctell_4 hC hW ho hB hsh hwf (go _ (robj_4 (post := PQ J _) hR hW ho hB hs1 (fun S' hF => fin _ S' hF)))
  · exact ctell_5 hC hW ho hB hsh hwf (go _ (robj_5 (post := PQ J _) hR hW ho hB hs1 (fun S' hF => fin _ S' hF)))
  · exact ctell_6 hC hW ho hB hsh hwf (go _ (robj_6 (post := PQ J _) hR hW ho hB hs1 (fun S' hF => fin _ S' hF)))
  · exact ctell_7 hC hW ho hB hsh hwf (go _ (robj_7 (post := PQ J _) hR hW ho hB hs1 (fun S' hF => fin _ S' hF)))
theorem go_x {post : Mem → Prop} {S : Mem} {X : Xs} {on : Nat → Prop} {Ds : Nat → List Ob} {ef : Nat → Int32} {sw : Int32} (hM : MR S X) (h24 : X.n ≤ 24) (hS : Seq X.a on X.n Ds ef) (hon : ∀ i, i < X.n → (on i ↔ X.w i = (if nI i = sw then 1 else 0 : Int32))) (hp : ∀ S', RD S' (Ds X.n) → (∀ i, i < X.n → S' 152 i = ef i) → Fq tGo S S' → post S') : r_goThrough post S sw :=
  go_ok hS h24 hM.1 (fun i hi => (hM.2 i (by omega)).1) (fun i hi => by rw [(hM.2 i (by omega)).2]; exact hon i hi) hp
theorem on_base {X : Xs} (h24 : X.n ≤ 24) : ∀ i, i < X.n → (X.w i = 0 ↔ X.w i = (if nI i = -1 then 1 else 0 : Int32)) := by
  intro i hi
  rw [if_neg (q_neg (by omega))]
def onS (X : Xs) (m i : Nat) : Prop := X.w i = (if i = m then 1 else 0 : Int32)
theorem on_sw {X : Xs} (h24 : X.n ≤ 24) {m : Nat} (hm : m < 24) : ∀ i, i < X.n → (onS X m i ↔ X.w i = (if nI i = nI m then 1 else 0 : Int32)) := by
  intro i hi
  unfold onS
  by_cases h : i = m
  · rw [if_pos h, if_pos (by rw [h])]
  · rw [if_neg h, if_neg (by rw [q_eq (by omega) (by omega)]; exact h)]
theorem play_x {post : Mem → Prop} {S : Mem} {k : Nat} {X : Xs} {on : Nat → Prop} {m : Nat} {Ds : Nat → List Ob} {ef : Nat → Int32} {sw : Int32} {D0 : List Ob} (hM : MC S X) (h24 : m ≤ 24) (hS : Seq X.a on m Ds ef) (hk : 51 ≤ k) (hC : CD S (k + 1) D0) (hG : Gd D0) (hl : D0.length ≤ 12) (hon : ∀ i, i < m → (on i ↔ X.w i = (if nI i = sw then 1 else 0 : Int32))) (hp : ∀ S', CD S' (k + 1) (Ds m) → (∀ i, i < m → S' (k + 29) i = ef i) → (∀ i, i < 24 → S' (k + 30) i = S (k + 29) i) → Fq (tPl k) S S' → post S') : co_play post S k 1 (nI m) sw :=
  play_ok (l1 := 1) hS h24 (by omega) hC hG hl (fun i hi => (hM.2 i (by omega)).1) (fun i hi => by
    have := (hM.2 i (by omega)).2
    show on i ↔ S (2 + 2 * i) 1 = _
    rw [this]; exact hon i hi) hp
def t153 (a _i : Nat) : Prop := a = 153
theorem remember_ok {post : Mem → Prop} {S : Mem} {n : Nat} (hn : S 148 1 = nI n) (h24 : n ≤ 24) (hp : ∀ S', (∀ i, i < n → S' 153 i = S 152 i) → Fq t153 S S' → post S') : r_remember post S := by
  have key : ∀ (m i : Nat) (S1 : Mem), i + m = n → (∀ j, j < i → S1 153 j = S 152 j) → Fq t153 S S1 → r_remember_L2 post (m + 1) S1 (nI i) := by
    intro m
    induction m with
    | zero =>
      intro i S1 hi he hF
      have : i = n := by omega
      subst this
      unfold r_remember_L2
      rw [hF 148 1 (by unfold t153; omega), hn]
      exact ⟨fun _ => hp S1 he hF, fun h => absurd (Int32.le_refl _) h⟩
    | succ m ih =>
      intro i S1 hi he hF
      unfold r_remember_L2
      rw [hF 148 1 (by unfold t153; omega), hn, q_le (by omega) (by omega), nI_clamp (show i < 2 ^ 31 by omega), q_1]
      refine ⟨fun h => absurd h (by omega), fun _ => ⟨q_in (by omega) (by omega), q_in (by omega) (by omega), fun S2 h2 => ?_⟩⟩
      refine ih (i + 1) S2 (by omega) (fun j hj => ?_) (hF.tr (h2 ▸ fq_up rfl))
      rw [h2, up_at]
      by_cases hji : j = i
      · rw [if_pos ⟨rfl, hji⟩, hji]
        exact hF 152 i (by unfold t153; omega)
      · rw [if_neg (by omega)]
        exact he j (by omega)
  exact ⟨n + 1, key n 0 S (by omega) (fun j hj => absurd hj (by omega)) Fq.rf⟩
/-- the k-th of those that P holds of -/
noncomputable def sel (P : Nat → Prop) (k : Int32) : Nat → Nat → Nat → Int32
  | 0, _, _ => -1
  | r + 1, i, c => @ite _ (P i) (Classical.propDecidable _) (if nI c = k then nI i else sel P k r (i + 1) (c + 1)) (sel P k r (i + 1) c)
theorem cneed_loop {post : Int32 → Mem → Prop} {ex : Nat → Mem → Prop} {S : Mem} {n : Nat} {P : Nat → Prop} {k : Int32} (hn : S 0 5 = nI n) (h24 : n ≤ 24) (hP : ∀ i, i < n → (P i ↔ ¬ S 146 i = S 115 i)) : ∀ (r i c : Nat), i + r = n → post (sel P k r i c) S → cd_needed_L28 post ex (r + 1) S k (nI c) (nI i) := by
  intro r
  induction r with
  | zero =>
    intro i c hi hq
    have : i = n := by omega
    subst this
    unfold cd_needed_L28
    rw [hn]
    exact ⟨fun _ => hq, fun h => absurd (Int32.le_refl _) h⟩
  | succ r ih =>
    intro i c hi hq
    unfold sel at hq
    have hPi := hP i (by omega)
    unfold cd_needed_L28
    rw [hn, q_le (by omega) (by omega), nI_clamp (show i < 2 ^ 31 by omega), q_1, q_1]
    refine ⟨fun h => absurd h (by omega), fun _ => ⟨q_in (by omega) (by omega), q_in (by omega) (by omega), fun he => ?_, fun hne => ⟨fun h1 => ?_, fun h1 => ?_⟩⟩⟩
    · rw [if_neg (fun q => hPi.mp q he)] at hq
      exact ih (i + 1) c (by omega) hq
    · rw [if_pos (hPi.mpr hne), if_neg h1] at hq
      exact ih (i + 1) (c + 1) (by omega) hq
    · rw [if_pos (hPi.mpr hne), if_pos h1] at hq
      exact hq
theorem rneed_loop {post : Int32 → Mem → Prop} {S : Mem} {n : Nat} {P : Nat → Prop} {k : Int32} (hn : S 148 1 = nI n) (h24 : n ≤ 24) (hP : ∀ i, i < n → (P i ↔ ¬ S 152 i = S 153 i)) : ∀ (r i c : Nat), i + r = n → r_needed_J97 post S (sel P k r i c) → r_needed_L45 post (r + 1) S (k - nI c) (-1) (nI i) := by
  intro r
  induction r with
  | zero =>
    intro i c hi hq
    have : i = n := by omega
    subst this
    unfold r_needed_L45
    rw [hn]
    exact ⟨fun _ => hq, fun h => absurd (Int32.le_refl _) h⟩
  | succ r ih =>
    intro i c hi hq
    unfold sel at hq
    have hPi := hP i (by omega)
    have e1 : k - nI c + (-1) = k - nI (c + 1) := by rw [← Int32.sub_eq_add_neg, sub2, q_1]
    unfold r_needed_L45
    rw [hn, q_le (by omega) (by omega), nI_clamp (show i < 2 ^ 31 by omega), q_1, e1]
    refine ⟨fun h => absurd h (by omega), fun _ => ⟨fun h => absurd h (by decide), fun _ => ⟨q_in (by omega) (by omega), q_in (by omega) (by omega), fun he => ?_, fun hne => ?_⟩⟩⟩
    · rw [if_neg (fun q => hPi.mp q he)] at hq
      exact ih (i + 1) c (by omega) hq
    · rw [if_pos (hPi.mpr hne)] at hq
      by_cases h1 : nI c = k
      · rw [if_pos h1] at hq
        rw [if_pos (sub_0.mpr h1)]
        unfold r_needed_L45
        exact ⟨fun _ => hq, fun _ => ⟨fun _ => hq, fun h => absurd (q_ge0 (a := i) (by omega)) h⟩⟩
      · rw [if_neg h1] at hq
        rw [if_neg (fun q => h1 (sub_0.mp q))]
        exact ih (i + 1) (c + 1) (by omega) hq
theorem good_ex {X : Xs} (h : Good X) (on : Nat → Prop) : ∃ Ds ef, Seq X.a on X.n Ds ef := seq_ex on X.n h.1 h.2.1
theorem ok_needed : OK_needed Inv := by
  intro S J a1 a2 hI
  have hI' := hI
  obtain ⟨X, dn, kn, E, St, f, Ds, ef, Dt, hch, hb, hic, hir⟩ := hI
  have hX := hch.2.2.2.2
  have h24 := hX.1
  rcases idx_dec a1 (n := X.n) (by omega) with h | ⟨m, hm, rfl⟩
  · refine creq_no hic.2.1.1 h ⟨rfl, ?_⟩
    unfold RC_needed r_needed
    refine ract_no hir.2.1.1 h (fun S2 h2 => ?_)
    subst h2
    rw [if_pos rfl, up_self]
    exact ⟨fun h => absurd h one_le0, fun _ => pex (up_self _ _ _ _) (by decide) (inv_thr hI')⟩
  · obtain ⟨Dq, eq, hq⟩ := good_ex hX (onS X m)
    refine creq_yes hic.2.1.1 h24 hm ?_
    rw [hic.2.1.1]
    refine play_x (k := 117) hic.2.1 h24 hq (by omega) hic.2.2.2.2.1 hic.2.2.2.2.2.1 hic.2.2.2.2.2.2 (on_sw h24 (by omega)) (fun S1 hC1 he1 _ hF1 => ?_)
    have hWq := seq_wf hq X.n (Nat.le_refl _)
    have hic1 : IC S1 X f dn kn E Ds ef (Dq X.n) := by
      obtain ⟨i1, i2, i3, i4, i5, i6, i7⟩ := hic
      refine ⟨hc_fq i1 (fun a i q => hF1 _ _ (by unfold tPl; omega)), mc_fq i2 (hF1 _ _ (by unfold tPl; omega)) (fun a i q1 q2 => hF1 _ _ (by unfold tPl; omega)), cd_out i3 (bse_wf hb).2.1 (fun a i q1 q2 => hF1 _ _ (by unfold tPl; omega)), fun i hi => ?_, hC1, hWq.2.1, hWq.2.2.1⟩
      rw [hF1 _ _ (by unfold tPl; omega)]
      exact i4 i hi
    have hir1 : IR S1 X dn kn E Ds ef := ir_fq hir (fun a i q => hF1 _ _ (by unfold tIR at q; unfold tPl; omega))
    rw [q_1]
    refine ⟨X.n - (m + 1) + 1, cneed_loop (P := fun i => ¬ eq i = ef i) hic1.2.1.1 h24 (fun i hi => ?_) (X.n - (m + 1)) (m + 1) 0 (by omega) ?_⟩
    · rw [he1 i hi, hic1.2.2.2.1 i hi]
    · unfold RC_needed r_needed
      refine ract_yes hir1.2.1.1 h24 hm (fun S2 h2 => ?_)
      rw [if_neg (show ¬ (1 : Int32) = 0 by decide)] at h2
      have hic2 : IC S2 X f dn kn E Ds ef (Dq X.n) := ic_fq (bse_wf hb).2.1 hic1 (fun a i q => by rw [h2, up_at, if_neg]; rintro ⟨rfl, rfl⟩; unfold tIC at q; omega)
      have hir2 : IR S2 X dn kn E Ds ef := ir_fq hir1 (fun a i q => by rw [h2, up_at, if_neg]; rintro ⟨rfl, rfl⟩; unfold tIR at q; omega)
      have h20 : S2 148 0 = 0 := by rw [h2, up_self]
      rw [h20]
      refine ⟨fun _ => ?_, fun h => absurd z_le0 h⟩
      refine remember_ok hir2.2.1.1 h24 (fun S3 hb3 hF3 => ?_)
      have hM3 : MR S3 X := mr_fq hir2.2.1 (hF3 _ _ (by unfold t153; omega)) (fun a i q => hF3 _ _ (by unfold t153; omega))
      refine go_x hM3 h24 hq (on_sw h24 (by omega)) (fun S4 hR4 he4 hF4 => ?_)
      have hM4 : MR S4 X := mr_fq hM3 (hF4 _ _ (by unfold tGo; omega)) (fun a i q => hF4 _ _ (by unfold tGo; omega))
      rw [q_1]
      refine ⟨X.n - (m + 1) + 1, ?_⟩
      have hk0 : a2 = a2 - nI 0 := by rw [show nI 0 = 0 from rfl, Int32.sub_zero]
      rw [hk0]
      refine rneed_loop (P := fun i => ¬ eq i = ef i) hM4.1 h24 (fun i hi => ?_) (X.n - (m + 1)) (m + 1) 0 (by omega) ?_
      · rw [he4 i hi, hF4 _ _ (by unfold tGo; omega), hb3 i hi, hir2.2.2.2 i hi]
      · rw [← hk0]
        refine go_x hM4 h24 hb (on_base h24) (fun S5 hR5 he5 hF5 => ?_)
        have c0 : S5 148 0 = 0 := by rw [hF5 _ _ (by unfold tGo; omega), hF4 _ _ (by unfold tGo; omega), hF3 _ _ (by unfold t153; omega), h20]
        refine pst c0 rfl ⟨X, dn, kn, E, St, f, Ds, ef, Dq X.n, hch, hb, ?_, ?_⟩
        · refine ic_fq (bse_wf hb).2.1 hic2 (fun a i q => ?_)
          rw [hF5 _ _ (by unfold tIC at q; unfold tGo; omega), hF4 _ _ (by unfold tIC at q; unfold tGo; omega), hF3 _ _ (by unfold tIC at q; unfold t153; omega)]
        · refine ⟨hr_fq hir2.1 ?_ ?_ (fun i => ?_), mr_fq hM4 (hF5 _ _ (by unfold tGo; omega)) (fun a i q => hF5 _ _ (by unfold tGo; omega)), hR5, he5⟩
          · rw [hF5 _ _ (by unfold tGo; omega), hF4 _ _ (by unfold tGo; omega), hF3 _ _ (by unfold t153; omega)]
          · rw [hF5 _ _ (by unfold tGo; omega), hF4 _ _ (by unfold tGo; omega), hF3 _ _ (by unfold t153; omega)]
          · rw [hF5 _ _ (by unfold tGo; omega), hF4 _ _ (by unfold tGo; omega), hF3 _ _ (by unfold t153; omega)]
theorem cneeds_loop {post : Int32 → Mem → Prop} {ex : Nat → Mem → Prop} {S : Mem} {X : Xs} {m : Nat} {k : Int32} {Dq : Nat → Nat → List Ob} {eq : Nat → Nat → Int32} {ef : Nat → Int32} {V : Int32} (hM : MC S X) (h24 : X.n ≤ 24) (hm : m < X.n) (hq : ∀ i, Seq X.a (onS X i) X.n (Dq i) (eq i)) (hef : S 115 m = ef m) (hp : ∀ (S' : Mem) (D : List Ob), CD S' 118 D → Gd D → D.length ≤ 12 → Fq (tPl 117) S S' → post V S') : ∀ (r i c : Nat) (S1 : Mem) (D : List Ob), i + r = m → CD S1 118 D → Gd D → D.length ≤ 12 → Fq (tPl 117) S S1 → sel (fun i => ¬ eq i m = ef m) k r i c = V → cd_needs_L10 post ex (r + 1) S1 (nI m) k (nI c) (nI i) := by
  intro r
  induction r with
  | zero =>
    intro i c S1 D hi hC hG hl hF hs
    have : i = m := by omega
    subst this
    unfold cd_needs_L10
    have h0 : (-1 : Int32) = V := hs
    exact ⟨fun _ => h0 ▸ hp S1 D hC hG hl hF, fun h => absurd (Int32.le_refl _) h⟩
  | succ r ih =>
    intro i c S1 D hi hC hG hl hF hs
    unfold sel at hs
    have hM1 : MC S1 X := mc_fq hM (hF _ _ (by unfold tPl; omega)) (fun a i q1 q2 => hF _ _ (by unfold tPl; omega))
    unfold cd_needs_L10
    rw [q_le (by omega) (by omega), q_1, q_1, q_1]
    refine ⟨fun h => absurd h (by omega), fun _ => ?_⟩
    refine play_x (k := 117) hM1 (by omega) (seq_le (hq i) (show m + 1 ≤ X.n by omega)) (by omega) hC hG hl (fun j hj => on_sw h24 (by omega) j (by omega)) (fun S2 hC2 he2 _ hF2 => ?_)
    have hW2 := seq_wf (hq i) (m + 1) (by omega)
    have hF3 := hF.tr hF2
    have h146 : S2 146 m = eq i m := he2 m (by omega)
    have h115 : S2 115 m = ef m := (hF3 _ _ (by unfold tPl; omega)).trans hef
    rw [nI_clamp (show m < 2 ^ 31 by omega), h146, h115]
    refine ⟨q_in (by omega) (by omega), q_in (by omega) (by omega), fun he => ?_, fun hne => ⟨fun h1 => ?_, fun h1 => ?_⟩⟩
    · rw [if_neg (fun q => q he)] at hs
      exact ih (i + 1) c S2 _ (by omega) hC2 hW2.2.1 hW2.2.2.1 hF3 hs
    · rw [if_pos hne, if_neg h1] at hs
      exact ih (i + 1) (c + 1) S2 _ (by omega) hC2 hW2.2.1 hW2.2.2.1 hF3 hs
    · rw [if_pos hne, if_pos h1] at hs
      exact hs ▸ hp S2 _ hC2 hW2.2.1 hW2.2.2.1 hF3
theorem rneeds_loop {post : Int32 → Mem → Prop} {S : Mem} {X : Xs} {m : Nat} {k : Int32} {Dq : Nat → Nat → List Ob} {eq : Nat → Nat → Int32} {ef : Nat → Int32} {V : Int32} (hM : MR S X) (h24 : X.n ≤ 24) (hm : m < X.n) (hq : ∀ i, Seq X.a (onS X i) X.n (Dq i) (eq i)) (hp : ∀ (S' : Mem), Fq tGo S S' → r_needs_J91 post S' V) : ∀ (r i c : Nat) (S1 : Mem), i + r = m → Fq tGo S S1 → sel (fun i => ¬ eq i m = ef m) k r i c = V → r_needs_L42 post (r + 1) S1 (nI m) (ef m) (k - nI c) (-1) (nI i) := by
  intro r
  induction r with
  | zero =>
    intro i c S1 hi hF hs
    have : i = m := by omega
    subst this
    unfold r_needs_L42
    have h0 : (-1 : Int32) = V := hs
    refine ⟨fun _ => ?_, fun h => absurd (Int32.le_refl _) h⟩
    rw [h0]
    exact hp S1 hF
  | succ r ih =>
    intro i c S1 hi hF hs
    unfold sel at hs
    have hM1 : MR S1 X := mr_fq hM (hF _ _ (by unfold tGo; omega)) (fun a i q => hF _ _ (by unfold tGo; omega))
    have e1 : k - nI c + (-1) = k - nI (c + 1) := by rw [← Int32.sub_eq_add_neg, sub2, q_1]
    unfold r_needs_L42
    rw [q_le (by omega) (by omega), q_1, e1]
    refine ⟨fun h => absurd h (by omega), fun _ => ⟨fun h => absurd h (by decide), fun _ => ?_⟩⟩
    refine go_x hM1 h24 (hq i) (on_sw h24 (by omega)) (fun S2 hR2 he2 hF2 => ?_)
    have hF3 := hF.tr hF2
    rw [nI_clamp (show m < 2 ^ 31 by omega), he2 m hm]
    refine ⟨q_in (by omega) (by omega), fun he => ?_, fun hne => ?_⟩
    · rw [if_neg (fun q => q he)] at hs
      exact ih (i + 1) c S2 (by omega) hF3 hs
    · rw [if_pos hne] at hs
      by_cases h1 : nI c = k
      · rw [if_pos h1] at hs
        rw [if_pos (sub_0.mpr h1)]
        unfold r_needs_L42
        have := hp S2 hF3
        rw [← hs] at this
        exact ⟨fun _ => this, fun _ => ⟨fun _ => this, fun h => absurd (q_ge0 (a := i) (by omega)) h⟩⟩
      · rw [if_neg h1] at hs
        rw [if_neg (fun q => h1 (sub_0.mp q))]
        exact ih (i + 1) (c + 1) S2 (by omega) hF3 hs
theorem ok_needs : OK_needs Inv := by
  intro S J a1 a2 hI
  have hI' := hI
  obtain ⟨X, dn, kn, E, St, f, Ds, ef, Dt, hch, hb, hic, hir⟩ := hI
  have hX := hch.2.2.2.2
  have h24 := hX.1
  rcases idx_dec a1 (n := X.n) (by omega) with h | ⟨m, hm, rfl⟩
  · refine creq_no hic.2.1.1 h ⟨rfl, ?_⟩
    unfold RC_needs r_needs
    refine ract_no hir.2.1.1 h (fun S2 h2 => ?_)
    subst h2
    rw [if_pos rfl, up_self]
    exact ⟨fun h => absurd h one_le0, fun _ => pex (up_self _ _ _ _) (by decide) (inv_thr hI')⟩
  · have hex := fun i => good_ex hX (onS X i)
    obtain ⟨Dq, eq, hq⟩ : ∃ (Dq : Nat → Nat → List Ob) (eq : Nat → Nat → Int32), ∀ i, Seq X.a (onS X i) X.n (Dq i) (eq i) := ⟨fun i => Classical.choose (hex i), fun i => Classical.choose (Classical.choose_spec (hex i)), fun i => Classical.choose_spec (Classical.choose_spec (hex i))⟩
    refine creq_yes hic.2.1.1 h24 hm ⟨m + 1, ?_⟩
    refine cneeds_loop (V := sel (fun i => ¬ eq i m = ef m) a2 m 0 0) hic.2.1 h24 hm hq (hic.2.2.2.1 m hm) (fun S1 D hC1 hG1 hl1 hF1 => ?_) m 0 0 S Dt (by omega) hic.2.2.2.2.1 hic.2.2.2.2.2.1 hic.2.2.2.2.2.2 Fq.rf rfl
    have hic1 : IC S1 X f dn kn E Ds ef D := by
      obtain ⟨i1, i2, i3, i4, i5, i6, i7⟩ := hic
      refine ⟨hc_fq i1 (fun a i q => hF1 _ _ (by unfold tPl; omega)), mc_fq i2 (hF1 _ _ (by unfold tPl; omega)) (fun a i q1 q2 => hF1 _ _ (by unfold tPl; omega)), cd_out i3 (bse_wf hb).2.1 (fun a i q1 q2 => hF1 _ _ (by unfold tPl; omega)), fun i hi => ?_, hC1, hG1, hl1⟩
      rw [hF1 _ _ (by unfold tPl; omega)]
      exact i4 i hi
    have hir1 : IR S1 X dn kn E Ds ef := ir_fq hir (fun a i q => hF1 _ _ (by unfold tIR at q; unfold tPl; omega))
    unfold RC_needs r_needs
    refine ract_yes hir1.2.1.1 h24 hm (fun S2 h2 => ?_)
    rw [if_neg (show ¬ (1 : Int32) = 0 by decide)] at h2
    have hic2 : IC S2 X f dn kn E Ds ef D := ic_fq (bse_wf hb).2.1 hic1 (fun a i q => by rw [h2, up_at, if_neg]; rintro ⟨rfl, rfl⟩; unfold tIC at q; omega)
    have hir2 : IR S2 X dn kn E Ds ef := ir_fq hir1 (fun a i q => by rw [h2, up_at, if_neg]; rintro ⟨rfl, rfl⟩; unfold tIR at q; omega)
    have h20 : S2 148 0 = 0 := by rw [h2, up_self]
    rw [h20]
    refine ⟨fun _ => ⟨q_in (by omega) (by omega), m + 1, ?_⟩, fun h => absurd z_le0 h⟩
    rw [nI_clamp (by omega), hir2.2.2.2 m hm]
    have hk0 : a2 = a2 - nI 0 := by rw [show nI 0 = 0 from rfl, Int32.sub_zero]
    rw [hk0]
    refine rneeds_loop (V := sel (fun i => ¬ eq i m = ef m) a2 m 0 0) hir2.2.1 h24 hm hq (fun S4 hF4 => ?_) m 0 0 S2 (by omega) Fq.rf rfl
    have hM4 : MR S4 X := mr_fq hir2.2.1 (hF4 _ _ (by unfold tGo; omega)) (fun a i q => hF4 _ _ (by unfold tGo; omega))
    refine go_x hM4 h24 hb (on_base h24) (fun S5 hR5 he5 hF5 => ?_)
    have c0 : S5 148 0 = 0 := by rw [hF5 _ _ (by unfold tGo; omega), hF4 _ _ (by unfold tGo; omega), h20]
    refine pst c0 (by rw [← hk0]) ⟨X, dn, kn, E, St, f, Ds, ef, D, hch, hb, ?_, ?_⟩
    · refine ic_fq (bse_wf hb).2.1 hic2 (fun a i q => ?_)
      rw [hF5 _ _ (by unfold tIC at q; unfold tGo; omega), hF4 _ _ (by unfold tIC at q; unfold tGo; omega)]
    · refine ⟨hr_fq hir2.1 ?_ ?_ (fun i => ?_), mr_fq hM4 (hF5 _ _ (by unfold tGo; omega)) (fun a i q => hF5 _ _ (by unfold tGo; omega)), hR5, he5⟩
      · rw [hF5 _ _ (by unfold tGo; omega), hF4 _ _ (by unfold tGo; omega)]
      · rw [hF5 _ _ (by unfold tGo; omega), hF4 _ _ (by unfold tGo; omega)]
      · rw [hF5 _ _ (by unfold tGo; omega), hF4 _ _ (by unfold tGo; omega)]
