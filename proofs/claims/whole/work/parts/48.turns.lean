theorem good_w {X : Xs} {m : Nat} {v : Int32} (h : Good X) (hm : m < X.n) (hv : v = 0 ∨ v = 1) : Good (mkX X.a (updE X.w m v) X.n) := by
  refine ⟨h.1, h.2.1, fun i hi => ?_, fun i => ?_⟩
  · show (if i = m then v else X.w i) = 0
    rw [if_neg (show ¬ i = m by have : X.n ≤ i := hi; omega)]
    exact h.2.2.1 i hi
  · show (if i = m then v else X.w i) = 0 ∨ (if i = m then v else X.w i) = 1
    split
    · exact hv
    · exact h.2.2.2 i
/-- the replay of the component, and all that stands after an edit -/
theorem cplay_all {post : Mem → Prop} {S4 : Mem} {Y : Xs} {f dn kn : Nat} {E : Nat → Nat → Int32} {Dy : Nat → List Ob} {ey : Nat → Int32} {D0 Dt : List Ob} (hH : HC S4 f dn kn E) (hM : MC S4 Y) (hY : Good Y) (hby : Bse Y Dy ey) (hC : CD S4 87 D0) (hG : Gd D0) (hl : D0.length ≤ 12) (hT : CD S4 118 Dt) (hGt : Gd Dt) (hlt : Dt.length ≤ 12) (hp : ∀ S', IC S' Y f dn kn E Dy ey Dt → (∀ i, i < 24 → S' 116 i = S4 115 i) → (∀ a i, (a < 87 ∨ 117 ≤ a) → S' a i = S4 a i) → post S') : co_play post S4 86 1 (S4 0 5) (-1) := by
  rw [hM.1]
  refine play_x (k := 86) hM hY.1 hby (by omega) hC hG hl (on_base hY.1) (fun S5 hC5 he5 hb5 hF5 => hp S5 ⟨?_, ?_, hC5, he5, ?_, hGt, hlt⟩ hb5 (fun a i q => hF5 _ _ (by unfold tPl; omega)))
  · exact hc_fq hH (fun a i q => hF5 _ _ (by unfold tPl; omega))
  · exact mc_fq hM (hF5 _ _ (by unfold tPl; omega)) (fun a i q1 q2 => hF5 _ _ (by unfold tPl; omega))
  · exact cd_out hT hGt (fun a i q1 q2 => hF5 _ _ (by unfold tPl; omega))
theorem cturn {post : Int32 → Mem → Prop} {S : Mem} {X : Xs} {f dn kn : Nat} {E : Nat → Nat → Int32} {St : Nat → Xs} {Ds Dy : Nat → List Ob} {ef ey : Nat → Int32} {Dt : List Ob} {m : Nat} {v κ : Int32} (hch : Ch dn kn E St X) (hb : Bse X Ds ef) (hic : IC S X f dn kn E Ds ef Dt) (hm : m < X.n) (hv : v = 0 ∨ v = 1) (hby : Bse (mkX X.a (updE X.w m v) X.n) Dy ey) (hp : ∀ (S' : Mem) (f' : Nat), IC S' (mkX X.a (updE X.w m v) X.n) f' (dn1 dn) (dn1 dn) (shE E dn (ed5 κ (nI m) 0 0 0)) Dy ey Dt → (∀ a i, 148 ≤ a → S' a i = S a i) → post (cnt (fun i => i ≠ m ∧ ¬ ey i = ef i) X.n 0 0) S') : ch_add (fun r2 S2 => ce_become (fun S3 => (vp_in (nI m) 24) ∧ ∀ S4, S4 = up2 S3 (2 + 2 * (nI m).toNatClampNeg) 1 v → co_play (fun S5 => cd_changedBeside (fun r5 S6 => post r5 S6) S5 (nI m)) S4 86 1 (S4 0 5) (-1)) S2 r2 κ (nI m) 0 0 0) S 52 := by
  have hX := hch.2.2.2.2
  have h24 := hX.1
  have hW := bse_wf hb
  obtain ⟨i1, i2, i3, i4, i5, i6, i7⟩ := hic
  refine cadd_ok i1 hch.1 hch.2.1 (fun S3 f' hH3 hF3 => ⟨q_in (by omega) (by omega), fun S4 h4 => ?_⟩)
  rw [nI_clamp (by omega)] at h4
  have hfr : ∀ a i, ¬ (a = 2 + 2 * m ∧ i = 1) → ¬ tHi a i → S4 a i = S a i := fun a i q1 q2 => by rw [h4, up_at, if_neg q1]; exact hF3 a i q2
  have hM4 : MC S4 (mkX X.a (updE X.w m v) X.n) := by
    refine ⟨by rw [hfr _ _ (by omega) (by unfold tHi; omega)]; exact i2.1, fun i hi => ⟨?_, ?_⟩⟩
    · obtain ⟨g, g0, g1, g2, g3⟩ := (i2.2 i hi).1
      refine ⟨?_, ?_, ?_, ?_, ?_⟩
      · rw [hfr _ _ (by omega) (by unfold tHi; omega)]; exact g
      · rw [hfr _ _ (by omega) (by unfold tHi; omega)]; exact g0
      · rw [hfr _ _ (by omega) (by unfold tHi; omega)]; exact g1
      · rw [hfr _ _ (by omega) (by unfold tHi; omega)]; exact g2
      · rw [hfr _ _ (by omega) (by unfold tHi; omega)]; exact g3
    · show S4 (2 + 2 * i) 1 = if i = m then v else X.w i
      by_cases him : i = m
      · rw [if_pos him, h4, him, up_self]
      · rw [if_neg him, hfr _ _ (by omega) (by unfold tHi; omega)]
        exact (i2.2 i hi).2
  refine cplay_all (hc_fq hH3 (fun a i q => by rw [h4, up_at, if_neg (by omega)])) hM4 (good_w hX hm hv) hby (cd_out i3 hW.2.1 (fun a i q1 q2 => hfr _ _ (by omega) (by unfold tHi; omega))) hW.2.1 hW.2.2.1 (cd_out i5 i6 (fun a i q1 q2 => hfr _ _ (by omega) (by unfold tHi; omega))) i6 i7 (fun S5 hic5 hb5 hF5 => ?_)
  refine ⟨X.n + 1, chg_loop (n := X.n) hic5.2.1.1 h24 (by omega) (fun i hi => ?_) X.n 0 0 (by omega) (hp S5 f' hic5 (fun a i q => ?_))⟩
  · have e1 : S5 115 i = ey i := hic5.2.2.2.1 i hi
    rw [e1, hb5 i (by omega), hfr _ _ (by omega) (by unfold tHi; omega), i4 i hi]
  · rw [hF5 _ _ (by omega), hfr _ _ (by omega) (by unfold tHi; omega)]
theorem rturn {post : Int32 → Mem → Prop} {S : Mem} {X : Xs} {dn kn : Nat} {E : Nat → Nat → Int32} {St : Nat → Xs} {Ds Dy : Nat → List Ob} {ef ey : Nat → Int32} {m : Nat} {v κ : Int32} (hch : Ch dn kn E St X) (hir : IR S X dn kn E Ds ef) (hm : m < X.n) (hv : v = 0 ∨ v = 1) (hne : ¬ X.w m = v) (hκ : (if v = 0 then 2 else 1 : Int32) = κ) (hby : Bse (mkX X.a (updE X.w m v) X.n) Dy ey) (hp : ∀ (S' : Mem), S' 148 0 = 0 → IR S' (mkX X.a (updE X.w m v) X.n) (dn1 dn) (dn1 dn) (shE E dn (ed5 κ (nI m) 0 0 0)) Dy ey → (∀ a i, a < 148 → S' a i = S a i) → post (cnt (fun i => i ≠ m ∧ ¬ ey i = ef i) X.n 0 0) S') : r_turn post S (nI m) v := by
  have hX := hch.2.2.2.2
  have h24 := hX.1
  obtain ⟨j1, j2, j3, j4⟩ := hir
  have hY := good_w hX hm hv
  refine ract_yes j2.1 h24 hm ⟨fun _ => q_in (by omega) (by omega), fun S2 h2 => ?_⟩
  rw [if_neg (show ¬ (1 : Int32) = 0 by decide), nI_clamp (by omega), (j2.2 m (by omega)).2, if_neg hne] at h2
  have h20 : S2 148 0 = 0 := by rw [h2, up_self]
  have hF2 : ∀ a i, ¬ (a = 148 ∧ i = 0) → S2 a i = S a i := fun a i q => by rw [h2, up_at, if_neg q]
  rw [h20]
  refine ⟨fun _ => ?_, fun h => absurd z_le0 h⟩
  refine remember_ok (n := X.n) (by rw [hF2 _ _ (by omega)]; exact j2.1) h24 (fun S3 hb3 hF3 => ⟨q_in (by omega) (by omega), fun S4 h4 => ?_⟩)
  rw [nI_clamp (by omega), nar01 hv] at h4
  have hfr : ∀ a i, ¬ (a = 151 ∧ i = m) → a ≠ 153 → ¬ (a = 148 ∧ i = 0) → S4 a i = S a i := fun a i q1 q2 q3 => by rw [h4, up_at, if_neg q1, hF3 _ _ q2, hF2 _ _ q3]
  have hM4 : MR S4 (mkX X.a (updE X.w m v) X.n) := by
    refine ⟨by rw [hfr _ _ (by omega) (by omega) (by omega)]; exact j2.1, fun i hi => ⟨?_, ?_⟩⟩
    · obtain ⟨g, g0, g1, g2, g3⟩ := (j2.2 i hi).1
      refine ⟨?_, ?_, ?_, ?_, ?_⟩
      · rw [hfr _ _ (by omega) (by omega) (by omega)]; exact g
      · rw [hfr _ _ (by omega) (by omega) (by omega)]; exact g0
      · rw [hfr _ _ (by omega) (by omega) (by omega)]; exact g1
      · rw [hfr _ _ (by omega) (by omega) (by omega)]; exact g2
      · rw [hfr _ _ (by omega) (by omega) (by omega)]; exact g3
    · show S4 151 i = if i = m then v else X.w i
      by_cases him : i = m
      · rw [if_pos him, h4, him, up_self]
      · rw [if_neg him, hfr _ _ (by omega) (by omega) (by omega)]
        exact (j2.2 i hi).2
  refine go_x hM4 h24 hby (on_base hY.1) (fun S5 hR5 he5 hF5 => ?_)
  rw [hκ]
  have hH5 : HR S5 dn kn E := hr_fq j1 (by rw [hF5 _ _ (by unfold tGo; omega), hfr _ _ (by omega) (by omega) (by omega)]) (by rw [hF5 _ _ (by unfold tGo; omega), hfr _ _ (by omega) (by omega) (by omega)]) (fun i => by rw [hF5 _ _ (by unfold tGo; omega), hfr _ _ (by omega) (by omega) (by omega)])
  refine note_ok hH5 hch.1 hch.2.1 (fun S6 hH6 hF6 => ?_)
  have hM6 : MR S6 (mkX X.a (updE X.w m v) X.n) := mr_fq hM4 (by rw [hF6 _ _ (by unfold tNo; omega), hF5 _ _ (by unfold tGo; omega)]) (fun a i q => by rw [hF6 _ _ (by unfold tNo; omega), hF5 _ _ (by unfold tGo; omega)])
  have he6 : ∀ i, i < X.n → S6 152 i = ey i := fun i hi => by rw [hF6 _ _ (by unfold tNo; omega)]; exact he5 i hi
  refine ⟨X.n + 1, oth_loop (n := X.n) hM6.1 h24 (by omega) (fun i hi => ?_) X.n 0 0 (by omega) (hp S6 ?_ ⟨hH6, hM6, ?_, he6⟩ (fun a i q => ?_))⟩
  · have e1 : S6 153 i = ef i := by
      rw [hF6 _ _ (by unfold tNo; omega), hF5 _ _ (by unfold tGo; omega), h4, up_at, if_neg (by omega), hb3 i hi, hF2 _ _ (by omega)]
      exact j4 i hi
    rw [he6 i hi, e1]
  · rw [hF6 _ _ (by unfold tNo; omega), hF5 _ _ (by unfold tGo; omega), h4, up_at, if_neg (by omega), hF3 _ _ (by unfold t153; omega), h20]
  · exact rd_fq hR5 (hF6 _ _ (by unfold tNo; omega)) (fun i => hF6 _ _ (by unfold tNo; omega))
  · rw [hF6 _ _ (by unfold tNo; omega), hF5 _ _ (by unfold tGo; omega), hfr _ _ (by omega) (by omega) (by omega)]
theorem rturn_no {post : Int32 → Mem → Prop} {S : Mem} {X : Xs} {dn kn : Nat} {E : Nat → Nat → Int32} {Ds : Nat → List Ob} {ef : Nat → Int32} {m : Nat} {v : Int32} (h24 : X.n ≤ 24) (hir : IR S X dn kn E Ds ef) (hm : m < X.n) (he : X.w m = v) (hp : post 0 (up2 S 148 0 2)) : r_turn post S (nI m) v := by
  obtain ⟨j1, j2, j3, j4⟩ := hir
  refine ract_yes j2.1 h24 hm ⟨fun _ => q_in (by omega) (by omega), fun S2 h2 => ?_⟩
  rw [if_neg (show ¬ (1 : Int32) = 0 by decide), nI_clamp (by omega), (j2.2 m (by omega)).2, if_pos he] at h2
  subst h2
  rw [up_self]
  exact ⟨fun h => absurd h two_le0, fun _ => hp⟩
theorem rturn_gone {post : Int32 → Mem → Prop} {S : Mem} {n : Nat} {l v : Int32} (hn : S 148 1 = nI n) (h : l < 0 ∨ ¬ l < nI n) (hp : post 0 (up2 S 148 0 1)) : r_turn post S l v := by
  refine ract_no hn h ⟨fun h => absurd rfl h, fun S2 h2 => ?_⟩
  rw [if_pos rfl] at h2
  subst h2
  rw [up_self]
  exact ⟨fun h => absurd h one_le0, fun _ => hp⟩
theorem lk_w {X : Xs} {m : Nat} (h : Good X) (hm : m < X.n) (h0 : X.w m = 0) : Lk (ed5 1 (nI m) 0 0 0) X (mkX X.a (updE X.w m 1) X.n) := ⟨h, good_w h hm (Or.inr rfl), Or.inr (Or.inl ⟨rfl, m, hm, rfl, h0, rfl⟩)⟩
theorem lk_r {X : Xs} {m : Nat} (h : Good X) (hm : m < X.n) (h1 : X.w m = 1) : Lk (ed5 2 (nI m) 0 0 0) X (mkX X.a (updE X.w m 0) X.n) := ⟨h, good_w h hm (Or.inl rfl), Or.inr (Or.inr (Or.inl ⟨rfl, m, hm, rfl, h1, rfl⟩))⟩
theorem inv_of {S S0' : Mem} {Y : Xs} {f dn kn : Nat} {E : Nat → Nat → Int32} {St : Nat → Xs} {Dy : Nat → List Ob} {ey : Nat → Int32} {Dt : List Ob} (hch : Ch dn kn E St Y) (hby : Bse Y Dy ey) (hic : IC S0' Y f dn kn E Dy ey Dt) (hir : IR S Y dn kn E Dy ey) (hF : ∀ a i, a < 148 → S a i = S0' a i) : Inv S := ⟨Y, dn, kn, E, St, f, Dy, ey, Dt, hch, hby, ic_fq (bse_wf hby).2.1 hic (fun a i q => hF a i (by unfold tIC at q; omega)), hir⟩
theorem ok_withdraw : OK_withdraw Inv := by
  intro S J a1 hI
  have hI' := hI
  obtain ⟨X, dn, kn, E, St, f, Ds, ef, Dt, hch, hb, hic, hir⟩ := hI
  have hX := hch.2.2.2.2
  have h24 := hX.1
  rcases idx_dec a1 (n := X.n) (by omega) with h | ⟨m, hm, rfl⟩
  · exact creq_no hic.2.1.1 h (Or.inl ⟨rfl, rturn_gone hir.2.1.1 h (pex (up_self _ _ _ _) (by decide) (inv_thr hI'))⟩)
  · refine creq_yes hic.2.1.1 h24 hm ⟨q_in (by omega) (by omega), ?_⟩
    have hw : S (2 + 2 * (nI m).toNatClampNeg) 1 = X.w m := by rw [nI_clamp (by omega)]; exact (hic.2.1.2 m (by omega)).2
    rw [hw]
    refine ⟨fun h0 => ?_, fun h0 => Or.inr ⟨rfl, rturn_no h24 hir hm ((hX.2.2.2 m).resolve_left h0) (pex (up_self _ _ _ _) (by decide) (inv_thr hI'))⟩⟩
    have hl := lk_w hX hm h0
    obtain ⟨St', hch'⟩ := chain_new hch hl
    obtain ⟨Dy, ey, hby⟩ := good_ex hl.2.1 (fun i => (mkX X.a (updE X.w m 1) X.n).w i = 0)
    refine cturn hch hb hic hm (Or.inr rfl) hby (fun S' f' hic' hF' => ?_)
    have hir' : IR S' X dn kn E Ds ef := ir_fq hir (fun a i q => hF' a i (by unfold tIR at q; omega))
    exact rturn hch hir' hm (Or.inr rfl) (by rw [h0]; decide) (if_neg (by decide)) hby (fun S2 h20 hir2 hF2 => pst h20 rfl (inv_of hch' hby hic' hir2 hF2))
theorem ok_reinstate : OK_reinstate Inv := by
  intro S J a1 hI
  have hI' := hI
  obtain ⟨X, dn, kn, E, St, f, Ds, ef, Dt, hch, hb, hic, hir⟩ := hI
  have hX := hch.2.2.2.2
  have h24 := hX.1
  rcases idx_dec a1 (n := X.n) (by omega) with h | ⟨m, hm, rfl⟩
  · exact creq_no hic.2.1.1 h (Or.inl ⟨rfl, rturn_gone hir.2.1.1 h (pex (up_self _ _ _ _) (by decide) (inv_thr hI'))⟩)
  · refine creq_yes hic.2.1.1 h24 hm ⟨q_in (by omega) (by omega), ?_⟩
    have hw : S (2 + 2 * (nI m).toNatClampNeg) 1 = X.w m := by rw [nI_clamp (by omega)]; exact (hic.2.1.2 m (by omega)).2
    rw [hw]
    refine ⟨fun h0 => ?_, fun h0 => Or.inr ⟨rfl, rturn_no h24 hir hm h0 (pex (up_self _ _ _ _) (by decide) (inv_thr hI'))⟩⟩
    have h1 := (hX.2.2.2 m).resolve_left h0
    have hl := lk_r hX hm h1
    obtain ⟨St', hch'⟩ := chain_new hch hl
    obtain ⟨Dy, ey, hby⟩ := good_ex hl.2.1 (fun i => (mkX X.a (updE X.w m 0) X.n).w i = 0)
    refine cturn hch hb hic hm (Or.inl rfl) hby (fun S' f' hic' hF' => ?_)
    have hir' : IR S' X dn kn E Ds ef := ir_fq hir (fun a i q => hF' a i (by unfold tIR at q; omega))
    exact rturn hch hir' hm (Or.inl rfl) (by rw [h1]; decide) (if_pos rfl) hby (fun S2 h20 hir2 hF2 => pst h20 rfl (inv_of hch' hby hic' hir2 hF2))
