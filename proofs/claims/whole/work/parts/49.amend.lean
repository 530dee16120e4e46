theorem ca_upd {S S' : Mem} {q : Nat} {a : Ac} {i : Nat} {v : Int32} (h : CAc S q a) (hF : ∀ x j, (x = q ∨ x = q + 1) → ¬ (x = q + 1 ∧ j = i) → S' x j = S x j) (hi : S' (q + 1) i = v) : CAc S' q (a.1, updE a.2 i v) := by
  obtain ⟨g, g0, g1, g2, g3⟩ := h
  have one : ∀ c w, S (q + 1) c = w → a.2 c = w → S' (q + 1) c = updE a.2 i v c := by
    intro c w h1 h2
    unfold updE
    by_cases hc : c = i
    · rw [if_pos hc, hc]; exact hi
    · rw [if_neg hc, hF _ _ (Or.inr rfl) (by omega), h1, h2]
  exact ⟨(hF _ _ (Or.inl rfl) (by omega)).trans g, one 0 _ g0 rfl, one 1 _ g1 rfl, one 2 _ g2 rfl, one 3 _ g3 rfl⟩
theorem ra_upd {S S' : Mem} {n : Nat} {a : Ac} {i : Nat} {v : Int32} (h : RAc S n a) (hF : ∀ x j, ¬ (x = 150 ∧ j = 4 * n + i) → (x = 149 ∨ x = 150) → S' x j = S x j) (hi : S' 150 (4 * n + i) = v) : RAc S' n (a.1, updE a.2 i v) := by
  obtain ⟨g, g0, g1, g2, g3⟩ := h
  have one : ∀ c w, S 150 (4 * n + c) = w → a.2 c = w → S' 150 (4 * n + c) = updE a.2 i v c := by
    intro c w h1 h2
    unfold updE
    by_cases hc : c = i
    · rw [if_pos hc, hc]; exact hi
    · rw [if_neg hc, hF _ _ (by omega) (by omega), h1, h2]
  exact ⟨(hF _ _ (by omega) (by omega)).trans g, one 0 _ g0 rfl, one 1 _ g1 rfl, one 2 _ g2 rfl, one 3 _ g3 rfl⟩
/-- the actions with one argument changed -/
def amX (X : Xs) (m i : Nat) (v : Int32) : Xs := mkX (updA X.a m ((X.a m).1, updE (X.a m).2 i v)) X.w X.n
theorem good_am {X : Xs} {m i kk : Nat} {v : Int32} (h : Good X) (hm : m < X.n) (hk : kk < 10) (hK : (X.a m).1 = nI kk) (hv : sv (sortsF (4 * kk + i)) v) : Good (amX X m i v) := by
  refine ⟨h.1, fun j hj => ?_, h.2.2.1, h.2.2.2⟩
  show vac (if j = m then ((X.a m).1, updE (X.a m).2 i v) else X.a j)
  split
  · exact vac_upd (h.2.1 m hm) hk hK hv
  · exact h.2.1 j hj
theorem lk_am {X : Xs} {m i kk : Nat} {v : Int32} (h : Good X) (hm : m < X.n) (hi : i < 4) (hk : kk < 10) (hK : (X.a m).1 = nI kk) (hv : sv (sortsF (4 * kk + i)) v) : Lk (ed5 3 (nI m) (nI i) ((X.a m).2 i) v) X (amX X m i v) := ⟨h, good_am h hm hk hK hv, Or.inr (Or.inr (Or.inr ⟨rfl, m, i, hm, hi, rfl, rfl, rfl, rfl⟩))⟩
theorem mc_am {S S5 : Mem} {X : Xs} {m i : Nat} {v : Int32} (hm : m < 24) (h : MC S X) (h5 : S5 0 5 = S 0 5) (hF : ∀ a j, 2 ≤ a → a ≤ 49 → ¬ (a = 2 + 2 * m + 1 ∧ j = i) → S5 a j = S a j) (hi : S5 (2 + 2 * m + 1) i = v) : MC S5 (amX X m i v) := by
  refine ⟨h5.trans h.1, fun j hj => ⟨?_, ?_⟩⟩
  · show CAc S5 (2 + 2 * j) (if j = m then ((X.a m).1, updE (X.a m).2 i v) else X.a j)
    by_cases hjm : j = m
    · rw [if_pos hjm]
      subst hjm
      exact ca_upd (h.2 j hj).1 (fun x c q1 q2 => hF x c (by omega) (by omega) q2) hi
    · rw [if_neg hjm]
      exact ca_fq (h.2 j hj).1 (fun x => hF _ _ (by omega) (by omega) (by omega)) (fun x => hF _ _ (by omega) (by omega) (by omega))
  · rw [hF _ _ (by omega) (by omega) (by omega)]
    exact (h.2 j hj).2
theorem mr_am {S S5 : Mem} {X : Xs} {m i : Nat} {v : Int32} (hi4 : i < 4) (h : MR S X) (h5 : S5 148 1 = S 148 1) (hF : ∀ a j, a = 149 ∨ a = 150 ∨ a = 151 → ¬ (a = 150 ∧ j = 4 * m + i) → S5 a j = S a j) (hi : S5 150 (4 * m + i) = v) : MR S5 (amX X m i v) := by
  refine ⟨h5.trans h.1, fun j hj => ⟨?_, ?_⟩⟩
  · show RAc S5 j (if j = m then ((X.a m).1, updE (X.a m).2 i v) else X.a j)
    by_cases hjm : j = m
    · rw [if_pos hjm]
      subst hjm
      exact ra_upd (h.2 j hj).1 (fun x c q1 q2 => hF x c (by omega) q1) hi
    · rw [if_neg hjm]
      obtain ⟨g, g0, g1, g2, g3⟩ := (h.2 j hj).1
      refine ⟨?_, ?_, ?_, ?_, ?_⟩
      · rw [hF _ _ (by omega) (by omega)]; exact g
      · rw [hF _ _ (by omega) (by omega)]; exact g0
      · rw [hF _ _ (by omega) (by omega)]; exact g1
      · rw [hF _ _ (by omega) (by omega)]; exact g2
      · rw [hF _ _ (by omega) (by omega)]; exact g3
  · rw [hF _ _ (by omega) (by omega)]
    exact (h.2 j hj).2
theorem camend {post : Mem → Prop} {S : Mem} {X : Xs} {f dn kn : Nat} {E : Nat → Nat → Int32} {St : Nat → Xs} {Ds Dy : Nat → List Ob} {ef ey : Nat → Int32} {Dt : List Ob} {m i : Nat} {v old : Int32} (hch : Ch dn kn E St X) (hb : Bse X Ds ef) (hic : IC S X f dn kn E Ds ef Dt) (hm : m < X.n) (hi : i < 4) (hY : Good (amX X m i v)) (hby : Bse (amX X m i v) Dy ey) (hp : ∀ (S' : Mem) (f' : Nat), IC S' (amX X m i v) f' (dn1 dn) (dn1 dn) (shE E dn (ed5 3 (nI m) (nI i) old v)) Dy ey Dt → (∀ a i, 148 ≤ a → S' a i = S a i) → post S') : ch_add (fun r3 S3 => ce_become (fun S4 => (vp_in (nI m) 24) ∧ (vp_in (nI i) 4) ∧ ∀ S5, S5 = up2 S4 ((2 + 2 * (nI m).toNatClampNeg) + 1) (nI i).toNatClampNeg v → co_play (fun S6 => post S6) S5 86 1 (S5 0 5) (-1)) S3 r3 3 (nI m) (nI i) old v) S 52 := by
  have hX := hch.2.2.2.2
  have h24 := hX.1
  have hW := bse_wf hb
  obtain ⟨i1, i2, i3, i4, i5, i6, i7⟩ := hic
  refine cadd_ok i1 hch.1 hch.2.1 (fun S3 f' hH3 hF3 => ⟨q_in (by omega) (by omega), q_in (by omega) (by omega), fun S4 h4 => ?_⟩)
  rw [nI_clamp (show m < 2 ^ 31 by omega), nI_clamp (show i < 2 ^ 31 by omega)] at h4
  have hfr : ∀ a j, ¬ (a = 2 + 2 * m + 1 ∧ j = i) → ¬ tHi a j → S4 a j = S a j := fun a j q1 q2 => by rw [h4, up_at, if_neg q1]; exact hF3 a j q2
  have hM4 : MC S4 (amX X m i v) := mc_am (by omega) i2 (hfr _ _ (by omega) (by unfold tHi; omega)) (fun a j q1 q2 q3 => hfr _ _ q3 (by unfold tHi; omega)) (by rw [h4, up_self])
  exact cplay_all (hc_fq hH3 (fun a i q => by rw [h4, up_at, if_neg (by omega)])) hM4 hY hby (cd_out i3 hW.2.1 (fun a i q1 q2 => hfr _ _ (by omega) (by unfold tHi; omega))) hW.2.1 hW.2.2.1 (cd_out i5 i6 (fun a i q1 q2 => hfr _ _ (by omega) (by unfold tHi; omega))) i6 i7 (fun S5 hic5 hb5 hF5 => hp S5 f' hic5 (fun a i q => by rw [hF5 _ _ (by omega), hfr _ _ (by omega) (by unfold tHi; omega)]))
theorem ramend_no {post : Int32 → Mem → Prop} {S : Mem} {l1 l2 l3 k : Int32} (hk : ¬ k ≤ 0) (hp : post 0 (up2 S 148 0 k)) : r_amend_J53 post S l1 l2 l3 k := by
  intro S1 h1
  subst h1
  rw [up_self]
  exact ⟨fun h => absurd h hk, fun _ => hp⟩
theorem ramend_yes {post : Int32 → Mem → Prop} {S : Mem} {X : Xs} {dn kn : Nat} {E : Nat → Nat → Int32} {St : Nat → Xs} {Ds Dy : Nat → List Ob} {ef ey : Nat → Int32} {m i : Nat} {v : Int32} (hch : Ch dn kn E St X) (hir : IR S X dn kn E Ds ef) (hm : m < X.n) (hi : i < 4) (hY : Good (amX X m i v)) (hby : Bse (amX X m i v) Dy ey) (hp : ∀ (S' : Mem), S' 148 0 = 0 → IR S' (amX X m i v) (dn1 dn) (dn1 dn) (shE E dn (ed5 3 (nI m) (nI i) ((X.a m).2 i) v)) Dy ey → (∀ a i, a < 148 → S' a i = S a i) → post ((X.a m).2 i) S') : r_amend_J53 post S (nI m) (nI i) v 0 := by
  have hX := hch.2.2.2.2
  have h24 := hX.1
  obtain ⟨j1, j2, j3, j4⟩ := hir
  intro S1 h1
  have h10 : S1 148 0 = 0 := by rw [h1, up_self]
  have hF1 : ∀ a i, ¬ (a = 148 ∧ i = 0) → S1 a i = S a i := fun a i q => by rw [h1, up_at, if_neg q]
  rw [h10, n4, nI_clamp (show 4 * m + i < 2 ^ 31 by omega), hF1 150 (4 * m + i) (by omega), ra_arg (j2.2 m (by omega)).1 hi]
  refine ⟨fun _ => ⟨q_in (by omega) (by omega), q_in (by omega) (by omega), fun S2 h2 => ?_⟩, fun h => absurd z_le0 h⟩
  have hfr : ∀ a j, ¬ (a = 150 ∧ j = 4 * m + i) → ¬ (a = 148 ∧ j = 0) → S2 a j = S a j := fun a j q1 q2 => by rw [h2, up_at, if_neg q1, hF1 _ _ q2]
  have hM2 : MR S2 (amX X m i v) := mr_am hi j2 (hfr _ _ (by omega) (by omega)) (fun a j q1 q2 => hfr _ _ q2 (by omega)) (by rw [h2, up_self])
  refine go_x hM2 hY.1 hby (on_base hY.1) (fun S3 hR3 he3 hF3 => ?_)
  have hH3 : HR S3 dn kn E := hr_fq j1 (by rw [hF3 _ _ (by unfold tGo; omega), hfr _ _ (by omega) (by omega)]) (by rw [hF3 _ _ (by unfold tGo; omega), hfr _ _ (by omega) (by omega)]) (fun i => by rw [hF3 _ _ (by unfold tGo; omega), hfr _ _ (by omega) (by omega)])
  refine note_ok hH3 hch.1 hch.2.1 (fun S4 hH4 hF4 => hp S4 ?_ ⟨hH4, ?_, ?_, ?_⟩ (fun a i q => ?_))
  · rw [hF4 _ _ (by unfold tNo; omega), hF3 _ _ (by unfold tGo; omega), h2, up_at, if_neg (by omega), h10]
  · exact mr_fq hM2 (by rw [hF4 _ _ (by unfold tNo; omega), hF3 _ _ (by unfold tGo; omega)]) (fun a i q => by rw [hF4 _ _ (by unfold tNo; omega), hF3 _ _ (by unfold tGo; omega)])
  · exact rd_fq hR3 (hF4 _ _ (by unfold tNo; omega)) (fun i => hF4 _ _ (by unfold tNo; omega))
  · intro i hi
    rw [hF4 _ _ (by unfold tNo; omega)]
    exact he3 i hi
  · rw [hF4 _ _ (by unfold tNo; omega), hF3 _ _ (by unfold tGo; omega), hfr _ _ (by omega) (by omega)]
theorem nargs_le (kk : Nat) : nargs kk ≤ 4 := by
  unfold nargs
  split
  · omega
  · split
    · omega
    · split <;> omega
theorem ok_amend : OK_amend Inv := by
  intro S J a1 a2 a3 hI
  have hI' := hI
  obtain ⟨X, dn, kn, E, St, f, Ds, ef, Dt, hch, hb, hic, hir⟩ := hI
  have hX := hch.2.2.2.2
  have h24 := hX.1
  rcases idx_dec a1 (n := X.n) (by omega) with h | ⟨m, hm, rfl⟩
  · refine creq_no hic.2.1.1 h (Or.inl ⟨rfl, ?_⟩)
    unfold RC_amend r_amend
    refine ract_no hir.2.1.1 h ⟨fun h => absurd rfl h, fun _ => ?_⟩
    exact ramend_no one_le0 (pex (up_self _ _ _ _) (by decide) (inv_thr hI'))
  · obtain ⟨kk, hk, hK, hargs⟩ := hX.2.1 m hm
    have hKc : S (2 + 2 * (nI m).toNatClampNeg) 0 = nI kk := by rw [nI_clamp (by omega), ← hK]; exact (hic.2.1.2 m (by omega)).1.1
    have hKr : S 149 (nI m).toNatClampNeg = nI kk := by rw [nI_clamp (by omega), ← hK]; exact (hir.2.1.2 m (by omega)).1.1
    have hna := nargs_le kk
    refine creq_yes hic.2.1.1 h24 hm ⟨q_in (by omega) (by omega), ?_⟩
    have no2 : ∀ l : Int32, r_amend_J53 (fun b S2 => S2 148 0 = 2 ∧ ((2 : Int32) = 0 → J 158 0 = b.toInt64) ∧ Inv S2) S (nI m) l a3 2 := fun l => ramend_no two_le0 (pex (up_self _ _ _ _) (by decide) (inv_thr hI'))
    rcases idx_dec a2 (n := 4) (by omega) with h2 | ⟨i, hi, rfl⟩
    · refine ctakes_out hKc hk h2 ⟨fun h => absurd rfl h, fun _ => Or.inr ⟨rfl, ?_⟩⟩
      unfold RC_amend r_amend
      refine ract_yes hir.2.1.1 h24 hm ⟨fun _ => ⟨fun _ => no2 a2, fun hn0 => ⟨q_in (by omega) (by omega), ?_⟩⟩, fun h => absurd h (by decide)⟩
      rw [hKr]
      refine rargs_ok hk ⟨fun _ => no2 a2, fun hlt => ?_⟩
      have h4 := h2.resolve_left hn0
      exfalso
      rw [Int32.lt_iff_toInt_lt, nI_toInt (by omega)] at h4
      rw [Int32.le_iff_toInt_le, nI_toInt (by omega)] at hlt
      omega
    · refine ctakes_ok hKc hk hi (fun hs => ⟨fun _ => ⟨q_in (by omega) (by omega), q_in (by omega) (by omega), ?_⟩, fun h => absurd h (by decide)⟩) (fun hs => ⟨fun h => absurd rfl h, fun _ => Or.inr ⟨rfl, ?_⟩⟩)
      · have hlt : i < nargs kk := by
          rcases Nat.lt_or_ge i (nargs kk) with q | q
          · exact q
          · rw [(nargs_so kk hk i hi).mpr q] at hs
            exact absurd hs sv_0
        have hold : S (2 + 2 * (nI m).toNatClampNeg + 1) (nI i).toNatClampNeg = (X.a m).2 i := by rw [nI_clamp (show m < 2 ^ 31 by omega), nI_clamp (show i < 2 ^ 31 by omega)]; exact ca_arg (hic.2.1.2 m (by omega)).1 hi
        rw [hold]
        have hl := lk_am hX hm hi hk hK hs
        obtain ⟨St', hch'⟩ := chain_new hch hl
        obtain ⟨Dy, ey, hby⟩ := good_ex hl.2.1 (fun j => (amX X m i a3).w j = 0)
        refine camend hch hb hic hm hi hl.2.1 hby (fun S' f' hic' hF' => ?_)
        have hir' : IR S' X dn kn E Ds ef := ir_fq hir (fun a i q => hF' a i (by unfold tIR at q; omega))
        have hKr' : S' 149 (nI m).toNatClampNeg = nI kk := by rw [hF' _ _ (by omega)]; exact hKr
        unfold RC_amend r_amend
        refine ract_yes hir'.2.1.1 h24 hm ⟨fun _ => ⟨fun h => absurd h (q_nlt0 (by omega)), fun _ => ⟨q_in (by omega) (by omega), ?_⟩⟩, fun h => absurd h (by decide)⟩
        rw [hKr']
        refine rargs_ok hk ⟨fun h => ?_, fun _ => ⟨q_in (by omega) (by omega), ?_⟩⟩
        · rw [q_le (by omega) (by omega)] at h
          omega
        · rw [hKr']
          exact risA_ok hk hlt (fun _ => ⟨fun _ => ramend_yes hch hir' hm hi hl.2.1 hby (fun S2 h20 hir2 hF2 => pst h20 rfl (inv_of hch' hby hic' hir2 hF2)), fun h => absurd h (by decide)⟩) (fun q => absurd hs q)
      · unfold RC_amend r_amend
        refine ract_yes hir.2.1.1 h24 hm ⟨fun _ => ⟨fun h => absurd h (q_nlt0 (by omega)), fun _ => ⟨q_in (by omega) (by omega), ?_⟩⟩, fun h => absurd h (by decide)⟩
        rw [hKr]
        refine rargs_ok hk ⟨fun _ => no2 _, fun h => ⟨q_in (by omega) (by omega), ?_⟩⟩
        rw [q_le (by omega) (by omega)] at h
        rw [hKr]
        exact risA_ok hk (by omega) (fun q => absurd q hs) (fun _ => ⟨fun h => absurd rfl h, fun _ => no2 _⟩)
