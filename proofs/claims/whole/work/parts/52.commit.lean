theorem mc_ov {S S' : Mem} {X : Xs} {c : Ac} {n' : Nat} (h : MC S X) (hX : Good X) (hn : X.n < 24) (h5 : S' 0 5 = nI n') (hA : CAc S' (2 + 2 * X.n) c) (hw : S' (2 + 2 * X.n) 1 = 0) (hF : ∀ a j, 2 ≤ a → a ≤ 49 → a ≠ 2 + 2 * X.n → a ≠ 2 + 2 * X.n + 1 → S' a j = S a j) : MC S' (mkX (updA X.a X.n c) X.w n') := by
  refine ⟨h5, fun i hi => ⟨?_, ?_⟩⟩
  · show CAc S' (2 + 2 * i) (if i = X.n then c else X.a i)
    by_cases hin : i = X.n
    · rw [if_pos hin, hin]; exact hA
    · rw [if_neg hin]
      exact ca_fq (h.2 i hi).1 (fun x => hF _ _ (by omega) (by omega) (by omega) (by omega)) (fun x => hF _ _ (by omega) (by omega) (by omega) (by omega))
  · by_cases hin : i = X.n
    · rw [hin, hw]
      exact (hX.2.2.1 X.n (Nat.le_refl _)).symm
    · rw [hF _ _ (by omega) (by omega) (by omega) (by omega)]
      exact (h.2 i hi).2
theorem rcommit {post : Int32 → Mem → Prop} {S : Mem} {X : Xs} {dn kn : Nat} {E : Nat → Nat → Int32} {St : Nat → Xs} {Ds Ds' : Nat → List Ob} {ef ef' : Nat → Int32} {kk : Nat} {a b c d : Int32} (hch : Ch dn kn E St X) (hb : Bse X Ds ef) (hir : IR S X dn kn E Ds ef) (hn : X.n < 24) (hk : kk < 10) (hY : Good (mkX (updA X.a X.n (nI kk, keep kk (ar4 a b c d))) X.w (X.n + 1))) (hby : Bse (mkX (updA X.a X.n (nI kk, keep kk (ar4 a b c d))) X.w (X.n + 1)) Ds' ef') (hp1 : ef' X.n = 1 → ∀ S', S' 148 0 = 0 → IR S' (mkX (updA X.a X.n (nI kk, keep kk (ar4 a b c d))) X.w (X.n + 1)) (dn1 dn) (dn1 dn) (shE E dn (ed5 0 (nI X.n) 0 0 0)) Ds' ef' → (∀ a i, a < 148 → S' a i = S a i) → post (nI X.n) S') (hp2 : ¬ ef' X.n = 1 → ∀ S', S' 148 0 = 2 → IR S' X dn kn E Ds ef → (∀ a i, a < 148 → S' a i = S a i) → post 0 S') : r_commit_J98 post S (nI kk) a b c d 1 := by
  have hX := hch.2.2.2.2
  obtain ⟨j1, j2, j3, j4⟩ := hir
  have em1 : nI (X.n + 1) - 1 = nI X.n := by rw [show (1 : Int32) = nI 1 from rfl, q_sub (by omega)]; rfl
  have c24 : ¬ nI X.n = 24 := by rw [show (24 : Int32) = nI 24 from rfl, q_eq (by omega) (by omega)]; omega
  intro S1 h1
  rw [if_neg (show ¬ (1 : Int32) = 0 by decide), j2.1, if_neg c24] at h1
  have h10 : S1 148 0 = 0 := by rw [h1, up_self]
  have hF1 : ∀ a i, ¬ (a = 148 ∧ i = 0) → S1 a i = S a i := fun a i q => by rw [h1, up_at, if_neg q]
  have k1 : S1 148 1 = nI X.n := by rw [hF1 _ _ (by omega)]; exact j2.1
  obtain ⟨⟨o, o0, o1, o2, o3⟩, ow⟩ := j2.2 X.n hn
  rw [← hF1 _ _ (by omega)] at o o0 o1 o2 o3
  rw [h10, k1, i40 hn, i41 hn, i42 hn, i43 hn, nI_clamp (show X.n < 2 ^ 31 by omega), o, o0, o1, o2, o3]
  refine ⟨fun _ => ⟨q_in (by omega) (by omega), v40 hn, v41 hn, v42 hn, v43 hn, rargs_ok hk (rargs_ok hk (rargs_ok hk ?_))⟩, fun h => absurd z_le0 h⟩
  obtain ⟨m0, m1, m2, m3⟩ := keep_1 hk (a := a) (b := b) (c := c) (d := d)
  rw [← m1, ← m2, ← m3]
  refine lay4_ok k1 hn (fun S5 hA5 hw5 hF5 S6 h6 => ?_)
  have k5 : S5 148 1 = nI X.n := by rw [hF5 _ _ (by omega) (by omega)]; exact k1
  rw [k5, q_1] at h6
  have hF6 : ∀ a j, ¬ (a = 148 ∧ j = 1) → S6 a j = S5 a j := fun a j q => by rw [h6, up_at, if_neg q]
  have hA6 : RAc S6 X.n (nI kk, keep kk (ar4 a b c d)) := by
    obtain ⟨g, g0, g1, g2, g3⟩ := hA5
    refine ⟨?_, ?_, ?_, ?_, ?_⟩
    · rw [hF6 _ _ (by omega)]; exact g
    · rw [hF6 _ _ (by omega), g0]; exact m0.symm
    · rw [hF6 _ _ (by omega)]; exact g1
    · rw [hF6 _ _ (by omega)]; exact g2
    · rw [hF6 _ _ (by omega)]; exact g3
  have hM6 : MR S6 (mkX (updA X.a X.n (nI kk, keep kk (ar4 a b c d))) X.w (X.n + 1)) := mr_ov j2 hX hn (by rw [h6, up_self]) hA6 (by rw [hF6 _ _ (by omega)]; exact hw5) (fun a j q1 q2 q3 => by rw [hF6 _ _ (by omega), hF5 _ _ q2 q3, hF1 _ _ (by omega)])
  refine go_x hM6 hY.1 hby (on_base hY.1) (fun S7 hR7 he7 hF7 => ?_)
  have k7 : S7 148 1 = nI (X.n + 1) := by rw [hF7 _ _ (by unfold tGo; omega), h6, up_self]
  rw [k7, em1, nI_clamp (show X.n < 2 ^ 31 by omega), he7 X.n (Nat.lt_succ_self _)]
  have hfr : ∀ a j, ¬ tGo a j → ¬ (a = 148 ∧ (j = 0 ∨ j = 1)) → a ≠ 149 → a ≠ 150 → a ≠ 151 → S7 a j = S a j := fun a j q1 q2 q3 q4 q5 => by rw [hF7 _ _ q1, hF6 _ _ (by omega), hF5 _ _ (by omega) (by omega), hF1 _ _ (by omega)]
  have hH7 : HR S7 dn kn E := hr_fq j1 (hfr _ _ (by unfold tGo; omega) (by omega) (by omega) (by omega) (by omega)) (hfr _ _ (by unfold tGo; omega) (by omega) (by omega) (by omega) (by omega)) (fun i => hfr _ _ (by unfold tGo; omega) (by omega) (by omega) (by omega) (by omega))
  have h70 : S7 148 0 = 0 := by rw [hF7 _ _ (by unfold tGo; omega), hF6 _ _ (by omega), hF5 _ _ (by omega) (by omega), h10]
  refine ⟨q_in (by omega) (by omega), fun he => ?_, fun he S9 h9 => ?_⟩
  · refine note_ok hH7 hch.1 hch.2.1 (fun S8 hH8 hF8 => ?_)
    have k8 : S8 148 1 = nI (X.n + 1) := by rw [hF8 _ _ (by unfold tNo; omega)]; exact k7
    rw [k8, em1]
    refine hp1 he S8 (by rw [hF8 _ _ (by unfold tNo; omega)]; exact h70) ⟨hH8, ?_, ?_, ?_⟩ (fun a i q => ?_)
    · exact mr_fq hM6 (by rw [hF8 _ _ (by unfold tNo; omega), hF7 _ _ (by unfold tGo; omega)]) (fun a i q => by rw [hF8 _ _ (by unfold tNo; omega), hF7 _ _ (by unfold tGo; omega)])
    · exact rd_fq hR7 (hF8 _ _ (by unfold tNo; omega)) (fun i => hF8 _ _ (by unfold tNo; omega))
    · intro i hi
      rw [hF8 _ _ (by unfold tNo; omega)]
      exact he7 i hi
    · rw [hF8 _ _ (by unfold tNo; omega)]
      exact hfr _ _ (by unfold tGo; omega) (by omega) (by omega) (by omega) (by omega)
  · have hF9 : ∀ a j, ¬ (a = 148 ∧ j = 1) → S9 a j = S7 a j := fun a j q => by rw [h9, up_at, if_neg q]
    refine lay4_ok (n := X.n) (by rw [h9, up_self]) hn (fun S10 hA10 hw10 hF10 => ?_)
    have hM10 : MR S10 X := by
      have := mr_ov (S := S) (S' := S10) (c := X.a X.n) (n' := X.n) j2 hX hn (by rw [hF10 _ _ (by omega) (by omega), h9, up_self]) hA10 hw10 (fun a j q1 q2 q3 => by rw [hF10 _ _ q2 q3, hF9 _ _ (by omega), hF7 _ _ (by unfold tGo; omega), hF6 _ _ (by omega), hF5 _ _ q2 q3, hF1 _ _ (by omega)])
      rw [ov_self] at this
      exact this
    refine go_x hM10 hX.1 hb (on_base hX.1) (fun S11 hR11 he11 hF11 S12 h12 => ?_)
    have hF12 : ∀ a j, ¬ (a = 148 ∧ j = 0) → S12 a j = S11 a j := fun a j q => by rw [h12, up_at, if_neg q]
    have hfr2 : ∀ a j, ¬ tGo a j → ¬ (a = 148 ∧ (j = 0 ∨ j = 1)) → a ≠ 149 → a ≠ 150 → a ≠ 151 → S12 a j = S a j := fun a j q1 q2 q3 q4 q5 => by rw [hF12 _ _ (by omega), hF11 _ _ q1, hF10 _ _ (by omega) (by omega), hF9 _ _ (by omega), hfr _ _ q1 q2 q3 q4 q5]
    refine hp2 he S12 (by rw [h12, up_self]) ⟨?_, ?_, ?_, ?_⟩ (fun a i q => hfr2 _ _ (by unfold tGo; omega) (by omega) (by omega) (by omega) (by omega))
    · exact hr_fq j1 (hfr2 _ _ (by unfold tGo; omega) (by omega) (by omega) (by omega) (by omega)) (hfr2 _ _ (by unfold tGo; omega) (by omega) (by omega) (by omega) (by omega)) (fun i => hfr2 _ _ (by unfold tGo; omega) (by omega) (by omega) (by omega) (by omega))
    · exact mr_fq hM10 (by rw [hF12 _ _ (by omega), hF11 _ _ (by unfold tGo; omega)]) (fun a i q => by rw [hF12 _ _ (by omega), hF11 _ _ (by unfold tGo; omega)])
    · exact rd_fq hR11 (hF12 _ _ (by omega)) (fun i => hF12 _ _ (by omega))
    · intro i hi
      rw [hF12 _ _ (by omega)]
      exact he11 i hi
theorem vac_keep {kk : Nat} {A : Nat → Int32} (hk : kk < 10) (h : ∀ i, i < 4 → okA kk A i) : vac (nI kk, keep kk A) := by
  refine ⟨kk, hk, rfl, fun i hi => ?_⟩
  by_cases h0 : sortsF (4 * kk + i) = 0
  · exact Or.inl h0
  · right
    show sv _ (if sortsF (4 * kk + i) = 0 then 0 else A i)
    rw [if_neg h0]
    exact (h i hi).resolve_left h0
theorem inv_50 {S S' : Mem} (h : Inv S) (hF : Fq t50 S S') : Inv S' := inv_fq h (fun a i q => hF a i (by unfold tIC tIR at q; unfold t50; omega))
theorem ok_commit : OK_commit Inv := by
  intro S J a1 a2 a3 a4 a5 hI
  by_cases hbad : a1 < 0 ∨ 9 < a1
  · refine cbec_bad hbad (fun S1 hK1 hF1 => cvalid_bad hK1 hbad ⟨fun h => absurd rfl h, fun _ => Or.inl ⟨rfl, rvalid_bad hbad (j98_no (k := 1) (if_pos rfl) one_le0 (pex (up_self _ _ _ _) (by decide) (inv_thr (inv_50 hI hF1))))⟩⟩)
  · obtain ⟨kk, hk, rfl⟩ : ∃ kk, kk < 10 ∧ a1 = nI kk := by
      refine idx (by omega) (fun h => hbad (Or.inl h)) ?_
      have h9 : ¬ 9 < a1 := fun h => hbad (Or.inr h)
      rw [Int32.lt_iff_toInt_lt, show (9 : Int32).toInt = 9 by decide] at h9
      rw [Int32.lt_iff_toInt_lt, nI_toInt (by omega)]
      omega
    refine cbec_kind hk (fun S1 hA1 hw1 hF1 => ?_)
    have hI1 := inv_50 hI hF1
    have hI1' := hI1
    obtain ⟨X, dn, kn, E, St, f, Ds, ef, Dt, hch, hb, hic, hir⟩ := hI1
    have hX := hch.2.2.2.2
    have h24 := hX.1
    have hW := bse_wf hb
    refine cvalid hk hA1 (fun hok => ⟨fun _ => ?_, fun h => absurd h (by decide)⟩) (fun hno => ⟨fun h => absurd rfl h, fun _ => Or.inl ⟨rfl, rvalid hk (fun q => absurd q hno) (fun _ => j98_no (k := 1) (if_pos rfl) one_le0 (pex (up_self _ _ _ _) (by decide) (inv_thr hI1')))⟩⟩)
    have c24 : (24 : Int32) ≤ nI X.n ↔ 24 ≤ X.n := by rw [show (24 : Int32) = nI 24 from rfl, q_le (by omega) (by omega)]
    rw [hic.2.1.1, c24]
    refine ⟨fun h => Or.inr ⟨rfl, rvalid hk (fun _ => j98_no (k := 2) ?_ two_le0 (pex (up_self _ _ _ _) (by decide) (inv_thr hI1'))) (fun q => absurd hok q)⟩, fun hn' => ?_⟩
    · rw [if_neg (show ¬ (1 : Int32) = 0 by decide), hir.2.1.1, if_pos]
      rw [show X.n = 24 by omega]
      rfl
    have hn : X.n < 24 := by omega
    have hvac := vac_keep hk hok
    have hYg : Good (mkX (updA X.a X.n (nI kk, keep kk (ar4 a2 a3 a4 a5))) X.w (X.n + 1)) := by
      refine ⟨hn, fun i hi => ?_, fun i hi => hX.2.2.1 i (Nat.le_of_succ_le hi), hX.2.2.2⟩
      have hi' : i < X.n + 1 := hi
      show vac (if i = X.n then _ else X.a i)
      by_cases hin : i = X.n
      · rw [if_pos hin]; exact hvac
      · rw [if_neg hin]; exact hX.2.1 i (by omega)
    have hwn : X.w X.n = 0 := hX.2.2.1 X.n (Nat.le_refl _)
    have hSq : Seq (updA X.a X.n (nI kk, keep kk (ar4 a2 a3 a4 a5))) (fun i => X.w i = 0) X.n Ds ef := seq_congr hb (fun i hi => if_neg (by omega)) (fun i hi => Iff.rfl)
    have han : updA X.a X.n (nI kk, keep kk (ar4 a2 a3 a4 a5)) X.n = (nI kk, keep kk (ar4 a2 a3 a4 a5)) := if_pos rfl
    rcases step hW hn (vac_va hvac) with ⟨D', hYes⟩ | hNo
    · have hby : Bse (mkX (updA X.a X.n (nI kk, keep kk (ar4 a2 a3 a4 a5))) X.w (X.n + 1)) (updD Ds (X.n + 1) D') (updE ef X.n 1) := seq_ext hSq (by rw [han]; exact Or.inr (Or.inl ⟨hwn, rfl, hYes⟩))
      have eD : updD Ds (X.n + 1) D' (X.n + 1) = D' := if_pos rfl
      obtain ⟨St1, hch1⟩ := chain_ov hch (nI kk, keep kk (ar4 a2 a3 a4 a5))
      have hlk : Lk (ed5 0 (nI X.n) 0 0 0) (ov X.n (nI kk, keep kk (ar4 a2 a3 a4 a5)) X) (mkX (updA X.a X.n (nI kk, keep kk (ar4 a2 a3 a4 a5))) X.w (X.n + 1)) := ⟨hch1.2.2.2.2, hYg, Or.inl ⟨rfl, rfl, hn, rfl⟩⟩
      obtain ⟨St2, hch2⟩ := chain_new hch1 hlk
      obtain ⟨i1, i2, i3, i4, i5, i6, i7⟩ := hic
      refine hYes.2.2.2.1 _ S1 87 50 i3 hA1 (Or.inl (by omega)) (fun S3 hC3 hF3 => ⟨fun _ => ?_, fun h => absurd h (by decide)⟩)
      have h05 : S3 0 5 = nI X.n := by rw [hF3 _ _ (by unfold tC; omega)]; exact i2.1
      rw [h05, nI_clamp (show X.n < 2 ^ 31 by omega), q_1]
      refine ⟨q_in (by omega) (by omega), fun S4 e4 => ?_⟩
      have h501 : S4 50 1 = 0 := by rw [e4, up_at, if_neg (by omega), hF3 _ _ (by unfold tC; omega)]; exact hw1
      rw [h501]
      refine ⟨nar0, fun S5 e5 S6 e6 => ⟨q_in (by omega) (by omega), fun S7 e7 S8 e8 => ?_⟩⟩
      have hfr : ∀ a j, a ≠ 2 + 2 * X.n → a ≠ 2 + 2 * X.n + 1 → ¬ (a = 115 ∧ j = X.n) → ¬ (a = 0 ∧ j = 5) → S8 a j = S3 a j := fun a j q1 q2 q3 q4 => by rw [e8, up_at, if_neg q4, e7, up_at, if_neg q3, e6, cpy_at, if_neg (by omega), e5, up_at, if_neg (by omega), e4, up_at, if_neg (by omega)]
      have hfr1 : ∀ a j, a ≠ 2 + 2 * X.n → a ≠ 2 + 2 * X.n + 1 → ¬ (a = 115 ∧ j = X.n) → ¬ (a = 0 ∧ j = 5) → ¬ (87 ≤ a ∧ a < 115) → S8 a j = S1 a j := fun a j q1 q2 q3 q4 q5 => by rw [hfr _ _ q1 q2 q3 q4, hF3 _ _ (by unfold tC; omega)]
      have hcell : ∀ j, j < 4 → S8 (2 + 2 * X.n + 1) j = S1 51 j := fun j hj => by
        rw [e8, up_at, if_neg (by omega), e7, up_at, if_neg (by omega), e6, cpy_at, if_pos ⟨rfl, by omega, by omega⟩, show 0 + (j - 0) = j by omega]
        show S5 51 j = S1 51 j
        rw [e5, up_at, if_neg (by omega), e4, up_at, if_neg (by omega), hF3 _ _ (by unfold tC; omega)]
      have hA8 : CAc S8 (2 + 2 * X.n) (nI kk, keep kk (ar4 a2 a3 a4 a5)) := by
        obtain ⟨g, g0, g1, g2, g3⟩ := hA1
        refine ⟨?_, (hcell 0 (by omega)).trans g0, (hcell 1 (by omega)).trans g1, (hcell 2 (by omega)).trans g2, (hcell 3 (by omega)).trans g3⟩
        rw [e8, up_at, if_neg (by omega), e7, up_at, if_neg (by omega), e6, cpy_at, if_neg (by omega), e5, up_at, if_neg (by omega), e4, up_self, hF3 _ _ (by unfold tC; omega)]
        exact g
      have hw8 : S8 (2 + 2 * X.n) 1 = 0 := by rw [e8, up_at, if_neg (by omega), e7, up_at, if_neg (by omega), e6, cpy_at, if_neg (by omega), e5, up_self]
      have hM8 : MC S8 (mkX (updA X.a X.n (nI kk, keep kk (ar4 a2 a3 a4 a5))) X.w (X.n + 1)) := mc_ov i2 hX hn (by rw [e8, up_self]) hA8 hw8 (fun a j q1 q2 q3 q4 => hfr1 _ _ q3 q4 (by omega) (by omega) (by omega))
      have hH8 : HC S8 f dn kn E := hc_fq i1 (fun a j q => hfr1 _ _ (by omega) (by omega) (by omega) (by omega) (by omega))
      have hWD := hYes.2.2.2.2
      refine cadd_ok hH8 hch.1 hch.2.1 (fun S9 f' hH9 hF9 => ?_)
      have hic9 : IC S9 (mkX (updA X.a X.n (nI kk, keep kk (ar4 a2 a3 a4 a5))) X.w (X.n + 1)) f' (dn1 dn) (dn1 dn) (shE E dn (ed5 0 (nI X.n) 0 0 0)) (updD Ds (X.n + 1) D') (updE ef X.n 1) Dt := by
        refine ⟨hH9, mc_fq hM8 (hF9 _ _ (by unfold tHi; omega)) (fun a j q1 q2 => hF9 _ _ (by unfold tHi; omega)), ?_, fun i hi => ?_, ?_, i6, i7⟩
        · show CD S9 87 (updD Ds (X.n + 1) D' (X.n + 1))
          rw [eD]
          exact cd_out hC3 hWD.2.1 (fun a j q1 q2 => by rw [hF9 _ _ (by unfold tHi; omega), hfr _ _ (by omega) (by omega) (by omega) (by omega)])
        · have hi' : i < X.n + 1 := hi
          rw [hF9 _ _ (by unfold tHi; omega)]
          show S8 115 i = if i = X.n then 1 else ef i
          by_cases hin : i = X.n
          · rw [if_pos hin, hin, e8, up_at, if_neg (by omega), e7, up_self]
          · rw [if_neg hin, hfr1 _ _ (by omega) (by omega) (by omega) (by omega) (by omega)]
            exact i4 i (by omega)
        · exact cd_out i5 i6 (fun a j q1 q2 => by rw [hF9 _ _ (by unfold tHi; omega), hfr1 _ _ (by omega) (by omega) (by omega) (by omega) (by omega)])
      have hir9 : IR S9 X dn kn E Ds ef := ir_fq hir (fun a j q => by rw [hF9 _ _ (by unfold tIR at q; unfold tHi; omega), hfr1 _ _ (by unfold tIR at q; omega) (by unfold tIR at q; omega) (by unfold tIR at q; omega) (by unfold tIR at q; omega) (by unfold tIR at q; omega)])
      refine rvalid hk (fun _ => rcommit hch hb hir9 hn hk hYg hby (fun _ S' h0 hir' hF' => pst h0 rfl (inv_of hch2 hby hic9 hir' hF')) (fun hne => absurd (if_pos rfl) hne)) (fun q => absurd hok q)
    · have hby : Bse (mkX (updA X.a X.n (nI kk, keep kk (ar4 a2 a3 a4 a5))) X.w (X.n + 1)) (updD Ds (X.n + 1) (Ds X.n)) (updE ef X.n 2) := seq_ext hSq (by rw [han]; exact Or.inr (Or.inr ⟨hwn, rfl, hNo, rfl⟩))
      have hic' := hic
      obtain ⟨i1, i2, i3, i4, i5, i6, i7⟩ := hic
      refine hNo.2 _ S1 87 50 i3 hA1 (Or.inl (by omega)) (fun S3 hC3 hF3 => ⟨fun h => absurd rfl h, fun _ => Or.inr ⟨rfl, ?_⟩⟩)
      have hir3 : IR S3 X dn kn E Ds ef := ir_fq hir (fun a j q => hF3 _ _ (by unfold tIR at q; unfold tC; omega))
      have hic3 : IC S3 X f dn kn E Ds ef Dt := by
        refine ⟨hc_fq i1 (fun a j q => hF3 _ _ (by unfold tC; omega)), mc_fq i2 (hF3 _ _ (by unfold tC; omega)) (fun a j q1 q2 => hF3 _ _ (by unfold tC; omega)), hC3, fun i hi => ?_, cd_out i5 i6 (fun a j q1 q2 => hF3 _ _ (by unfold tC; omega)), i6, i7⟩
        rw [hF3 _ _ (by unfold tC; omega)]
        exact i4 i hi
      have e2 : ¬ updE ef X.n 2 X.n = 1 := by
        rw [show updE ef X.n 2 X.n = 2 from if_pos rfl]
        decide
      refine rvalid hk (fun _ => rcommit hch hb hir3 hn hk hYg hby (fun he => absurd he e2) (fun _ S' h0 hir' hF' => pex h0 (by decide) (inv_of hch hb hic3 hir' hF'))) (fun q => absurd hok q)
theorem inv_0 : Inv S0 := by
  have hG : Gd [] := ⟨fun i j a b h => by simp at h, by simp, fun i a h => by simp at h⟩
  have hgood : Good (mkX (fun _ => (0, fun _ => 0)) (fun _ => 0) 0) := ⟨Nat.zero_le _, fun i hi => absurd hi (Nat.not_lt_zero i), fun _ _ => rfl, fun _ => Or.inl rfl⟩
  have hcd : ∀ d, CD S0 d [] := fun d => ⟨⟨rfl, fun k o h => by simp at h⟩, fun o ho => (by cases ho), fun o ho => (by cases ho), fun _ _ _ => rfl⟩
  refine ⟨mkX (fun _ => (0, fun _ => 0)) (fun _ => 0) 0, 0, 0, fun _ _ => 0, fun _ => mkX (fun _ => (0, fun _ => 0)) (fun _ => 0) 0, 0, fun _ => [], fun _ => 0, [], ⟨Nat.le_refl _, by omega, fun i hi => absurd hi (Nat.not_lt_zero i), rfl, hgood⟩, ⟨rfl, fun i hi => absurd hi (Nat.not_lt_zero i)⟩, ⟨⟨by omega, rfl, rfl, rfl, fun i hi => absurd hi (Nat.not_lt_zero i)⟩, ⟨rfl, fun _ _ => ⟨⟨rfl, rfl, rfl, rfl, rfl⟩, rfl⟩⟩, hcd 87, fun i hi => absurd hi (Nat.not_lt_zero i), hcd 118, hG, by simp⟩, ⟨⟨rfl, rfl, fun i hi => absurd hi (Nat.not_lt_zero i)⟩, ⟨rfl, fun _ _ => ⟨⟨rfl, rfl, rfl, rfl, rfl⟩, rfl⟩⟩, ⟨rfl, fun k o h => by simp at h⟩, fun i hi => absurd hi (Nat.not_lt_zero i)⟩⟩
