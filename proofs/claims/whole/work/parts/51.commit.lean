def ar4 (a b c d : Int32) (i : Nat) : Int32 := if i = 0 then a else if i = 1 then b else if i = 2 then c else d
/-- the arguments that are kept: others are 0 -/
def keep (kk : Nat) (A : Nat → Int32) (i : Nat) : Int32 := if sortsF (4 * kk + i) = 0 then 0 else A i
def t50 (a _i : Nat) : Prop := a = 50 ∨ a = 51
theorem cbec_kind {post : Mem → Prop} {S : Mem} {kk : Nat} {a b c d : Int32} (hk : kk < 10) (hp : ∀ S', CAc S' 50 (nI kk, keep kk (ar4 a b c d)) → S' 50 1 = 0 → Fq t50 S S' → post S') : ca_become post S 50 (nI kk) a b c d := by
  intro S1 h1 S2 h2
  have k2 : S2 50 0 = nI kk := by rw [h2, up_at, if_neg (by omega), h1, up_self]
  refine csort_ok (i := 0) k2 hk (by omega) (fun S4 h4 => ?_)
  have k4 : S4 50 0 = nI kk := by rw [h4, up_at, if_neg (by omega)]; exact k2
  refine csort_ok (i := 1) k4 hk (by omega) (fun S6 h6 => ?_)
  have k6 : S6 50 0 = nI kk := by rw [h6, up_at, if_neg (by omega)]; exact k4
  refine csort_ok (i := 2) k6 hk (by omega) (fun S8 h8 => ?_)
  have k8 : S8 50 0 = nI kk := by rw [h8, up_at, if_neg (by omega)]; exact k6
  refine csort_ok (i := 3) k8 hk (by omega) (fun S10 h10 => ?_)
  refine hp S10 ⟨?_, ?_, ?_, ?_, ?_⟩ ?_ ?_
  · rw [h10, up_at, if_neg (by omega)]; exact k8
  · rw [h10, up_at, if_neg (by omega), h8, up_at, if_neg (by omega), h6, up_at, if_neg (by omega), h4, up_self]; rfl
  · rw [h10, up_at, if_neg (by omega), h8, up_at, if_neg (by omega), h6, up_self]; rfl
  · rw [h10, up_at, if_neg (by omega), h8, up_self]; rfl
  · rw [h10, up_self]; rfl
  · rw [h10, up_at, if_neg (by omega), h8, up_at, if_neg (by omega), h6, up_at, if_neg (by omega), h4, up_at, if_neg (by omega), h2, up_self]
  · intro x j hx
    unfold t50 at hx
    rw [h10, up_at, if_neg (by omega), h8, up_at, if_neg (by omega), h6, up_at, if_neg (by omega), h4, up_at, if_neg (by omega), h2, up_at, if_neg (by omega), h1, up_at, if_neg (by omega)]
theorem cbec_bad {post : Mem → Prop} {S : Mem} {K a b c d : Int32} (hK : K < 0 ∨ 9 < K) (hp : ∀ S', S' 50 0 = K → Fq t50 S S' → post S') : ca_become post S 50 K a b c d := by
  intro S1 h1 S2 h2
  have k2 : S2 50 0 = K := by rw [h2, up_at, if_neg (by omega), h1, up_self]
  refine csort_bad (by rw [k2]; exact hK) (fun S4 h4 => ?_)
  have k4 : S4 50 0 = K := by rw [h4, up_at, if_neg (by omega)]; exact k2
  refine csort_bad (by rw [k4]; exact hK) (fun S6 h6 => ?_)
  have k6 : S6 50 0 = K := by rw [h6, up_at, if_neg (by omega)]; exact k4
  refine csort_bad (by rw [k6]; exact hK) (fun S8 h8 => ?_)
  have k8 : S8 50 0 = K := by rw [h8, up_at, if_neg (by omega)]; exact k6
  refine csort_bad (by rw [k8]; exact hK) (fun S10 h10 => ?_)
  refine hp S10 (by rw [h10, up_at, if_neg (by omega)]; exact k8) (fun x j hx => ?_)
  unfold t50 at hx
  rw [h10, up_at, if_neg (by omega), h8, up_at, if_neg (by omega), h6, up_at, if_neg (by omega), h4, up_at, if_neg (by omega), h2, up_at, if_neg (by omega), h1, up_at, if_neg (by omega)]
def okA (kk : Nat) (A : Nat → Int32) (i : Nat) : Prop := sortsF (4 * kk + i) = 0 ∨ sv (sortsF (4 * kk + i)) (A i)
theorem cvalid {post : Int32 → Mem → Prop} {S : Mem} {kk : Nat} {A : Nat → Int32} (hk : kk < 10) (hA : CAc S 50 (nI kk, keep kk A)) (hy : (∀ i, i < 4 → okA kk A i) → post 1 S) (hn : ¬ (∀ i, i < 4 → okA kk A i) → post 0 S) : ca_isValid post S 50 := by
  have hK : S 50 0 = nI kk := hA.1
  have key : ∀ (r i : Nat), i + r = 4 → (∀ j, j < i → okA kk A j) → ca_isValid_L20 post (r + 1) S 50 (nI i) := by
    intro r
    induction r with
    | zero =>
      intro i hi hj
      have : i = 4 := by omega
      subst this
      unfold ca_isValid_L20
      exact ⟨fun _ => hy hj, fun h => absurd (show (4 : Int32) ≤ nI 4 from Int32.le_refl _) h⟩
    | succ r ih =>
      intro i hi hj
      have next : okA kk A i → ca_isValid_L20 post (r + 1) S 50 (nI (i + 1)) := by
        intro ho
        refine ih (i + 1) (by omega) (fun j q => ?_)
        by_cases hji : j = i
        · rw [hji]; exact ho
        · exact hj j (by omega)
      unfold ca_isValid_L20
      rw [q_1]
      refine ⟨fun h => ?_, fun _ => csort_ok hK hk (by omega) ⟨fun h => next (Or.inl h), fun hne => ⟨q_in (by omega) (by omega), ?_⟩⟩⟩
      · rw [show (4 : Int32) = nI 4 from rfl, q_le (by omega) (by omega)] at h
        omega
      · have harg : S (50 + 1) (nI i).toNatClampNeg = A i := by
          rw [nI_clamp (by omega), ca_arg hA (by omega)]
          exact if_neg hne
        rw [harg]
        exact ctakes_ok hK hk (by omega) (fun hs => ⟨fun _ => next (Or.inr hs), fun h => absurd h (by decide)⟩) (fun hs => ⟨fun h => absurd rfl h, fun _ => hn (fun q => (q i (by omega)).elim hne hs)⟩)
  unfold ca_isValid
  rw [hK]
  refine ⟨fun h => absurd h (q_nlt0 (by omega)), fun _ => ⟨fun _ => ⟨5, key 4 0 (by omega) (fun j hj => absurd hj (by omega))⟩, fun h => absurd ?_ h⟩⟩
  rw [show (9 : Int32) = nI 9 from rfl, q_le (by omega) (by omega)]
  omega
theorem cvalid_bad {post : Int32 → Mem → Prop} {S : Mem} {K : Int32} (hK : S 50 0 = K) (hb : K < 0 ∨ 9 < K) (hp : post 0 S) : ca_isValid post S 50 := by
  unfold ca_isValid
  rw [hK]
  refine ⟨fun _ => hp, fun h0 => ⟨fun h9 => ?_, fun _ => hp⟩⟩
  have := hb.resolve_left h0
  rw [Int32.lt_iff_toInt_lt] at this
  rw [Int32.le_iff_toInt_le] at h9
  omega
theorem rvalid {post : Int32 → Mem → Prop} {S : Mem} {kk : Nat} {a b c d : Int32} (hk : kk < 10) (hy : (∀ i, i < 4 → okA kk (ar4 a b c d) i) → r_commit_J98 post S (nI kk) a b c d 1) (hn : ¬ (∀ i, i < 4 → okA kk (ar4 a b c d) i) → r_commit_J98 post S (nI kk) a b c d 0) : r_commit post S (nI kk) a b c d := by
  have key : ∀ (r i : Nat), i + r = 4 → (∀ j, j < i → okA kk (ar4 a b c d) j) → r_commit_L20 post (r + 1) S (nI kk) a b c d 1 (nI i) := by
    intro r
    induction r with
    | zero =>
      intro i hi hj
      have : i = 4 := by omega
      subst this
      unfold r_commit_L20
      exact ⟨fun _ => hy hj, fun h => absurd (show (4 : Int32) ≤ nI 4 from Int32.le_refl _) h⟩
    | succ r ih =>
      intro i hi hj
      have hsn := nargs_so kk hk i (by omega)
      have hna := nargs_le kk
      have next : okA kk (ar4 a b c d) i → r_commit_L20 post (r + 1) S (nI kk) a b c d 1 (nI (i + 1)) := by
        intro ho
        refine ih (i + 1) (by omega) (fun j q => ?_)
        by_cases hji : j = i
        · rw [hji]; exact ho
        · exact hj j (by omega)
      have stop : ¬ okA kk (ar4 a b c d) i → r_commit_L20 post (r + 1) S (nI kk) a b c d 0 (nI (i + 1)) := by
        intro ho
        have hh := hn (fun q => ho (q i (by omega)))
        unfold r_commit_L20
        exact ⟨fun _ => hh, fun _ => ⟨fun _ => hh, fun h => absurd rfl h⟩⟩
      have harg : (if nI i = 0 then a else (if nI i = 1 then b else (if nI i = 2 then c else d : Int32) : Int32) : Int32) = ar4 a b c d i := by
        rcases (show i = 0 ∨ i = 1 ∨ i = 2 ∨ i = 3 by omega) with rfl | rfl | rfl | rfl <;> rfl
      unfold r_commit_L20
      rw [q_1, harg]
      refine ⟨fun h => ?_, fun _ => ⟨fun h => absurd h (by decide), fun _ => rargs_ok hk ⟨fun h => ?_, fun h => ?_⟩⟩⟩
      · rw [show (4 : Int32) = nI 4 from rfl, q_le (by omega) (by omega)] at h
        omega
      · rw [q_le (by omega) (by omega)] at h
        exact next (Or.inl (hsn.mpr h))
      · rw [q_le (by omega) (by omega)] at h
        refine risA_ok hk (by omega) (fun hs => ⟨fun h => absurd h (by decide), fun _ => next (Or.inr hs)⟩) (fun hs => ⟨fun _ => stop (fun q => ?_), fun h => absurd rfl h⟩)
        rcases q with q | q
        · exact h (hsn.mp q)
        · exact hs q
  have h9 : (9 : Int32) < nI kk ↔ 9 < kk := by rw [show (9 : Int32) = nI 9 from rfl, q_lt (by omega) (by omega)]
  unfold r_commit
  rw [if_neg (q_nlt0 (a := kk) (by omega)), if_neg (fun q => absurd (h9.mp q) (by omega))]
  exact ⟨5, key 4 0 (by omega) (fun j hj => absurd hj (by omega))⟩
theorem rvalid_bad {post : Int32 → Mem → Prop} {S : Mem} {K a b c d : Int32} (hb : K < 0 ∨ 9 < K) (hn : r_commit_J98 post S K a b c d 0) : r_commit post S K a b c d := by
  have hv : (if K < 0 then 0 else (if 9 < K then 0 else 1 : Int32) : Int32) = 0 := by
    by_cases h : K < 0
    · rw [if_pos h]
    · rw [if_neg h, if_pos (hb.resolve_left h)]
  unfold r_commit
  rw [hv]
  refine ⟨0 + 1, ?_⟩
  unfold r_commit_L20
  exact ⟨fun _ => hn, fun _ => ⟨fun _ => hn, fun h => absurd rfl h⟩⟩
theorem j98_no {post : Int32 → Mem → Prop} {S : Mem} {l1 l2 l3 l4 l5 l6 k : Int32} (hk : (if l6 = 0 then 1 else (if (S 148 1) = 24 then 2 else 0 : Int32) : Int32) = k) (hk0 : ¬ k ≤ 0) (hp : post 0 (up2 S 148 0 k)) : r_commit_J98 post S l1 l2 l3 l4 l5 l6 := by
  intro S1 h1
  rw [hk] at h1
  subst h1
  rw [up_self]
  exact ⟨fun h => absurd h hk0, fun _ => hp⟩
theorem lay4_ok {post : Mem → Prop} {S : Mem} {n : Nat} {l1 l2 l3 l4 l5 : Int32} (hn : S 148 1 = nI n) (h24 : n < 24) (hp : ∀ S', RA S' n l1 l2 l3 l4 l5 → S' 151 n = 0 → (∀ a j, ¬ ((a = 149 ∨ a = 151) ∧ j = n) → ¬ (a = 150 ∧ 4 * n ≤ j ∧ j < 4 * n + 4) → S' a j = S a j) → post S') : r_lay4 post S l1 l2 l3 l4 l5 := by
  have n4m : 4 * nI n = nI (4 * n) := by rw [show (4 : Int32) = nI 4 from rfl, q_mul]
  unfold r_lay4
  rw [hn, nI_clamp (by omega)]
  refine ⟨q_in (by omega) (by omega), fun S1 h1 => ?_⟩
  have k1 : S1 148 1 = nI n := by rw [h1, up_at, if_neg (by omega)]; exact hn
  rw [k1, n4m, nI_clamp (show 4 * n < 2 ^ 31 by omega)]
  refine ⟨q_in (by omega) (by omega), fun S2 h2 => ?_⟩
  have k2 : S2 148 1 = nI n := by rw [h2, up_at, if_neg (by omega)]; exact k1
  rw [k2, n4m, q_1, nI_clamp (show 4 * n + 1 < 2 ^ 31 by omega)]
  refine ⟨q_in (by omega) (by omega), fun S3 h3 => ?_⟩
  have k3 : S3 148 1 = nI n := by rw [h3, up_at, if_neg (by omega)]; exact k2
  rw [k3, n4m, show nI (4 * n) + 2 = nI (4 * n + 2) from q_add (4 * n) 2, nI_clamp (show 4 * n + 2 < 2 ^ 31 by omega)]
  refine ⟨q_in (by omega) (by omega), fun S4 h4 => ?_⟩
  have k4 : S4 148 1 = nI n := by rw [h4, up_at, if_neg (by omega)]; exact k3
  rw [k4, n4m, show nI (4 * n) + 3 = nI (4 * n + 3) from q_add (4 * n) 3, nI_clamp (show 4 * n + 3 < 2 ^ 31 by omega)]
  refine ⟨q_in (by omega) (by omega), fun S5 h5 => ?_⟩
  have k5 : S5 148 1 = nI n := by rw [h5, up_at, if_neg (by omega)]; exact k4
  rw [k5, nI_clamp (by omega), nar0]
  refine ⟨q_in (by omega) (by omega), fun S6 h6 => hp S6 ⟨?_, ?_, ?_, ?_, ?_⟩ ?_ (fun a j q1 q2 => ?_)⟩
  · rw [h6, up_at, if_neg (by omega), h5, up_at, if_neg (by omega), h4, up_at, if_neg (by omega), h3, up_at, if_neg (by omega), h2, up_at, if_neg (by omega), h1, up_self]
  · rw [h6, up_at, if_neg (by omega), h5, up_at, if_neg (by omega), h4, up_at, if_neg (by omega), h3, up_at, if_neg (by omega), h2, up_at, if_pos ⟨rfl, rfl⟩]
  · rw [h6, up_at, if_neg (by omega), h5, up_at, if_neg (by omega), h4, up_at, if_neg (by omega), h3, up_self]
  · rw [h6, up_at, if_neg (by omega), h5, up_at, if_neg (by omega), h4, up_self]
  · rw [h6, up_at, if_neg (by omega), h5, up_self]
  · rw [h6, up_self]
  · rw [h6, up_at, if_neg (by omega), h5, up_at, if_neg (by omega), h4, up_at, if_neg (by omega), h3, up_at, if_neg (by omega), h2, up_at, if_neg (by omega), h1, up_at, if_neg (by omega)]
/-- entry n holds c -/
def ov (n : Nat) (c : Ac) (Z : Xs) : Xs := mkX (updA Z.a n c) Z.w Z.n
theorem good_ov {n : Nat} {c : Ac} {Z : Xs} (h : Good Z) (hn : Z.n ≤ n) : Good (ov n c Z) := by
  refine ⟨h.1, fun i hi => ?_, h.2.2.1, h.2.2.2⟩
  show vac (if i = n then c else Z.a i)
  have hi' : i < Z.n := hi
  rw [if_neg (by omega)]
  exact h.2.1 i hi
theorem lk_n {e : Nat → Int32} {X Y : Xs} (h : Lk e X Y) : X.n ≤ Y.n := by
  rcases h.2.2 with ⟨-, -, -, rfl⟩ | ⟨-, m, -, -, -, rfl⟩ | ⟨-, m, -, -, -, rfl⟩ | ⟨-, m, i, -, -, -, -, -, rfl⟩
  · exact Nat.le_succ _
  · exact Nat.le_refl _
  · exact Nat.le_refl _
  · exact Nat.le_refl _
theorem lk_ov {e : Nat → Int32} {X Y : Xs} {n : Nat} {c : Ac} (h : Lk e X Y) (hn : Y.n ≤ n) : Lk e (ov n c X) (ov n c Y) := by
  have hxy := lk_n h
  refine ⟨good_ov h.1 (by omega), good_ov h.2.1 hn, ?_⟩
  rcases h.2.2 with ⟨k0, k1, hx, rfl⟩ | ⟨k0, m, hm, k1, h0, rfl⟩ | ⟨k0, m, hm, k1, h0, rfl⟩ | ⟨k0, m, i, hm, hi, k1, k2, k3, rfl⟩
  · exact Or.inl ⟨k0, k1, hx, rfl⟩
  · exact Or.inr (Or.inl ⟨k0, m, hm, k1, h0, rfl⟩)
  · exact Or.inr (Or.inr (Or.inl ⟨k0, m, hm, k1, h0, rfl⟩))
  · have hmn : ¬ m = n := by
      have : X.n ≤ n := hn
      omega
    have ha : (ov n c X).a m = X.a m := if_neg hmn
    refine Or.inr (Or.inr (Or.inr ⟨k0, m, i, hm, hi, k1, k2, by rw [ha]; exact k3, ?_⟩))
    rw [ha]
    show mkX (updA (updA X.a m ((X.a m).1, updE (X.a m).2 i (e 4))) n c) X.w X.n = mkX (updA (updA X.a n c) m ((X.a m).1, updE (X.a m).2 i (e 4))) X.w X.n
    congr 1
    funext j
    unfold updA
    by_cases h1 : j = n
    · rw [if_pos h1, if_neg (by omega), if_pos h1]
    · rw [if_neg h1]
      by_cases h2 : j = m
      · rw [if_pos h2, if_pos h2]
      · rw [if_neg h2, if_neg h2, if_neg h1]
theorem chain_ov {dn kn : Nat} {E : Nat → Nat → Int32} {St : Nat → Xs} {X : Xs} (h : Ch dn kn E St X) (c : Ac) : ∃ St', Ch dn dn E St' (ov X.n c X) := by
  obtain ⟨h1, h2, h3, h4, h5⟩ := h
  have hmon : ∀ r i, i + r = dn → (St i).n ≤ X.n := by
    intro r
    induction r with
    | zero =>
      intro i hi
      have : i = dn := by omega
      rw [this, h4]
      exact Nat.le_refl _
    | succ r ih =>
      intro i hi
      exact Nat.le_trans (lk_n (h3 i (by omega))) (ih (i + 1) (by omega))
  refine ⟨fun i => ov X.n c (St i), Nat.le_refl _, by omega, fun i hi => ?_, by show ov X.n c (St dn) = _; rw [h4], good_ov h5 (Nat.le_refl _)⟩
  exact lk_ov (h3 i (by omega)) (hmon (dn - (i + 1)) (i + 1) (by omega))
theorem mr_ov {S S' : Mem} {X : Xs} {c : Ac} {n' : Nat} (h : MR S X) (hX : Good X) (hn : X.n < 24) (h1 : S' 148 1 = nI n') (hA : RAc S' X.n c) (hw : S' 151 X.n = 0) (hF : ∀ a j, a = 149 ∨ a = 150 ∨ a = 151 → ¬ ((a = 149 ∨ a = 151) ∧ j = X.n) → ¬ (a = 150 ∧ 4 * X.n ≤ j ∧ j < 4 * X.n + 4) → S' a j = S a j) : MR S' (mkX (updA X.a X.n c) X.w n') := by
  refine ⟨h1, fun i hi => ⟨?_, ?_⟩⟩
  · show RAc S' i (if i = X.n then c else X.a i)
    by_cases hin : i = X.n
    · rw [if_pos hin, hin]; exact hA
    · rw [if_neg hin]
      obtain ⟨g, g0, g1, g2, g3⟩ := (h.2 i hi).1
      refine ⟨?_, ?_, ?_, ?_, ?_⟩
      · rw [hF _ _ (by omega) (by omega) (by omega)]; exact g
      · rw [hF _ _ (by omega) (by omega) (by omega)]; exact g0
      · rw [hF _ _ (by omega) (by omega) (by omega)]; exact g1
      · rw [hF _ _ (by omega) (by omega) (by omega)]; exact g2
      · rw [hF _ _ (by omega) (by omega) (by omega)]; exact g3
  · by_cases hin : i = X.n
    · rw [hin, hw]
      exact (hX.2.2.1 X.n (Nat.le_refl _)).symm
    · rw [hF _ _ (by omega) (by omega) (by omega)]
      exact (h.2 i hi).2
theorem ov_self {X : Xs} : mkX (updA X.a X.n (X.a X.n)) X.w X.n = X := by
  have : updA X.a X.n (X.a X.n) = X.a := by
    funext j
    unfold updA
    by_cases h : j = X.n
    · rw [if_pos h, h]
    · rw [if_neg h]
  rw [this]
  rfl
theorem keep_1 {kk : Nat} (hk : kk < 10) {a b c d : Int32} : keep kk (ar4 a b c d) 0 = a ∧ keep kk (ar4 a b c d) 1 = (if nI (nargs kk) ≤ 1 then 0 else b : Int32) ∧ keep kk (ar4 a b c d) 2 = (if nI (nargs kk) ≤ 2 then 0 else c : Int32) ∧ keep kk (ar4 a b c d) 3 = (if nI (nargs kk) ≤ 3 then 0 else d : Int32) := by
  rcases (show kk = 0 ∨ kk = 1 ∨ kk = 2 ∨ kk = 3 ∨ kk = 4 ∨ kk = 5 ∨ kk = 6 ∨ kk = 7 ∨ kk = 8 ∨ kk = 9 by omega) with rfl | rfl | rfl | rfl | rfl | rfl | rfl | rfl | rfl | rfl <;> exact ⟨rfl, rfl, rfl, rfl⟩
