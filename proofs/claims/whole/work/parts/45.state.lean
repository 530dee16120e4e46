/-- the actions: what they are, which are withdrawn, how many -/
def Xs : Type := (Nat → Ac) × (Nat → Int32) × Nat
def Xs.a (X : Xs) : Nat → Ac := X.1
def Xs.w (X : Xs) : Nat → Int32 := X.2.1
def Xs.n (X : Xs) : Nat := X.2.2
def mkX (a : Nat → Ac) (w : Nat → Int32) (n : Nat) : Xs := (a, w, n)
def Good (X : Xs) : Prop := X.n ≤ 24 ∧ (∀ i, i < X.n → vac (X.a i)) ∧ (∀ i, X.n ≤ i → X.w i = 0) ∧ ∀ i, X.w i = 0 ∨ X.w i = 1
def updA (a : Nat → Ac) (n : Nat) (c : Ac) (i : Nat) : Ac := if i = n then c else a i
/-- an edit leads from X to Y -/
def Lk (e : Nat → Int32) (X Y : Xs) : Prop := Good X ∧ Good Y ∧ ((e 0 = 0 ∧ e 1 = nI X.n ∧ X.n < 24 ∧ Y = mkX X.a X.w (X.n + 1)) ∨ (e 0 = 1 ∧ ∃ m, m < X.n ∧ e 1 = nI m ∧ X.w m = 0 ∧ Y = mkX X.a (updE X.w m 1) X.n) ∨ (e 0 = 2 ∧ ∃ m, m < X.n ∧ e 1 = nI m ∧ X.w m = 1 ∧ Y = mkX X.a (updE X.w m 0) X.n) ∨ (e 0 = 3 ∧ ∃ m i, m < X.n ∧ i < 4 ∧ e 1 = nI m ∧ e 2 = nI i ∧ e 3 = (X.a m).2 i ∧ Y = mkX (updA X.a m ((X.a m).1, updE (X.a m).2 i (e 4))) X.w X.n))
def Ch (dn kn : Nat) (E : Nat → Nat → Int32) (St : Nat → Xs) (X : Xs) : Prop := dn ≤ kn ∧ kn ≤ 32 ∧ (∀ i, i < kn → Lk (E i) (St i) (St (i + 1))) ∧ St dn = X ∧ Good X
def MR (S : Mem) (X : Xs) : Prop := S 148 1 = nI X.n ∧ ∀ i, i < 24 → RAc S i (X.a i) ∧ S 151 i = X.w i
def MC (S : Mem) (X : Xs) : Prop := S 0 5 = nI X.n ∧ ∀ i, i < 24 → CAc S (2 + 2 * i) (X.a i) ∧ S (2 + 2 * i) 1 = X.w i
def HR (S : Mem) (dn kn : Nat) (E : Nat → Nat → Int32) : Prop := S 148 18 = nI dn ∧ S 148 17 = nI kn ∧ ∀ i, i < kn → ∀ c, c < 5 → S 157 (5 * i + c) = E i c
def HC (S : Mem) (f dn kn : Nat) (E : Nat → Nat → Int32) : Prop := f < 32 ∧ S 52 1 = nI f ∧ S 52 2 = nI dn ∧ S 52 3 = nI (kn - dn) ∧ ∀ i, i < kn → ∀ c, c < 5 → S (54 + (f + i) % 32) c = E i c
def Bse (X : Xs) (Ds : Nat → List Ob) (ef : Nat → Int32) : Prop := Seq X.a (fun i => X.w i = 0) X.n Ds ef
def IC (S : Mem) (X : Xs) (f dn kn : Nat) (E : Nat → Nat → Int32) (Ds : Nat → List Ob) (ef : Nat → Int32) (Dt : List Ob) : Prop := HC S f dn kn E ∧ MC S X ∧ CD S 87 (Ds X.n) ∧ (∀ i, i < X.n → S 115 i = ef i) ∧ CD S 118 Dt ∧ Gd Dt ∧ Dt.length ≤ 12
def IR (S : Mem) (X : Xs) (dn kn : Nat) (E : Nat → Nat → Int32) (Ds : Nat → List Ob) (ef : Nat → Int32) : Prop := HR S dn kn E ∧ MR S X ∧ RD S (Ds X.n) ∧ ∀ i, i < X.n → S 152 i = ef i
def Inv (S : Mem) : Prop := ∃ (X : Xs) (dn kn : Nat) (E : Nat → Nat → Int32) (St : Nat → Xs) (f : Nat) (Ds : Nat → List Ob) (ef : Nat → Int32) (Dt : List Ob), Ch dn kn E St X ∧ Bse X Ds ef ∧ IC S X f dn kn E Ds ef Dt ∧ IR S X dn kn E Ds ef
def tIC (a i : Nat) : Prop := (a = 0 ∧ i = 5) ∨ (2 ≤ a ∧ a ≤ 49) ∨ a = 52 ∨ (54 ≤ a ∧ a ≤ 85) ∨ (87 ≤ a ∧ a ≤ 115) ∨ (118 ≤ a ∧ a ≤ 145)
def tIR (a i : Nat) : Prop := (a = 148 ∧ (i = 1 ∨ i = 7 ∨ i = 17 ∨ i = 18)) ∨ a = 149 ∨ a = 150 ∨ a = 151 ∨ a = 152 ∨ a = 154 ∨ a = 157
theorem mc_fq {S S' : Mem} {X : Xs} (h : MC S X) (h5 : S' 0 5 = S 0 5) (hF : ∀ a i, 2 ≤ a → a ≤ 49 → S' a i = S a i) : MC S' X := by
  refine ⟨h5.trans h.1, fun i hi => ⟨ca_fq (h.2 i hi).1 (fun x => hF _ _ (by omega) (by omega)) (fun x => hF _ _ (by omega) (by omega)), ?_⟩⟩
  rw [hF _ _ (by omega) (by omega)]
  exact (h.2 i hi).2
theorem hc_fq {S S' : Mem} {f dn kn : Nat} {E : Nat → Nat → Int32} (h : HC S f dn kn E) (hF : ∀ a i, a = 52 ∨ (54 ≤ a ∧ a ≤ 85) → S' a i = S a i) : HC S' f dn kn E := by
  obtain ⟨h1, h2, h3, h4, h5⟩ := h
  refine ⟨h1, (hF _ _ (by omega)).trans h2, (hF _ _ (by omega)).trans h3, (hF _ _ (by omega)).trans h4, fun i hi c hc => ?_⟩
  have := Nat.mod_lt (f + i) (show 0 < 32 by omega)
  exact (hF _ _ (by omega)).trans (h5 i hi c hc)
theorem ic_fq {S S' : Mem} {X : Xs} {f dn kn : Nat} {E : Nat → Nat → Int32} {Ds : Nat → List Ob} {ef : Nat → Int32} {Dt : List Ob} (hG : Gd (Ds X.n)) (h : IC S X f dn kn E Ds ef Dt) (hF : ∀ a i, tIC a i → S' a i = S a i) : IC S' X f dn kn E Ds ef Dt := by
  obtain ⟨h1, h2, h3, h4, h5, h6, h7⟩ := h
  refine ⟨hc_fq h1 (fun a i q => hF _ _ (by unfold tIC; omega)), mc_fq h2 (hF _ _ (by unfold tIC; omega)) (fun a i q1 q2 => hF _ _ (by unfold tIC; omega)), cd_out h3 hG (fun a i q1 q2 => hF _ _ (by unfold tIC; omega)), fun i hi => ?_, cd_out h5 h6 (fun a i q1 q2 => hF _ _ (by unfold tIC; omega)), h6, h7⟩
  rw [hF _ _ (by unfold tIC; omega)]
  exact h4 i hi
theorem mr_fq {S S' : Mem} {X : Xs} (h : MR S X) (h1 : S' 148 1 = S 148 1) (hF : ∀ a i, a = 149 ∨ a = 150 ∨ a = 151 → S' a i = S a i) : MR S' X := by
  refine ⟨h1.trans h.1, fun i hi => ?_⟩
  obtain ⟨⟨g, g0, g1, g2, g3⟩, gw⟩ := h.2 i hi
  refine ⟨⟨?_, ?_, ?_, ?_, ?_⟩, ?_⟩
  · rw [hF _ _ (by omega)]; exact g
  · rw [hF _ _ (by omega)]; exact g0
  · rw [hF _ _ (by omega)]; exact g1
  · rw [hF _ _ (by omega)]; exact g2
  · rw [hF _ _ (by omega)]; exact g3
  · rw [hF _ _ (by omega)]; exact gw
theorem hr_fq {S S' : Mem} {dn kn : Nat} {E : Nat → Nat → Int32} (h : HR S dn kn E) (h1 : S' 148 17 = S 148 17) (h2 : S' 148 18 = S 148 18) (hF : ∀ i, S' 157 i = S 157 i) : HR S' dn kn E :=
  ⟨h2.trans h.1, h1.trans h.2.1, fun i hi c hc => (hF _).trans (h.2.2 i hi c hc)⟩
theorem rd_fq {S S' : Mem} {D : List Ob} (h : RD S D) (h7 : S' 148 7 = S 148 7) (hF : ∀ i, S' 154 i = S 154 i) : RD S' D := ⟨h7.trans h.1, fun k o hk => rw_of (h.2 k o hk) (fun c _ => hF _)⟩
theorem ir_fq {S S' : Mem} {X : Xs} {dn kn : Nat} {E : Nat → Nat → Int32} {Ds : Nat → List Ob} {ef : Nat → Int32} (h : IR S X dn kn E Ds ef) (hF : ∀ a i, tIR a i → S' a i = S a i) : IR S' X dn kn E Ds ef := by
  obtain ⟨h1, h2, h3, h4⟩ := h
  refine ⟨hr_fq h1 (hF _ _ (by unfold tIR; omega)) (hF _ _ (by unfold tIR; omega)) (fun i => hF _ _ (by unfold tIR; omega)), mr_fq h2 (hF _ _ (by unfold tIR; omega)) (fun a i q => hF _ _ (by unfold tIR; omega)), rd_fq h3 (hF _ _ (by unfold tIR; omega)) (fun i => hF _ _ (by unfold tIR; omega)), fun i hi => ?_⟩
  rw [hF _ _ (by unfold tIR; omega)]
  exact h4 i hi
theorem bse_wf {X : Xs} {Ds : Nat → List Ob} {ef : Nat → Int32} (h : Bse X Ds ef) : WF (Ds X.n) X.n := seq_wf h X.n (Nat.le_refl _)
theorem inv_fq {S S' : Mem} (h : Inv S) (hF : ∀ a i, tIC a i ∨ tIR a i → S' a i = S a i) : Inv S' := by
  obtain ⟨X, dn, kn, E, St, f, Ds, ef, Dt, hch, hb, hic, hir⟩ := h
  exact ⟨X, dn, kn, E, St, f, Ds, ef, Dt, hch, hb, ic_fq (bse_wf hb).2.1 hic (fun a i q => hF a i (Or.inl q)), ir_fq hir (fun a i q => hF a i (Or.inr q))⟩
theorem inv_thr {S : Mem} {v : Int32} (h : Inv S) : Inv (up2 S 148 0 v) := inv_fq h (fun a i q => by
  rw [up_at, if_neg]
  rintro ⟨rfl, rfl⟩
  unfold tIC tIR at q
  omega)
theorem idx {l : Int32} {n : Nat} (hn : n < 2 ^ 31) (h0 : ¬ l < 0) (h1 : l < nI n) : ∃ m, m < n ∧ l = nI m := by
  rw [Int32.lt_iff_toInt_lt, show (0 : Int32).toInt = 0 by decide] at h0
  rw [Int32.lt_iff_toInt_lt, nI_toInt hn] at h1
  refine ⟨l.toInt.toNat, by omega, Int32.toInt_inj.mp ?_⟩
  rw [nI_toInt (by omega)]
  omega
theorem idx_dec (l : Int32) {n : Nat} (hn : n < 2 ^ 31) : (l < 0 ∨ ¬ l < nI n) ∨ ∃ m, m < n ∧ l = nI m := by
  by_cases h0 : l < 0
  · exact Or.inl (Or.inl h0)
  · by_cases h1 : l < nI n
    · exact Or.inr (idx hn h0 h1)
    · exact Or.inl (Or.inr h1)
theorem ract_no {post : Int32 → Mem → Prop} {S : Mem} {n : Nat} {l : Int32} (hn : S 148 1 = nI n) (h : l < 0 ∨ ¬ l < nI n) (hp : post 0 S) : r_isAction post S l := by
  unfold r_isAction
  rw [hn]
  by_cases h0 : l < 0
  · rw [if_pos h0]
    exact ⟨nar0, hp⟩
  · have h1 := h.resolve_left h0
    rw [if_neg h0, if_pos (by rw [Int32.le_iff_toInt_le]; rw [Int32.lt_iff_toInt_lt] at h1; omega)]
    exact ⟨nar0, hp⟩
theorem ract_yes {post : Int32 → Mem → Prop} {S : Mem} {n m : Nat} (hn : S 148 1 = nI n) (hn24 : n ≤ 24) (hm : m < n) (hp : post 1 S) : r_isAction post S (nI m) := by
  unfold r_isAction
  rw [hn, if_neg (q_nlt0 (by omega)), if_neg (by rw [q_le (by omega) (by omega)]; omega)]
  exact ⟨nar1, hp⟩
theorem creq_no {post : Mem → Prop} {ex : Nat → Mem → Prop} {S : Mem} {n : Nat} {l : Int32} (hn : S 0 5 = nI n) (h : l < 0 ∨ ¬ l < nI n) (hp : ex 3 S) : cd_requireAction post ex S l := by
  unfold cd_requireAction
  rw [hn]
  refine ⟨fun _ => hp, fun h0 => ⟨fun h1 => ?_, fun _ => hp⟩⟩
  rcases h with h | h
  · exact absurd h h0
  · exact absurd h1 h
theorem creq_yes {post : Mem → Prop} {ex : Nat → Mem → Prop} {S : Mem} {n m : Nat} (hn : S 0 5 = nI n) (hn24 : n ≤ 24) (hm : m < n) (hp : post S) : cd_requireAction post ex S (nI m) := by
  unfold cd_requireAction
  rw [hn, q_lt (by omega) (by omega)]
  exact ⟨fun h => absurd h (q_nlt0 (by omega)), fun _ => ⟨fun _ => hp, fun h => absurd hm h⟩⟩
theorem pst {S2 : Mem} {J : Nat → Nat → Int64} {r b : Int32} {P : Prop} (h0 : S2 148 0 = 0) (hrb : r = b) (hI : P) : S2 148 0 = 0 ∧ ((0 : Int32) = 0 → up2 J 158 0 r.toInt64 158 0 = b.toInt64) ∧ P := ⟨h0, fun _ => by rw [← hrb]; exact if_pos ⟨rfl, rfl⟩, hI⟩
theorem pex {S2 : Mem} {J : Nat → Nat → Int64} {k b : Int32} {P : Prop} (h0 : S2 148 0 = k) (hk : ¬ k = 0) (hI : P) : S2 148 0 = k ∧ (k = 0 → J 158 0 = b.toInt64) ∧ P := ⟨h0, fun h => absurd h hk, hI⟩
theorem up_self (S : Mem) (k i : Nat) (v : Int32) : up2 S k i v k i = v := if_pos ⟨rfl, rfl⟩
theorem one_le0 : ¬ (1 : Int32) ≤ 0 := by decide
theorem two_le0 : ¬ (2 : Int32) ≤ 0 := by decide
theorem z_le0 : (0 : Int32) ≤ 0 := by decide
theorem ok_actions : OK_actions Inv := by
  intro S hI
  have hI' := hI
  obtain ⟨X, dn, kn, E, St, f, Ds, ef, Dt, hch, hb, hic, hir⟩ := hI
  intro S1 h1
  subst h1
  refine ⟨?_, inv_thr hI'⟩
  rw [up_at, if_neg (by omega), hir.2.1.1]
  exact hic.2.1.1
theorem ok_objects : OK_objects Inv := by
  intro S hI
  have hI' := hI
  obtain ⟨X, dn, kn, E, St, f, Ds, ef, Dt, hch, hb, hic, hir⟩ := hI
  intro S1 h1
  subst h1
  refine ⟨?_, inv_thr hI'⟩
  rw [up_at, if_neg (by omega), hir.2.2.1.1]
  exact hic.2.2.1.1.1
theorem ok_effect : OK_effect Inv := by
  intro S J a1 hI
  have hI' := hI
  obtain ⟨X, dn, kn, E, St, f, Ds, ef, Dt, hch, hb, hic, hir⟩ := hI
  have h24 := hch.2.2.2.2.1
  rcases idx_dec a1 (n := X.n) (by omega) with h | ⟨m, hm, rfl⟩
  · refine creq_no hic.2.1.1 h ⟨rfl, ?_⟩
    unfold RC_effect r_effect
    refine ract_no hir.2.1.1 h (fun S2 h2 => ?_)
    subst h2
    rw [if_pos rfl, up_self, if_neg one_le0]
    exact ⟨fun h => absurd h one_le0, pex (up_self _ _ _ _) (by decide) (inv_thr hI')⟩
  · refine creq_yes hic.2.1.1 h24 hm ⟨q_in (by omega) (by omega), ?_⟩
    unfold RC_effect r_effect
    refine ract_yes hir.2.1.1 h24 hm (fun S2 h2 => ?_)
    subst h2
    rw [if_neg (show ¬ (1 : Int32) = 0 by decide), up_self, if_pos z_le0, nI_clamp (by omega)]
    refine ⟨fun _ => q_in (by omega) (by omega), pst (up_self _ _ _ _) ?_ (inv_thr hI')⟩
    rw [up_at, if_neg (by omega), hir.2.2.2 m hm, hic.2.2.2.1 m hm]
theorem ca_arg {S : Mem} {q : Nat} {a : Ac} (h : CAc S q a) {i : Nat} (hi : i < 4) : S (q + 1) i = a.2 i := by
  obtain ⟨-, g0, g1, g2, g3⟩ := h
  rcases (show i = 0 ∨ i = 1 ∨ i = 2 ∨ i = 3 by omega) with rfl | rfl | rfl | rfl
  · exact g0
  · exact g1
  · exact g2
  · exact g3
theorem ra_arg {S : Mem} {n : Nat} {a : Ac} (h : RAc S n a) {i : Nat} (hi : i < 4) : S 150 (4 * n + i) = a.2 i := by
  obtain ⟨-, g0, g1, g2, g3⟩ := h
  rcases (show i = 0 ∨ i = 1 ∨ i = 2 ∨ i = 3 by omega) with rfl | rfl | rfl | rfl
  · exact g0
  · exact g1
  · exact g2
  · exact g3
theorem n4 (k c : Nat) : 4 * nI k + nI c = nI (4 * k + c) := by
  rw [show (4 : Int32) = nI 4 from rfl, q_mul, q_add]
theorem ok_argument : OK_argument Inv := by
  intro S J a1 a2 hI
  have hI' := hI
  obtain ⟨X, dn, kn, E, St, f, Ds, ef, Dt, hch, hb, hic, hir⟩ := hI
  have h24 := hch.2.2.2.2.1
  rcases idx_dec a1 (n := X.n) (by omega) with h | ⟨m, hm, rfl⟩
  · refine creq_no hic.2.1.1 h ⟨rfl, ?_⟩
    unfold RC_argument r_argument
    refine ract_no hir.2.1.1 h (fun S2 h2 => ?_)
    subst h2
    rw [if_pos rfl, up_self, if_neg one_le0]
    exact ⟨fun h => absurd h one_le0, pex (up_self _ _ _ _) (by decide) (inv_thr hI')⟩
  · refine creq_yes hic.2.1.1 h24 hm ?_
    have hbad : (a2 < 0 ∨ 5 ≤ a2) → RC_argument Inv (nI m) a2 1 S J := by
      intro hb'
      unfold RC_argument r_argument
      refine ract_yes hir.2.1.1 h24 hm (fun S2 h2 => ?_)
      have hv : (if (1 : Int32) = 0 then 1 else (if a2 < 0 then 1 else (if 5 ≤ a2 then 1 else 0 : Int32) : Int32) : Int32) = 1 := by
        rw [if_neg (by decide)]
        by_cases h0 : a2 < 0
        · rw [if_pos h0]
        · rw [if_neg h0, if_pos (hb'.resolve_left h0)]
      rw [hv] at h2
      subst h2
      rw [up_self, if_neg one_le0]
      exact ⟨fun h => absurd h one_le0, pex (up_self _ _ _ _) (by decide) (inv_thr hI')⟩
    have c5 : (5 : Int32).toInt = 5 := by decide
    have c4 : (4 : Int32).toInt = 4 := by decide
    refine ⟨fun h0 => ⟨rfl, hbad (Or.inl h0)⟩, fun h0 => ⟨fun h4 => ?_, fun h4 => ⟨rfl, hbad (Or.inr ?_)⟩⟩⟩
    · obtain ⟨i, hi, rfl⟩ := idx (n := 5) (by omega) h0 (by rw [Int32.le_iff_toInt_le, c4] at h4; rw [Int32.lt_iff_toInt_lt]; show _ < (5 : Int32).toInt; omega)
      have hi4 : nI i = 4 ↔ i = 4 := by rw [show (4 : Int32) = nI 4 from rfl, q_eq (by omega) (by omega)]
      refine ⟨⟨fun _ => q_in (by omega) (by omega), fun h => ⟨q_in (by omega) (by omega), q_in (by rw [hi4] at h; omega) (by omega)⟩⟩, ?_⟩
      unfold RC_argument r_argument
      refine ract_yes hir.2.1.1 h24 hm (fun S2 h2 => ?_)
      have hv : (if (1 : Int32) = 0 then 1 else (if nI i < 0 then 1 else (if 5 ≤ nI i then 1 else 0 : Int32) : Int32) : Int32) = 0 := by
        rw [if_neg (by decide), if_neg (q_nlt0 (by omega)), if_neg (by rw [show (5 : Int32) = nI 5 from rfl, q_le (by omega) (by omega)]; omega)]
      rw [hv] at h2
      subst h2
      rw [up_self, if_pos z_le0, nI_clamp (show m < 2 ^ 31 by omega), nI_clamp (show i < 2 ^ 31 by omega), n4, nI_clamp (show 4 * m + i < 2 ^ 31 by omega)]
      have hA := hic.2.1.2 m (by omega)
      have hB := hir.2.1.2 m (by omega)
      refine ⟨fun _ => ⟨fun _ => q_in (by omega) (by omega), fun h => q_in (by rw [hi4] at h; omega) (by omega)⟩, pst (up_self _ _ _ _) ?_ (inv_thr hI')⟩
      by_cases h4' : i = 4
      · rw [if_pos (hi4.mpr h4'), if_pos (hi4.mpr h4'), up_at, if_neg (by omega)]
        exact hA.1.1.trans hB.1.1.symm
      · rw [if_neg (fun q => h4' (hi4.mp q)), if_neg (fun q => h4' (hi4.mp q)), up_at, if_neg (by omega), ra_arg hB.1 (by omega)]
        exact ca_arg hA.1 (by omega)
    · rw [Int32.le_iff_toInt_le, c4] at h4
      rw [Int32.le_iff_toInt_le, c5]
      omega
theorem ok_hit : OK_hit Inv := by
  intro S a1 a2 hI
  have hI' := hI
  obtain ⟨X, dn, kn, E, St, f, Ds, ef, Dt, hch, hb, hic, hir⟩ := hI
  have hW := bse_wf hb
  have hl := hW.2.2.1
  have hR : RD (up2 S 148 0 0) (Ds X.n) := rd_up hir.2.2.1 (by decide) (by omega)
  refine ctop hic.2.2.1 hW (fun hno => ?_) (fun k o h1 h2 h3 => ?_)
  · intro S1 e1
    subst e1
    refine rtop_none hR hW hno ⟨fun h => absurd h (by decide), ?_⟩
    rw [if_neg (by decide)]
    exact ⟨rfl, inv_thr hI'⟩
  · intro S1 e1
    subst e1
    have hkl := at_lt h1
    refine rtop_some hR hW h1 h2 h3 ⟨fun _ => vi0 (by omega), ?_⟩
    rw [if_pos (q_ge0 (by omega)), ix0 (by omega), (rd_at hR h1).1]
    exact ⟨rfl, inv_thr hI'⟩
theorem ok_inside : OK_inside Inv := by
  intro S a1 a2 a3 a4 a5 hI
  have hI' := hI
  obtain ⟨X, dn, kn, E, St, f, Ds, ef, Dt, hch, hb, hic, hir⟩ := hI
  have hW := bse_wf hb
  have hR : RD (up2 S 148 0 0) (Ds X.n) := rd_up hir.2.2.1 (by decide) (by omega)
  refine cinside hic.2.2.1 hW ?_
  intro S1 e1
  subst e1
  exact rinside hR hW ⟨rfl, inv_thr hI'⟩
theorem ok_shown : OK_shown Inv := by
  intro S J a1 a2 a3 a4 hI
  have hI' := hI
  obtain ⟨X, dn, kn, E, St, f, Ds, ef, Dt, hch, hb, hic, hir⟩ := hI
  have hW := bse_wf hb
  have c1 : (1 : Int32).toInt = 1 := by decide
  have c8 : (8 : Int32).toInt = 8 := by decide
  have hbad : (a3 < 1 ∨ ¬ a3 ≤ 8) → RC_shown Inv a1 a2 a3 a4 1 S J := by
    intro hb' S1 e1
    have hv : (if a3 < 1 then 1 else (if a3 ≤ 8 then 0 else 1 : Int32) : Int32) = 1 := by
      by_cases h0 : a3 < 1
      · rw [if_pos h0]
      · rw [if_neg h0, if_neg (hb'.resolve_left h0)]
    rw [hv] at e1
    subst e1
    refine ⟨0 + 1, ?_⟩
    unfold r_shown_L26
    rw [up_self]
    have fin : ∀ v : Int32, (up2 S 148 0 1) 148 0 = 1 ∧ ((1 : Int32) = 0 → J 158 0 = v.toInt64) ∧ Inv (up2 S 148 0 1) := fun v => pex (up_self _ _ _ _) (by decide) (inv_thr hI')
    exact ⟨fun _ => fin 0, fun _ => ⟨fun _ => fin 0, fun h => absurd h (by decide)⟩⟩
  unfold cd_shown cd_shown_J11
  refine ⟨fun h1 => ⟨rfl, hbad (Or.inl h1)⟩, fun h1 => ⟨fun h8 => ?_, fun h8 => ⟨rfl, hbad (Or.inr h8)⟩⟩⟩
  have h1' := h1
  have h8' := h8
  rw [Int32.lt_iff_toInt_lt, c1] at h1'
  rw [Int32.le_iff_toInt_le, c8] at h8'
  obtain ⟨n, hn1, hn8, rfl⟩ : ∃ n, 1 ≤ n ∧ n ≤ 8 ∧ a3 = nI n := ⟨a3.toInt.toNat, by omega, by omega, Int32.toInt_inj.mp (by rw [nI_toInt (by omega)]; omega)⟩
  refine cshown hic.2.2.1 hW hn8 ?_
  intro S1 e1
  rw [if_neg h1, if_pos h8] at e1
  subst e1
  have hR : RD (up2 S 148 0 0) (Ds X.n) := rd_up hir.2.2.1 (by decide) (by omega)
  exact rshown hR hW hn1 hn8 (up_self _ _ _ _) (pst (up_self _ _ _ _) rfl (inv_thr hI'))
