/-- action n of the reference -/
def RA (S : Mem) (n : Nat) (K A0 A1 A2 A3 : Int32) : Prop := S 149 n = K ∧ S 150 (4 * n + 0) = A0 ∧ S 150 (4 * n + 1) = A1 ∧ S 150 (4 * n + 2) = A2 ∧ S 150 (4 * n + 3) = A3
/-- the component's action at cell q -/
def CA (S : Mem) (q : Nat) (K A0 A1 A2 A3 : Int32) : Prop := S q 0 = K ∧ S (q + 1) 0 = A0 ∧ S (q + 1) 1 = A1 ∧ S (q + 1) 2 = A2 ∧ S (q + 1) 3 = A3
def Fit (D : List Ob) (n : Nat) (K A0 A1 A2 A3 r : Int32) : Prop := ∀ (post : Int32 → Mem → Prop) (S : Mem), RD S D → RA S n K A0 A1 A2 A3 → post r S → r_fits post S (nI n)
def Act (D : List Ob) (n : Nat) (K A0 A1 A2 A3 : Int32) (D1 : List Ob) : Prop := ∀ (post : Mem → Prop) (S : Mem), RD S D → RA S n K A0 A1 A2 A3 → (∀ S', RD S' D1 → Fq tAc S S' → post S') → r_act post S (nI n)
def Cry (D : List Ob) (n : Nat) (K A0 A1 A2 A3 r : Int32) (D' : List Ob) : Prop := ∀ (post : Int32 → Mem → Prop) (S : Mem) (d q : Nat), CD S d D → CA S q K A0 A1 A2 A3 → (q + 1 < d ∨ d + 28 ≤ q) → (∀ S', CD S' d D' → Fq (tC d) S S' → post r S') → cw_carryOut post S d q (nI n)
def Yes (D : List Ob) (n : Nat) (K A0 A1 A2 A3 : Int32) (D' : List Ob) : Prop := Fit D n K A0 A1 A2 A3 1 ∧ Act D n K A0 A1 A2 A3 D' ∧ Lim D' ∧ Cry D n K A0 A1 A2 A3 1 D' ∧ WF D' (n + 1)
def No (D : List Ob) (n : Nat) (K A0 A1 A2 A3 : Int32) : Prop := (Fit D n K A0 A1 A2 A3 0 ∨ (Fit D n K A0 A1 A2 A3 1 ∧ ∃ D1, D1.length ≤ 13 ∧ ¬ Lim D1 ∧ Act D n K A0 A1 A2 A3 D1)) ∧ Cry D n K A0 A1 A2 A3 0 D
theorem fit_none {D : List Ob} {n : Nat} {K A1 A2 A3 : Int32} (hG : Gd D) (hn : n < 24) (hK : ¬ K = 0) {x : Nat} (hx : x < 24) (hno : ∀ o ∈ D, o.nm ≠ x) : Fit D n K (nI x) A1 A2 A3 0 := by
  intro post S hR hA hp
  obtain ⟨g, g0, -⟩ := hA
  unfold r_fits
  rw [nI_clamp (show n < 2 ^ 31 by omega), g, i40 hn, g0]
  refine ⟨q_in (by omega) (by omega), fun _ => ⟨v40 hn, find_none hR hG hx (fun i o ho => hno o (at_mem ho)) ?_⟩, fun h => absurd h hK⟩
  unfold r_fits_J25
  exact ⟨fun _ => ⟨fun h => absurd h (by decide), fun _ => hp⟩, fun h => absurd h hK⟩
theorem fit_k {post : Int32 → Mem → Prop} {S : Mem} {D : List Ob} {n : Nat} {K A1 A2 A3 : Int32} {k : Nat} {o : Ob} (hR : RD S D) (hG : Gd D) (hn : n < 24) (hA : RA S n K (nI o.nm) A1 A2 A3) (hK : ¬ K = 0) (hk : D[k]? = some o) (h : r_fits_J25 post S (nI n) K (nI k)) : r_fits post S (nI n) := by
  obtain ⟨g, g0, -⟩ := hA
  unfold r_fits
  rw [nI_clamp (show n < 2 ^ 31 by omega), g, i40 hn, g0]
  exact ⟨q_in (by omega) (by omega), fun _ => ⟨v40 hn, find_some hR hG hk h⟩, fun h => absurd h hK⟩
theorem fitJ {post : Int32 → Mem → Prop} {S : Mem} {n k : Nat} {K v : Int32} (hk : k < 14) (h0 : ¬ K = 0) (h6 : ¬ K = 6) (h9 : ¬ K = 9) (hv : (if K = 7 then (if (S 154 ((8 * nI k) + 1).toNatClampNeg) = 3 then 1 else 0 : Int32) else (if K = 8 then (if (S 154 ((8 * nI k) + 1).toNatClampNeg) = 3 then 0 else 1 : Int32) else 1 : Int32) : Int32) = v) (h01 : v = 0 ∨ v = 1) (hp : post v S) : r_fits_J25 post S (nI n) K (nI k) := by
  unfold r_fits_J25
  rw [hv]
  exact ⟨fun _ => ⟨fun _ => ⟨fun h => absurd h h6, fun _ => ⟨fun _ => ⟨⟨fun _ => vi1 hk, fun _ _ => vi1 hk⟩, nar01 h01, hp⟩, fun h => absurd h h9⟩⟩, fun h => absurd (q_ge0 (a := k) (by omega)) h⟩, fun h => absurd h h0⟩
theorem fit_15 {D : List Ob} {n : Nat} {K A1 A2 A3 : Int32} {k : Nat} {o : Ob} (hG : Gd D) (hn : n < 24) (hK : K = 1 ∨ K = 2 ∨ K = 3 ∨ K = 4 ∨ K = 5) (hk : D[k]? = some o) : Fit D n K (nI o.nm) A1 A2 A3 1 := by
  intro post S hR hA hp
  have hlen := hG.2.1
  have hkl := at_lt hk
  have n0 : ¬ K = 0 := by rcases hK with rfl | rfl | rfl | rfl | rfl <;> decide
  have n6 : ¬ K = 6 := by rcases hK with rfl | rfl | rfl | rfl | rfl <;> decide
  have n7 : ¬ K = 7 := by rcases hK with rfl | rfl | rfl | rfl | rfl <;> decide
  have n8 : ¬ K = 8 := by rcases hK with rfl | rfl | rfl | rfl | rfl <;> decide
  have n9 : ¬ K = 9 := by rcases hK with rfl | rfl | rfl | rfl | rfl <;> decide
  exact fit_k hR hG hn hA n0 hk (fitJ (by omega) n0 n6 n9 (by rw [if_neg n7, if_neg n8]) (Or.inr rfl) hp)
theorem fit_7 {D : List Ob} {n : Nat} {A1 A2 A3 v : Int32} {k : Nat} {o : Ob} (hG : Gd D) (hn : n < 24) (hk : D[k]? = some o) (hv : (o.fm = 3 ∧ v = 1) ∨ (o.fm ≠ 3 ∧ v = 0)) : Fit D n 7 (nI o.nm) A1 A2 A3 v := by
  intro post S hR hA hp
  have hlen := hG.2.1
  have hkl := at_lt hk
  refine fit_k hR hG hn hA (by decide) hk (fitJ (by omega) (by decide) (by decide) (by decide) ?_ (by rcases hv with ⟨-, h⟩ | ⟨-, h⟩ <;> simp [h]) hp)
  rw [if_pos rfl, ix1 (by omega), (rd_at hR hk).2.1]
  rcases hv with ⟨h, rfl⟩ | ⟨h, rfl⟩
  · rw [if_pos h]
  · rw [if_neg h]
theorem fit_8 {D : List Ob} {n : Nat} {A1 A2 A3 v : Int32} {k : Nat} {o : Ob} (hG : Gd D) (hn : n < 24) (hk : D[k]? = some o) (hv : (o.fm = 3 ∧ v = 0) ∨ (o.fm ≠ 3 ∧ v = 1)) : Fit D n 8 (nI o.nm) A1 A2 A3 v := by
  intro post S hR hA hp
  have hlen := hG.2.1
  have hkl := at_lt hk
  refine fit_k hR hG hn hA (by decide) hk (fitJ (by omega) (by decide) (by decide) (by decide) ?_ (by rcases hv with ⟨-, h⟩ | ⟨-, h⟩ <;> simp [h]) hp)
  rw [if_neg (by decide), if_pos rfl, ix1 (by omega), (rd_at hR hk).2.1]
  rcases hv with ⟨h, rfl⟩ | ⟨h, rfl⟩
  · rw [if_pos h]
  · rw [if_neg h]
theorem alone {post : Int32 → Mem → Prop} {S : Mem} {D : List Ob} (hR : RD S D) (hG : Gd D) (hU : Up D) {k : Nat} {o : Ob} (hk : D[k]? = some o) (hy : o.p = none → post 1 S) (hn : o.p ≠ none → post 0 S) : r_isAlone post S (nI k) := by
  have hlen := hG.2.1
  have hkl := at_lt hk
  have hpn := pI_nn (p := o.p) (par_lt hU hG hk)
  unfold r_isAlone
  rw [if_neg (q_nlt0 (a := k) (by omega)), ix7 (by omega), (rd_at hR hk).2.2.2.1]
  refine ⟨fun _ => vi7 (by omega), ?_⟩
  by_cases h : o.p = none
  · rw [if_neg (fun q => hpn.mp q h)]
    exact ⟨nar1, hy h⟩
  · rw [if_pos (hpn.mpr h)]
    exact ⟨nar0, hn h⟩
theorem fit_69n {D : List Ob} {n : Nat} {K A2 A3 : Int32} {k : Nat} {o : Ob} (hG : Gd D) (hn : n < 24) (hK : K = 6 ∨ K = 9) (hk : D[k]? = some o) {y : Nat} (hy : y < 24) (hno : ∀ b ∈ D, b.nm ≠ y) : Fit D n K (nI o.nm) (nI y) A2 A3 0 := by
  intro post S hR hA hp
  have hlen := hG.2.1
  have hkl := at_lt hk
  have n0 : ¬ K = 0 := by rcases hK with rfl | rfl <;> decide
  have hJ : r_fits_J50 post S (nI n) K (nI k) := by
    unfold r_fits_J50
    rw [i41 hn, hA.2.2.1]
    exact ⟨v41 hn, find_none hR hG hy (fun i b hb => hno b (at_mem hb)) ⟨fun _ => hp, fun h => absurd (by decide) h⟩⟩
  refine fit_k hR hG hn hA n0 hk ?_
  unfold r_fits_J25
  refine ⟨fun _ => ⟨fun _ => ⟨fun _ => hJ, fun h6 => ⟨fun h9 => ?_, fun _ => hJ⟩⟩, fun h => absurd (q_ge0 (a := k) (by omega)) h⟩, fun h => absurd h n0⟩
  rcases hK with h | h
  · exact absurd h h6
  · exact absurd h h9
theorem fit_J50 {post : Int32 → Mem → Prop} {S : Mem} {D : List Ob} {n : Nat} {K A2 A3 : Int32} {k j : Nat} {o b : Ob} (hR : RD S D) (hG : Gd D) (hn : n < 24) (hK : K = 6 ∨ K = 9) (hA : RA S n K (nI o.nm) (nI b.nm) A2 A3) (hk : D[k]? = some o) (hj : D[j]? = some b) (hs : j = k → post 0 S) (h9 : j ≠ k → K = 9 → r_isIn (fun r2 S2 => ((¬ r2 = 0) → post 0 S2) ∧ ((r2 = 0) → (vp_in ((4 * nI n) + 0) 96) ∧ r_isIn (fun r3 S3 => ((¬ r3 = 0) → post 0 S3) ∧ ((r3 = 0) → post 1 S3)) S2 (nI j) (S2 150 ((4 * nI n) + 0).toNatClampNeg))) S (nI k) (nI b.nm)) (h6 : j ≠ k → K = 6 → r_isAlone (fun r4 S4 => ((r4 = 0) → post 0 S4) ∧ ((¬ r4 = 0) → r_isAlone (fun r5 S5 => ((r5 = 0) → post 0 S5) ∧ ((¬ r5 = 0) → post 1 S5)) S4 (nI j))) S (nI k)) : r_fits post S (nI n) := by
  have hlen := hG.2.1
  have hkl := at_lt hk
  have hjl := at_lt hj
  have n0 : ¬ K = 0 := by rcases hK with rfl | rfl <;> decide
  have hJ : r_fits_J50 post S (nI n) K (nI k) := by
    unfold r_fits_J50
    rw [i41 hn, hA.2.2.1]
    refine ⟨v41 hn, find_some hR hG hj ⟨fun h => absurd h (q_nlt0 (by omega)), fun _ => ⟨fun hne => ⟨fun hk6 => ⟨v41 hn, ?_⟩, fun hk6 => ?_⟩, fun he => ?_⟩⟩⟩
    · rw [hA.2.2.1]
      exact h9 (fun h => hne (by rw [h])) (hK.resolve_left hk6)
    · exact h6 (fun h => hne (by rw [h])) hk6
    · exact hs ((q_eq (by omega) (by omega)).mp he)
  refine fit_k hR hG hn hA n0 hk ?_
  unfold r_fits_J25
  refine ⟨fun _ => ⟨fun _ => ⟨fun _ => hJ, fun h6 => ⟨fun h9 => ?_, fun _ => hJ⟩⟩, fun h => absurd (q_ge0 (a := k) (by omega)) h⟩, fun h => absurd h n0⟩
  rcases hK with h | h
  · exact absurd h h6
  · exact absurd h h9
theorem fit_6 {D : List Ob} {n : Nat} {A2 A3 v : Int32} {k j : Nat} {o b : Ob} (hG : Gd D) (hU : Up D) (hn : n < 24) (hk : D[k]? = some o) (hj : D[j]? = some b) (hv : (j ≠ k ∧ o.p = none ∧ b.p = none ∧ v = 1) ∨ ((j = k ∨ o.p ≠ none ∨ b.p ≠ none) ∧ v = 0)) : Fit D n 6 (nI o.nm) (nI b.nm) A2 A3 v := by
  intro post S hR hA hp
  refine fit_J50 hR hG hn (Or.inl rfl) hA hk hj (fun h => ?_) (fun _ h => absurd h (by decide)) (fun hne _ => ?_)
  · rcases hv with ⟨h1, -⟩ | ⟨-, rfl⟩
    · exact absurd h h1
    · exact hp
  · refine alone hR hG hU hk (fun h1 => ⟨fun h => absurd h (by decide), fun _ => alone hR hG hU hj (fun h2 => ⟨fun h => absurd h (by decide), fun _ => ?_⟩) (fun h2 => ⟨fun _ => ?_, fun h => absurd rfl h⟩)⟩) (fun h1 => ⟨fun _ => ?_, fun h => absurd rfl h⟩)
    · rcases hv with ⟨-, -, -, rfl⟩ | ⟨h | h | h, rfl⟩
      · exact hp
      · exact absurd h hne
      · exact absurd h1 h
      · exact absurd h2 h
    · rcases hv with ⟨-, -, h, -⟩ | ⟨-, rfl⟩
      · exact absurd h h2
      · exact hp
    · rcases hv with ⟨-, h, -⟩ | ⟨-, rfl⟩
      · exact absurd h h1
      · exact hp
theorem fit_9 {D : List Ob} {n : Nat} {A2 A3 v : Int32} {k e j f : Nat} {o b : Ob} (hG : Gd D) (hU : Up D) (hn : n < 24) (hk : D[k]? = some o) (hBk : Blk D k e) (hj : D[j]? = some b) (hBj : Blk D j f) (hv : ((k < j ∨ f ≤ k) ∧ (j < k ∨ e ≤ j) ∧ v = 1) ∨ (((j ≤ k ∧ k < f) ∨ (k ≤ j ∧ j < e)) ∧ v = 0)) : Fit D n 9 (nI o.nm) (nI b.nm) A2 A3 v := by
  intro post S hR hA hp
  have hkl := at_lt hk
  have hjl := at_lt hj
  have hb1 := hBk.1
  have hb2 := hBj.1
  refine fit_J50 hR hG hn (Or.inr rfl) hA hk hj (fun h => ?_) (fun hne _ => ?_) (fun _ h => absurd h (by decide))
  · rcases hv with ⟨h1, h2, -⟩ | ⟨-, rfl⟩
    · omega
    · exact hp
  · by_cases h1 : j ≤ k ∧ k < f
    · refine isIn_in hR hG hBj hj ⟨fun _ => ?_, fun h => absurd h (by decide)⟩ k h1.1 h1.2
      rcases hv with ⟨h, -⟩ | ⟨-, rfl⟩
      · omega
      · exact hp
    · refine isIn_out hR hG hU hBj hj ⟨fun h => absurd rfl h, fun _ => ⟨v40 hn, ?_⟩⟩ k hkl (by omega)
      rw [i40 hn, hA.2.1]
      by_cases h2 : k ≤ j ∧ j < e
      · refine isIn_in hR hG hBk hk ⟨fun _ => ?_, fun h => absurd h (by decide)⟩ j h2.1 h2.2
        rcases hv with ⟨-, h, -⟩ | ⟨-, rfl⟩
        · omega
        · exact hp
      · refine isIn_out hR hG hU hBk hk ⟨fun h => absurd rfl h, fun _ => ?_⟩ j hjl (by omega)
        rcases hv with ⟨-, -, rfl⟩ | ⟨h, -⟩
        · exact hp
        · omega
theorem fit_0 {D : List Ob} {n : Nat} {A0 A1 A2 A3 : Int32} (hn : n < 24) : Fit D n 0 A0 A1 A2 A3 1 := by
  intro post S hR hA hp
  unfold r_fits
  rw [nI_clamp (show n < 2 ^ 31 by omega), hA.1]
  refine ⟨q_in (by omega) (by omega), fun h => absurd rfl h, fun _ => ?_⟩
  unfold r_fits_J25
  exact ⟨fun h => absurd rfl h, fun _ => hp⟩
theorem act_k {post : Mem → Prop} {S : Mem} {D : List Ob} {n : Nat} {K A1 A2 A3 : Int32} {k : Nat} {o : Ob} (hR : RD S D) (hG : Gd D) (hn : n < 24) (hA : RA S n K (nI o.nm) A1 A2 A3) (hK : ¬ K = 0) (hk : D[k]? = some o) (h : r_act_J26 post S (nI n) (nI k)) : r_act post S (nI n) := by
  obtain ⟨g, g0, -⟩ := hA
  unfold r_act
  rw [nI_clamp (show n < 2 ^ 31 by omega), g, i40 hn, g0]
  exact ⟨q_in (by omega) (by omega), fun _ => ⟨v40 hn, find_some hR hG hk h⟩, fun h => absurd h hK⟩
theorem actJ_0 {post : Mem → Prop} {S : Mem} {n : Nat} {k0 A0 A1 A2 A3 : Int32} (hn : n < 24) (hA : RA S n 0 A0 A1 A2 A3) (h : r_make (fun S1 => post S1) S (nI n)) : r_act_J26 post S (nI n) k0 := by
  unfold r_act_J26
  rw [nI_clamp (show n < 2 ^ 31 by omega), hA.1, i41 hn, i42 hn, hA.2.2.1, hA.2.2.2.1]
  exact ⟨v41 hn, v42 hn, q_in (by omega) (by omega), fun _ => h, fun h => absurd h (by decide), fun h => absurd h (by decide), fun h => absurd h (by decide), fun h => absurd h (by decide), fun h => absurd h (by decide), fun h => absurd h (by decide), fun h => absurd h (by decide), fun h => absurd h (by decide), fun h => absurd h (by decide)⟩
theorem actJ_1 {post : Mem → Prop} {S : Mem} {n : Nat} {k0 A0 A1 A2 A3 : Int32} (hn : n < 24) (hA : RA S n 1 A0 A1 A2 A3) (h : r_delete (fun S2 => post S2) S k0) : r_act_J26 post S (nI n) k0 := by
  unfold r_act_J26
  rw [nI_clamp (show n < 2 ^ 31 by omega), hA.1, i41 hn, i42 hn, hA.2.2.1, hA.2.2.2.1]
  exact ⟨v41 hn, v42 hn, q_in (by omega) (by omega), fun h => absurd h (by decide), fun _ => h, fun h => absurd h (by decide), fun h => absurd h (by decide), fun h => absurd h (by decide), fun h => absurd h (by decide), fun h => absurd h (by decide), fun h => absurd h (by decide), fun h => absurd h (by decide), fun h => absurd h (by decide)⟩
theorem actJ_2 {post : Mem → Prop} {S : Mem} {n : Nat} {k0 A0 A1 A2 A3 : Int32} (hn : n < 24) (hA : RA S n 2 A0 A1 A2 A3) (h : r_behind (fun r3 S3 => r_shift (fun S4 => post S4) S3 k0 r3 A1 A2) S k0) : r_act_J26 post S (nI n) k0 := by
  unfold r_act_J26
  rw [nI_clamp (show n < 2 ^ 31 by omega), hA.1, i41 hn, i42 hn, hA.2.2.1, hA.2.2.2.1]
  exact ⟨v41 hn, v42 hn, q_in (by omega) (by omega), fun h => absurd h (by decide), fun h => absurd h (by decide), fun _ => h, fun h => absurd h (by decide), fun h => absurd h (by decide), fun h => absurd h (by decide), fun h => absurd h (by decide), fun h => absurd h (by decide), fun h => absurd h (by decide), fun h => absurd h (by decide)⟩
theorem actJ_3 {post : Mem → Prop} {S : Mem} {n : Nat} {k0 A0 A1 A2 A3 : Int32} (hn : n < 24) (hA : RA S n 3 A0 A1 A2 A3) (h : r_behind (fun r5 S5 => r_scale (fun S6 => post S6) S5 k0 r5 A1 A2) S k0) : r_act_J26 post S (nI n) k0 := by
  unfold r_act_J26
  rw [nI_clamp (show n < 2 ^ 31 by omega), hA.1, i41 hn, i42 hn, hA.2.2.1, hA.2.2.2.1]
  exact ⟨v41 hn, v42 hn, q_in (by omega) (by omega), fun h => absurd h (by decide), fun h => absurd h (by decide), fun h => absurd h (by decide), fun _ => h, fun h => absurd h (by decide), fun h => absurd h (by decide), fun h => absurd h (by decide), fun h => absurd h (by decide), fun h => absurd h (by decide), fun h => absurd h (by decide)⟩
theorem actJ_4 {post : Mem → Prop} {S : Mem} {n : Nat} {k0 A0 A1 A2 A3 : Int32} (hn : n < 24) (hA : RA S n 4 A0 A1 A2 A3) (h : r_behind (fun r7 S7 => ∃ n, r_act_L155 post n S7 k0 A1 r7) S k0) : r_act_J26 post S (nI n) k0 := by
  unfold r_act_J26
  rw [nI_clamp (show n < 2 ^ 31 by omega), hA.1, i41 hn, i42 hn, hA.2.2.1, hA.2.2.2.1]
  exact ⟨v41 hn, v42 hn, q_in (by omega) (by omega), fun h => absurd h (by decide), fun h => absurd h (by decide), fun h => absurd h (by decide), fun h => absurd h (by decide), fun _ => h, fun h => absurd h (by decide), fun h => absurd h (by decide), fun h => absurd h (by decide), fun h => absurd h (by decide), fun h => absurd h (by decide)⟩
theorem actJ_5 {post : Mem → Prop} {S : Mem} {n : Nat} {k0 A0 A1 A2 A3 : Int32} (hn : n < 24) (hA : RA S n 5 A0 A1 A2 A3) (h : r_raise (fun S8 => post S8) S k0 (if A1 = 1 then 1 else 0 : Int32)) : r_act_J26 post S (nI n) k0 := by
  unfold r_act_J26
  rw [nI_clamp (show n < 2 ^ 31 by omega), hA.1, i41 hn, i42 hn, hA.2.2.1, hA.2.2.2.1]
  exact ⟨v41 hn, v42 hn, q_in (by omega) (by omega), fun h => absurd h (by decide), fun h => absurd h (by decide), fun h => absurd h (by decide), fun h => absurd h (by decide), fun h => absurd h (by decide), fun _ => h, fun h => absurd h (by decide), fun h => absurd h (by decide), fun h => absurd h (by decide), fun h => absurd h (by decide)⟩
theorem actJ_6 {post : Mem → Prop} {S : Mem} {n : Nat} {k0 A0 A1 A2 A3 : Int32} (hn : n < 24) (hA : RA S n 6 A0 A1 A2 A3) (h : r_find (fun r9 S9 => r_group (fun S10 => post S10) S9 (nI n) k0 r9) S A1) : r_act_J26 post S (nI n) k0 := by
  unfold r_act_J26
  rw [nI_clamp (show n < 2 ^ 31 by omega), hA.1, i41 hn, i42 hn, hA.2.2.1, hA.2.2.2.1]
  exact ⟨v41 hn, v42 hn, q_in (by omega) (by omega), fun h => absurd h (by decide), fun h => absurd h (by decide), fun h => absurd h (by decide), fun h => absurd h (by decide), fun h => absurd h (by decide), fun h => absurd h (by decide), fun _ => h, fun h => absurd h (by decide), fun h => absurd h (by decide), fun h => absurd h (by decide)⟩
theorem actJ_7 {post : Mem → Prop} {S : Mem} {n : Nat} {k0 A0 A1 A2 A3 : Int32} (hn : n < 24) (hA : RA S n 7 A0 A1 A2 A3) (h : r_ungroup (fun S11 => post S11) S k0) : r_act_J26 post S (nI n) k0 := by
  unfold r_act_J26
  rw [nI_clamp (show n < 2 ^ 31 by omega), hA.1, i41 hn, i42 hn, hA.2.2.1, hA.2.2.2.1]
  exact ⟨v41 hn, v42 hn, q_in (by omega) (by omega), fun h => absurd h (by decide), fun h => absurd h (by decide), fun h => absurd h (by decide), fun h => absurd h (by decide), fun h => absurd h (by decide), fun h => absurd h (by decide), fun h => absurd h (by decide), fun _ => h, fun h => absurd h (by decide), fun h => absurd h (by decide)⟩
theorem actJ_8 {post : Mem → Prop} {S : Mem} {n : Nat} {k0 A0 A1 A2 A3 : Int32} (hn : n < 24) (hA : RA S n 8 A0 A1 A2 A3) (h : r_twice (fun S12 => post S12) S (nI n) k0 A1 A2) : r_act_J26 post S (nI n) k0 := by
  unfold r_act_J26
  rw [nI_clamp (show n < 2 ^ 31 by omega), hA.1, i41 hn, i42 hn, hA.2.2.1, hA.2.2.2.1]
  exact ⟨v41 hn, v42 hn, q_in (by omega) (by omega), fun h => absurd h (by decide), fun h => absurd h (by decide), fun h => absurd h (by decide), fun h => absurd h (by decide), fun h => absurd h (by decide), fun h => absurd h (by decide), fun h => absurd h (by decide), fun h => absurd h (by decide), fun _ => h, fun h => absurd h (by decide)⟩
theorem actJ_9 {post : Mem → Prop} {S : Mem} {n : Nat} {k0 A0 A1 A2 A3 : Int32} (hn : n < 24) (hA : RA S n 9 A0 A1 A2 A3) (h : r_find (fun r13 S13 => r_align (fun S14 => post S14) S13 k0 r13 A2) S A1) : r_act_J26 post S (nI n) k0 := by
  unfold r_act_J26
  rw [nI_clamp (show n < 2 ^ 31 by omega), hA.1, i41 hn, i42 hn, hA.2.2.1, hA.2.2.2.1]
  exact ⟨v41 hn, v42 hn, q_in (by omega) (by omega), fun h => absurd h (by decide), fun h => absurd h (by decide), fun h => absurd h (by decide), fun h => absurd h (by decide), fun h => absurd h (by decide), fun h => absurd h (by decide), fun h => absurd h (by decide), fun h => absurd h (by decide), fun h => absurd h (by decide), fun _ => h⟩
theorem act_0 {post : Mem → Prop} {S : Mem} {D : List Ob} {n : Nat} {A0 A1 A2 A3 : Int32} (hR : RD S D) (hn : n < 24) (hA : RA S n 0 A0 A1 A2 A3) (h : r_make (fun S1 => post S1) S (nI n)) : r_act post S (nI n) := by
  unfold r_act
  rw [nI_clamp (show n < 2 ^ 31 by omega), hA.1]
  exact ⟨q_in (by omega) (by omega), fun h => absurd rfl h, fun _ => actJ_0 hn hA h⟩
theorem cry_none {D : List Ob} {n : Nat} {K A1 A2 A3 : Int32} (hK : ¬ K = 0) {x : Nat} (hx : x < 24) (hno : ∀ o ∈ D, o.nm ≠ x) : Cry D n K (nI x) A1 A2 A3 0 D := by
  intro post S d q hC hA hq hp
  unfold cw_carryOut
  rw [hA.1, hA.2.1, nI_clamp (by omega), hC.2.2.2 x hx hno]
  exact ⟨fun _ => ⟨q_in (by omega) (by omega), fun h => absurd rfl h, fun _ => hp S hC Fq.rf⟩, fun h => absurd h hK⟩
theorem cryJ_1 {post : Int32 → Mem → Prop} {S : Mem} {d q n x : Nat} {A1 A2 A3 : Int32} (hA : CA S q 1 (nI x) A1 A2 A3) (hx : x < 24) (hth : S (d + 2 + x) 0 = 1) (h : cw_delete (fun r S1 => vp_nar .boolean r = r ∧ post r S1) S d (nI x)) : cw_carryOut post S d q (nI n) := by
  unfold cw_carryOut
  rw [hA.1, hA.2.1, nI_clamp (show x < 2 ^ 31 by omega), hth, hA.2.2.1, hA.2.2.2.1]
  exact ⟨fun _ => ⟨q_in (by omega) (by omega), fun _ => ⟨fun _ => h, fun h => absurd h (by decide), fun h => absurd h (by decide), fun h => absurd h (by decide), fun h => absurd h (by decide), fun h => absurd h (by decide), fun h => absurd h (by decide), fun h => absurd h (by decide), fun h => absurd h (by decide), fun h => absurd h (by decide)⟩, fun h => absurd h (by decide)⟩, fun h => absurd h (by decide)⟩
theorem cryJ_2 {post : Int32 → Mem → Prop} {S : Mem} {d q n x : Nat} {A1 A2 A3 : Int32} (hA : CA S q 2 (nI x) A1 A2 A3) (hx : x < 24) (hth : S (d + 2 + x) 0 = 1) (h : cw_move (fun r S1 => vp_nar .boolean r = r ∧ post r S1) S d (nI x) A1 A2) : cw_carryOut post S d q (nI n) := by
  unfold cw_carryOut
  rw [hA.1, hA.2.1, nI_clamp (show x < 2 ^ 31 by omega), hth, hA.2.2.1, hA.2.2.2.1]
  exact ⟨fun _ => ⟨q_in (by omega) (by omega), fun _ => ⟨fun h => absurd h (by decide), fun _ => h, fun h => absurd h (by decide), fun h => absurd h (by decide), fun h => absurd h (by decide), fun h => absurd h (by decide), fun h => absurd h (by decide), fun h => absurd h (by decide), fun h => absurd h (by decide), fun h => absurd h (by decide)⟩, fun h => absurd h (by decide)⟩, fun h => absurd h (by decide)⟩
theorem cryJ_3 {post : Int32 → Mem → Prop} {S : Mem} {d q n x : Nat} {A1 A2 A3 : Int32} (hA : CA S q 3 (nI x) A1 A2 A3) (hx : x < 24) (hth : S (d + 2 + x) 0 = 1) (h : cw_scale (fun r S1 => vp_nar .boolean r = r ∧ post r S1) S d (nI x) A1 A2) : cw_carryOut post S d q (nI n) := by
  unfold cw_carryOut
  rw [hA.1, hA.2.1, nI_clamp (show x < 2 ^ 31 by omega), hth, hA.2.2.1, hA.2.2.2.1]
  exact ⟨fun _ => ⟨q_in (by omega) (by omega), fun _ => ⟨fun h => absurd h (by decide), fun h => absurd h (by decide), fun _ => h, fun h => absurd h (by decide), fun h => absurd h (by decide), fun h => absurd h (by decide), fun h => absurd h (by decide), fun h => absurd h (by decide), fun h => absurd h (by decide), fun h => absurd h (by decide)⟩, fun h => absurd h (by decide)⟩, fun h => absurd h (by decide)⟩
theorem cryJ_4 {post : Int32 → Mem → Prop} {S : Mem} {d q n x : Nat} {A1 A2 A3 : Int32} (hA : CA S q 4 (nI x) A1 A2 A3) (hx : x < 24) (hth : S (d + 2 + x) 0 = 1) (h : cw_paint (fun r S1 => vp_nar .boolean r = r ∧ post r S1) S d (nI x) A1) : cw_carryOut post S d q (nI n) := by
  unfold cw_carryOut
  rw [hA.1, hA.2.1, nI_clamp (show x < 2 ^ 31 by omega), hth, hA.2.2.1, hA.2.2.2.1]
  exact ⟨fun _ => ⟨q_in (by omega) (by omega), fun _ => ⟨fun h => absurd h (by decide), fun h => absurd h (by decide), fun h => absurd h (by decide), fun _ => h, fun h => absurd h (by decide), fun h => absurd h (by decide), fun h => absurd h (by decide), fun h => absurd h (by decide), fun h => absurd h (by decide), fun h => absurd h (by decide)⟩, fun h => absurd h (by decide)⟩, fun h => absurd h (by decide)⟩
theorem cryJ_5 {post : Int32 → Mem → Prop} {S : Mem} {d q n x : Nat} {A1 A2 A3 : Int32} (hA : CA S q 5 (nI x) A1 A2 A3) (hx : x < 24) (hth : S (d + 2 + x) 0 = 1) (h : cw_raise (fun r S1 => vp_nar .boolean r = r ∧ post r S1) S d (nI x) A1) : cw_carryOut post S d q (nI n) := by
  unfold cw_carryOut
  rw [hA.1, hA.2.1, nI_clamp (show x < 2 ^ 31 by omega), hth, hA.2.2.1, hA.2.2.2.1]
  exact ⟨fun _ => ⟨q_in (by omega) (by omega), fun _ => ⟨fun h => absurd h (by decide), fun h => absurd h (by decide), fun h => absurd h (by decide), fun h => absurd h (by decide), fun _ => h, fun h => absurd h (by decide), fun h => absurd h (by decide), fun h => absurd h (by decide), fun h => absurd h (by decide), fun h => absurd h (by decide)⟩, fun h => absurd h (by decide)⟩, fun h => absurd h (by decide)⟩
theorem cryJ_6 {post : Int32 → Mem → Prop} {S : Mem} {d q n x : Nat} {A1 A2 A3 : Int32} (hA : CA S q 6 (nI x) A1 A2 A3) (hx : x < 24) (hth : S (d + 2 + x) 0 = 1) (h : cw_group (fun r S1 => vp_nar .boolean r = r ∧ post r S1) S d (nI x) A1 (nI n)) : cw_carryOut post S d q (nI n) := by
  unfold cw_carryOut
  rw [hA.1, hA.2.1, nI_clamp (show x < 2 ^ 31 by omega), hth, hA.2.2.1, hA.2.2.2.1]
  exact ⟨fun _ => ⟨q_in (by omega) (by omega), fun _ => ⟨fun h => absurd h (by decide), fun h => absurd h (by decide), fun h => absurd h (by decide), fun h => absurd h (by decide), fun h => absurd h (by decide), fun _ => h, fun h => absurd h (by decide), fun h => absurd h (by decide), fun h => absurd h (by decide), fun h => absurd h (by decide)⟩, fun h => absurd h (by decide)⟩, fun h => absurd h (by decide)⟩
theorem cryJ_7 {post : Int32 → Mem → Prop} {S : Mem} {d q n x : Nat} {A1 A2 A3 : Int32} (hA : CA S q 7 (nI x) A1 A2 A3) (hx : x < 24) (hth : S (d + 2 + x) 0 = 1) (h : cw_ungroup (fun r S1 => vp_nar .boolean r = r ∧ post r S1) S d (nI x)) : cw_carryOut post S d q (nI n) := by
  unfold cw_carryOut
  rw [hA.1, hA.2.1, nI_clamp (show x < 2 ^ 31 by omega), hth, hA.2.2.1, hA.2.2.2.1]
  exact ⟨fun _ => ⟨q_in (by omega) (by omega), fun _ => ⟨fun h => absurd h (by decide), fun h => absurd h (by decide), fun h => absurd h (by decide), fun h => absurd h (by decide), fun h => absurd h (by decide), fun h => absurd h (by decide), fun _ => h, fun h => absurd h (by decide), fun h => absurd h (by decide), fun h => absurd h (by decide)⟩, fun h => absurd h (by decide)⟩, fun h => absurd h (by decide)⟩
theorem cryJ_8 {post : Int32 → Mem → Prop} {S : Mem} {d q n x : Nat} {A1 A2 A3 : Int32} (hA : CA S q 8 (nI x) A1 A2 A3) (hx : x < 24) (hth : S (d + 2 + x) 0 = 1) (h : cw_makeDouble (fun r S1 => vp_nar .boolean r = r ∧ post r S1) S d (nI x) A1 A2 (nI n)) : cw_carryOut post S d q (nI n) := by
  unfold cw_carryOut
  rw [hA.1, hA.2.1, nI_clamp (show x < 2 ^ 31 by omega), hth, hA.2.2.1, hA.2.2.2.1]
  exact ⟨fun _ => ⟨q_in (by omega) (by omega), fun _ => ⟨fun h => absurd h (by decide), fun h => absurd h (by decide), fun h => absurd h (by decide), fun h => absurd h (by decide), fun h => absurd h (by decide), fun h => absurd h (by decide), fun h => absurd h (by decide), fun _ => h, fun h => absurd h (by decide), fun h => absurd h (by decide)⟩, fun h => absurd h (by decide)⟩, fun h => absurd h (by decide)⟩
theorem cryJ_9 {post : Int32 → Mem → Prop} {S : Mem} {d q n x : Nat} {A1 A2 A3 : Int32} (hA : CA S q 9 (nI x) A1 A2 A3) (hx : x < 24) (hth : S (d + 2 + x) 0 = 1) (h : cw_align (fun r S1 => vp_nar .boolean r = r ∧ post r S1) S d (nI x) A1 A2) : cw_carryOut post S d q (nI n) := by
  unfold cw_carryOut
  rw [hA.1, hA.2.1, nI_clamp (show x < 2 ^ 31 by omega), hth, hA.2.2.1, hA.2.2.2.1]
  exact ⟨fun _ => ⟨q_in (by omega) (by omega), fun _ => ⟨fun h => absurd h (by decide), fun h => absurd h (by decide), fun h => absurd h (by decide), fun h => absurd h (by decide), fun h => absurd h (by decide), fun h => absurd h (by decide), fun h => absurd h (by decide), fun h => absurd h (by decide), fun _ => h, fun h => absurd h (by decide)⟩, fun h => absurd h (by decide)⟩, fun h => absurd h (by decide)⟩
theorem cryJ_0 {post : Int32 → Mem → Prop} {S : Mem} {d q n : Nat} {A0 A1 A2 A3 : Int32} (hA : CA S q 0 A0 A1 A2 A3) (h : cw_make (fun r S1 => vp_nar .boolean r = r ∧ post r S1) S d q (nI n)) : cw_carryOut post S d q (nI n) := by
  unfold cw_carryOut
  rw [hA.1]
  exact ⟨fun h => absurd rfl h, fun _ => h⟩
