theorem q_mul (a b : Nat) : nI a * nI b = nI (a * b) := by
  unfold nI
  rw [← Int32.ofNat_mul]
/-- an action: its kind and its arguments -/
abbrev Ac : Type := Int32 × (Nat → Int32)
/-- v is an argument of sort s -/
def sv (s v : Int32) : Prop := (s = 1 ∧ btw 0 23 v) ∨ (s = 2 ∧ btw 0 2 v) ∨ (s = 3 ∧ btw (-200) 200 v) ∨ (s = 4 ∧ btw 1 100 (v - v / 128 * 128) ∧ btw 1 100 (v / 128)) ∨ (s = 5 ∧ btw 1 9 v) ∨ (s = 6 ∧ btw 0 7 v) ∨ (s = 7 ∧ btw 0 1 v) ∨ (s = 8 ∧ btw 0 3 v)
theorem sv_1 {v : Int32} : sv 1 v ↔ btw 0 23 v := by
  unfold sv
  constructor
  · rintro (⟨h, h'⟩ | ⟨h, h'⟩ | ⟨h, h'⟩ | ⟨h, h'⟩ | ⟨h, h'⟩ | ⟨h, h'⟩ | ⟨h, h'⟩ | ⟨h, h'⟩)
    · exact h'
    · exact absurd h (by decide)
    · exact absurd h (by decide)
    · exact absurd h (by decide)
    · exact absurd h (by decide)
    · exact absurd h (by decide)
    · exact absurd h (by decide)
    · exact absurd h (by decide)
  · exact fun h => Or.inl ⟨rfl, h⟩
theorem sv_2 {v : Int32} : sv 2 v ↔ btw 0 2 v := by
  unfold sv
  constructor
  · rintro (⟨h, h'⟩ | ⟨h, h'⟩ | ⟨h, h'⟩ | ⟨h, h'⟩ | ⟨h, h'⟩ | ⟨h, h'⟩ | ⟨h, h'⟩ | ⟨h, h'⟩)
    · exact absurd h (by decide)
    · exact h'
    · exact absurd h (by decide)
    · exact absurd h (by decide)
    · exact absurd h (by decide)
    · exact absurd h (by decide)
    · exact absurd h (by decide)
    · exact absurd h (by decide)
  · exact fun h => Or.inr (Or.inl ⟨rfl, h⟩)
theorem sv_3 {v : Int32} : sv 3 v ↔ btw (-200) 200 v := by
  unfold sv
  constructor
  · rintro (⟨h, h'⟩ | ⟨h, h'⟩ | ⟨h, h'⟩ | ⟨h, h'⟩ | ⟨h, h'⟩ | ⟨h, h'⟩ | ⟨h, h'⟩ | ⟨h, h'⟩)
    · exact absurd h (by decide)
    · exact absurd h (by decide)
    · exact h'
    · exact absurd h (by decide)
    · exact absurd h (by decide)
    · exact absurd h (by decide)
    · exact absurd h (by decide)
    · exact absurd h (by decide)
  · exact fun h => Or.inr (Or.inr (Or.inl ⟨rfl, h⟩))
theorem sv_4 {v : Int32} : sv 4 v ↔ btw 1 100 (v - v / 128 * 128) ∧ btw 1 100 (v / 128) := by
  unfold sv
  constructor
  · rintro (⟨h, h'⟩ | ⟨h, h'⟩ | ⟨h, h'⟩ | ⟨h, h'⟩ | ⟨h, h'⟩ | ⟨h, h'⟩ | ⟨h, h'⟩ | ⟨h, h'⟩)
    · exact absurd h (by decide)
    · exact absurd h (by decide)
    · exact absurd h (by decide)
    · exact h'
    · exact absurd h (by decide)
    · exact absurd h (by decide)
    · exact absurd h (by decide)
    · exact absurd h (by decide)
  · exact fun h => Or.inr (Or.inr (Or.inr (Or.inl ⟨rfl, h⟩)))
theorem sv_5 {v : Int32} : sv 5 v ↔ btw 1 9 v := by
  unfold sv
  constructor
  · rintro (⟨h, h'⟩ | ⟨h, h'⟩ | ⟨h, h'⟩ | ⟨h, h'⟩ | ⟨h, h'⟩ | ⟨h, h'⟩ | ⟨h, h'⟩ | ⟨h, h'⟩)
    · exact absurd h (by decide)
    · exact absurd h (by decide)
    · exact absurd h (by decide)
    · exact absurd h (by decide)
    · exact h'
    · exact absurd h (by decide)
    · exact absurd h (by decide)
    · exact absurd h (by decide)
  · exact fun h => Or.inr (Or.inr (Or.inr (Or.inr (Or.inl ⟨rfl, h⟩))))
theorem sv_6 {v : Int32} : sv 6 v ↔ btw 0 7 v := by
  unfold sv
  constructor
  · rintro (⟨h, h'⟩ | ⟨h, h'⟩ | ⟨h, h'⟩ | ⟨h, h'⟩ | ⟨h, h'⟩ | ⟨h, h'⟩ | ⟨h, h'⟩ | ⟨h, h'⟩)
    · exact absurd h (by decide)
    · exact absurd h (by decide)
    · exact absurd h (by decide)
    · exact absurd h (by decide)
    · exact absurd h (by decide)
    · exact h'
    · exact absurd h (by decide)
    · exact absurd h (by decide)
  · exact fun h => Or.inr (Or.inr (Or.inr (Or.inr (Or.inr (Or.inl ⟨rfl, h⟩)))))
theorem sv_7 {v : Int32} : sv 7 v ↔ btw 0 1 v := by
  unfold sv
  constructor
  · rintro (⟨h, h'⟩ | ⟨h, h'⟩ | ⟨h, h'⟩ | ⟨h, h'⟩ | ⟨h, h'⟩ | ⟨h, h'⟩ | ⟨h, h'⟩ | ⟨h, h'⟩)
    · exact absurd h (by decide)
    · exact absurd h (by decide)
    · exact absurd h (by decide)
    · exact absurd h (by decide)
    · exact absurd h (by decide)
    · exact absurd h (by decide)
    · exact h'
    · exact absurd h (by decide)
  · exact fun h => Or.inr (Or.inr (Or.inr (Or.inr (Or.inr (Or.inr (Or.inl ⟨rfl, h⟩))))))
theorem sv_8 {v : Int32} : sv 8 v ↔ btw 0 3 v := by
  unfold sv
  constructor
  · rintro (⟨h, h'⟩ | ⟨h, h'⟩ | ⟨h, h'⟩ | ⟨h, h'⟩ | ⟨h, h'⟩ | ⟨h, h'⟩ | ⟨h, h'⟩ | ⟨h, h'⟩)
    · exact absurd h (by decide)
    · exact absurd h (by decide)
    · exact absurd h (by decide)
    · exact absurd h (by decide)
    · exact absurd h (by decide)
    · exact absurd h (by decide)
    · exact absurd h (by decide)
    · exact h'
  · exact fun h => Or.inr (Or.inr (Or.inr (Or.inr (Or.inr (Or.inr (Or.inr (⟨rfl, h⟩)))))))
theorem sv_0 {v : Int32} : ¬ sv 0 v := by
  unfold sv
  rintro (⟨h, -⟩ | ⟨h, -⟩ | ⟨h, -⟩ | ⟨h, -⟩ | ⟨h, -⟩ | ⟨h, -⟩ | ⟨h, -⟩ | ⟨h, -⟩)
  · exact absurd h (by decide)
  · exact absurd h (by decide)
  · exact absurd h (by decide)
  · exact absurd h (by decide)
  · exact absurd h (by decide)
  · exact absurd h (by decide)
  · exact absurd h (by decide)
  · exact absurd h (by decide)
/-- a valid action -/
def vac (a : Ac) : Prop := ∃ kk, kk < 10 ∧ a.1 = nI kk ∧ ∀ i, i < 4 → sortsF (4 * kk + i) = 0 ∨ sv (sortsF (4 * kk + i)) (a.2 i)
theorem so_0 : sortsF 0 = 2 := by decide
theorem so_1 : sortsF 1 = 3 := by decide
theorem so_2 : sortsF 2 = 3 := by decide
theorem so_3 : sortsF 3 = 4 := by decide
theorem so_4 : sortsF 4 = 1 := by decide
theorem so_5 : sortsF 5 = 0 := by decide
theorem so_6 : sortsF 6 = 0 := by decide
theorem so_7 : sortsF 7 = 0 := by decide
theorem so_8 : sortsF 8 = 1 := by decide
theorem so_9 : sortsF 9 = 3 := by decide
theorem so_10 : sortsF 10 = 3 := by decide
theorem so_11 : sortsF 11 = 0 := by decide
theorem so_12 : sortsF 12 = 1 := by decide
theorem so_13 : sortsF 13 = 5 := by decide
theorem so_14 : sortsF 14 = 5 := by decide
theorem so_15 : sortsF 15 = 0 := by decide
theorem so_16 : sortsF 16 = 1 := by decide
theorem so_17 : sortsF 17 = 6 := by decide
theorem so_18 : sortsF 18 = 0 := by decide
theorem so_19 : sortsF 19 = 0 := by decide
theorem so_20 : sortsF 20 = 1 := by decide
theorem so_21 : sortsF 21 = 7 := by decide
theorem so_22 : sortsF 22 = 0 := by decide
theorem so_23 : sortsF 23 = 0 := by decide
theorem so_24 : sortsF 24 = 1 := by decide
theorem so_25 : sortsF 25 = 1 := by decide
theorem so_26 : sortsF 26 = 0 := by decide
theorem so_27 : sortsF 27 = 0 := by decide
theorem so_28 : sortsF 28 = 1 := by decide
theorem so_29 : sortsF 29 = 0 := by decide
theorem so_30 : sortsF 30 = 0 := by decide
theorem so_31 : sortsF 31 = 0 := by decide
theorem so_32 : sortsF 32 = 1 := by decide
theorem so_33 : sortsF 33 = 3 := by decide
theorem so_34 : sortsF 34 = 3 := by decide
theorem so_35 : sortsF 35 = 0 := by decide
theorem so_36 : sortsF 36 = 1 := by decide
theorem so_37 : sortsF 37 = 1 := by decide
theorem so_38 : sortsF 38 = 8 := by decide
theorem so_39 : sortsF 39 = 0 := by decide
theorem vac_va {a : Ac} (h : vac a) : va a.1 (a.2 0) (a.2 1) (a.2 2) (a.2 3) := by
  obtain ⟨kk, hk, hK, h⟩ := h
  have g0 := h 0 (by omega)
  have g1 := h 1 (by omega)
  have g2 := h 2 (by omega)
  have g3 := h 3 (by omega)
  rcases (show kk = 0 ∨ kk = 1 ∨ kk = 2 ∨ kk = 3 ∨ kk = 4 ∨ kk = 5 ∨ kk = 6 ∨ kk = 7 ∨ kk = 8 ∨ kk = 9 by omega) with rfl | rfl | rfl | rfl | rfl | rfl | rfl | rfl | rfl | rfl
  · exact Or.inl ⟨hK, sv_2.mp ((so_0 ▸ g0).resolve_left (by decide)), sv_3.mp ((so_1 ▸ g1).resolve_left (by decide)), sv_3.mp ((so_2 ▸ g2).resolve_left (by decide)), (sv_4.mp ((so_3 ▸ g3).resolve_left (by decide))).1, (sv_4.mp ((so_3 ▸ g3).resolve_left (by decide))).2⟩
  · exact Or.inr (Or.inl ⟨hK, sv_1.mp ((so_4 ▸ g0).resolve_left (by decide))⟩)
  · exact Or.inr (Or.inr (Or.inl ⟨hK, sv_1.mp ((so_8 ▸ g0).resolve_left (by decide)), sv_3.mp ((so_9 ▸ g1).resolve_left (by decide)), sv_3.mp ((so_10 ▸ g2).resolve_left (by decide))⟩))
  · exact Or.inr (Or.inr (Or.inr (Or.inl ⟨hK, sv_1.mp ((so_12 ▸ g0).resolve_left (by decide)), sv_5.mp ((so_13 ▸ g1).resolve_left (by decide)), sv_5.mp ((so_14 ▸ g2).resolve_left (by decide))⟩)))
  · exact Or.inr (Or.inr (Or.inr (Or.inr (Or.inl ⟨hK, sv_1.mp ((so_16 ▸ g0).resolve_left (by decide)), sv_6.mp ((so_17 ▸ g1).resolve_left (by decide))⟩))))
  · exact Or.inr (Or.inr (Or.inr (Or.inr (Or.inr (Or.inl ⟨hK, sv_1.mp ((so_20 ▸ g0).resolve_left (by decide)), sv_7.mp ((so_21 ▸ g1).resolve_left (by decide))⟩)))))
  · exact Or.inr (Or.inr (Or.inr (Or.inr (Or.inr (Or.inr (Or.inl ⟨hK, sv_1.mp ((so_24 ▸ g0).resolve_left (by decide)), sv_1.mp ((so_25 ▸ g1).resolve_left (by decide))⟩))))))
  · exact Or.inr (Or.inr (Or.inr (Or.inr (Or.inr (Or.inr (Or.inr (Or.inl ⟨hK, sv_1.mp ((so_28 ▸ g0).resolve_left (by decide))⟩)))))))
  · exact Or.inr (Or.inr (Or.inr (Or.inr (Or.inr (Or.inr (Or.inr (Or.inr (Or.inl ⟨hK, sv_1.mp ((so_32 ▸ g0).resolve_left (by decide)), sv_3.mp ((so_33 ▸ g1).resolve_left (by decide)), sv_3.mp ((so_34 ▸ g2).resolve_left (by decide))⟩))))))))
  · exact Or.inr (Or.inr (Or.inr (Or.inr (Or.inr (Or.inr (Or.inr (Or.inr (Or.inr (⟨hK, sv_1.mp ((so_36 ▸ g0).resolve_left (by decide)), sv_1.mp ((so_37 ▸ g1).resolve_left (by decide)), sv_8.mp ((so_38 ▸ g2).resolve_left (by decide))⟩)))))))))
theorem vac_upd {a : Ac} {i : Nat} {v : Int32} {kk : Nat} (h : vac a) (hk : kk < 10) (hK : a.1 = nI kk) (hv : sv (sortsF (4 * kk + i)) v) : vac (a.1, fun j => if j = i then v else a.2 j) := by
  obtain ⟨k2, hk2, hK2, h⟩ := h
  have : k2 = kk := (q_eq (by omega) (by omega)).mp (hK2.symm.trans hK)
  subst this
  refine ⟨k2, hk, hK, fun j hj => ?_⟩
  by_cases hji : j = i
  · subst hji
    right
    show sv _ (if j = j then v else a.2 j)
    rw [if_pos rfl]
    exact hv
  · show _ ∨ sv _ (if j = i then v else a.2 j)
    rw [if_neg hji]
    exact h j hj
theorem wthin {post : Int32 → Mem → Prop} {S : Mem} {v lo hi : Int32} (hy : btw lo hi v → post 1 S) (hn : ¬ btw lo hi v → post 0 S) : ca_isWithin post S v lo hi := by
  unfold ca_isWithin
  by_cases h1 : v < lo
  · rw [if_pos h1]
    exact ⟨nar0, hn (fun q => q.1 h1)⟩
  · rw [if_neg h1]
    by_cases h2 : hi < v
    · rw [if_pos h2]
      exact ⟨nar0, hn (fun q => q.2 h2)⟩
    · rw [if_neg h2]
      exact ⟨nar1, hy ⟨h1, h2⟩⟩
theorem between {post : Int32 → Mem → Prop} {S : Mem} {v lo hi : Int32} (hy : btw lo hi v → post 1 S) (hn : ¬ btw lo hi v → post 0 S) : r_isBetween post S v lo hi := by
  unfold r_isBetween
  by_cases h1 : v < lo
  · rw [if_pos h1]
    exact ⟨nar0, hn (fun q => q.1 h1)⟩
  · rw [if_neg h1]
    by_cases h2 : hi < v
    · rw [if_pos h2]
      exact ⟨nar0, hn (fun q => q.2 h2)⟩
    · rw [if_neg h2]
      exact ⟨nar1, hy ⟨h1, h2⟩⟩
theorem csort_ok {post : Int32 → Mem → Prop} {S : Mem} {q kk i : Nat} (hK : S q 0 = nI kk) (hk : kk < 10) (hi : i < 4) (hp : post (sortsF (4 * kk + i)) S) : ca_sort post S q (nI i) := by
  unfold ca_sort
  rw [hK, show nI kk * 4 + nI i = nI (4 * kk + i) from by rw [show (4 : Int32) = nI 4 from rfl, q_mul, q_add, Nat.mul_comm], nI_clamp (show 4 * kk + i < 2 ^ 31 by omega)]
  refine ⟨fun h => absurd h (q_nlt0 (by omega)), fun _ => ⟨fun h => ?_, fun _ => ⟨fun h => absurd h (q_nlt0 (by omega)), fun _ => ⟨fun _ => ⟨q_in (by omega) (by omega), hp⟩, fun h => absurd ?_ h⟩⟩⟩⟩
  · rw [show (9 : Int32) = nI 9 from rfl, q_lt (by omega) (by omega)] at h
    omega
  · rw [show (4 : Int32) = nI 4 from rfl, q_lt (by omega) (by omega)]
    exact hi
theorem csort_out {post : Int32 → Mem → Prop} {S : Mem} {q kk : Nat} {l : Int32} (hK : S q 0 = nI kk) (hk : kk < 10) (hl : l < 0 ∨ ¬ l < 4) (hp : post 0 S) : ca_sort post S q l := by
  unfold ca_sort
  refine ⟨fun _ => hp, fun _ => ⟨fun _ => hp, fun _ => ⟨fun _ => hp, fun h0 => ⟨fun h4 => ?_, fun _ => hp⟩⟩⟩⟩
  rcases hl with h | h
  · exact absurd h h0
  · exact absurd h4 h
theorem csort_bad {post : Int32 → Mem → Prop} {S : Mem} {q : Nat} {l : Int32} (hK : S q 0 < 0 ∨ 9 < S q 0) (hp : post 0 S) : ca_sort post S q l := by
  unfold ca_sort
  refine ⟨fun _ => hp, fun h0 => ⟨fun _ => hp, fun h9 => ?_⟩⟩
  rcases hK with h | h
  · exact absurd h h0
  · exact absurd h h9
theorem so_in : ∀ j, j < 40 → (sortsF j = 0 ∨ sortsF j = 1 ∨ sortsF j = 2 ∨ sortsF j = 3 ∨ sortsF j = 4 ∨ sortsF j = 5 ∨ sortsF j = 6 ∨ sortsF j = 7 ∨ sortsF j = 8) := by decide +kernel
theorem csw {post : Int32 → Mem → Prop} {S : Mem} {s v : Int32} (hs : s = 0 ∨ s = 1 ∨ s = 2 ∨ s = 3 ∨ s = 4 ∨ s = 5 ∨ s = 6 ∨ s = 7 ∨ s = 8) (hy : sv s v → post 1 S) (hn : ¬ sv s v → post 0 S) : (s = 1 → ca_isWithin (fun r S2 => vp_nar .boolean r = r ∧ post r S2) S v 0 23) ∧ (s = 2 → ca_isWithin (fun r S2 => vp_nar .boolean r = r ∧ post r S2) S v 0 2) ∧ (s = 3 → ca_isWithin (fun r S2 => vp_nar .boolean r = r ∧ post r S2) S v (-200) 200) ∧ (s = 4 → ca_isWithin (fun r5 S5 => ((r5 = 0) → post 0 S5) ∧ ((¬ r5 = 0) → ca_isWithin (fun r6 S6 => ((r6 = 0) → post 0 S6) ∧ ((¬ r6 = 0) → post 1 S6)) S5 (v / 128) 1 100)) S (v - v / 128 * 128) 1 100) ∧ (s = 5 → ca_isWithin (fun r S2 => vp_nar .boolean r = r ∧ post r S2) S v 1 9) ∧ (s = 6 → ca_isWithin (fun r S2 => vp_nar .boolean r = r ∧ post r S2) S v 0 7) ∧ (s = 7 → ca_isWithin (fun r S2 => vp_nar .boolean r = r ∧ post r S2) S v 0 1) ∧ (s = 8 → ca_isWithin (fun r S2 => vp_nar .boolean r = r ∧ post r S2) S v 0 3) ∧ ((s.toInt < 1 ∨ 8 < s.toInt) → post 0 S) := by
  rcases hs with rfl | rfl | rfl | rfl | rfl | rfl | rfl | rfl | rfl
  · exact ⟨fun h => absurd h (by decide), fun h => absurd h (by decide), fun h => absurd h (by decide), fun h => absurd h (by decide), fun h => absurd h (by decide), fun h => absurd h (by decide), fun h => absurd h (by decide), fun h => absurd h (by decide), fun _ => hn sv_0⟩
  · exact ⟨fun _ => wthin (fun b => ⟨nar1, hy (sv_1.mpr b)⟩) (fun b => ⟨nar0, hn (fun q => b (sv_1.mp q))⟩), fun h => absurd h (by decide), fun h => absurd h (by decide), fun h => absurd h (by decide), fun h => absurd h (by decide), fun h => absurd h (by decide), fun h => absurd h (by decide), fun h => absurd h (by decide), fun h => absurd h (by decide)⟩
  · exact ⟨fun h => absurd h (by decide), fun _ => wthin (fun b => ⟨nar1, hy (sv_2.mpr b)⟩) (fun b => ⟨nar0, hn (fun q => b (sv_2.mp q))⟩), fun h => absurd h (by decide), fun h => absurd h (by decide), fun h => absurd h (by decide), fun h => absurd h (by decide), fun h => absurd h (by decide), fun h => absurd h (by decide), fun h => absurd h (by decide)⟩
  · exact ⟨fun h => absurd h (by decide), fun h => absurd h (by decide), fun _ => wthin (fun b => ⟨nar1, hy (sv_3.mpr b)⟩) (fun b => ⟨nar0, hn (fun q => b (sv_3.mp q))⟩), fun h => absurd h (by decide), fun h => absurd h (by decide), fun h => absurd h (by decide), fun h => absurd h (by decide), fun h => absurd h (by decide), fun h => absurd h (by decide)⟩
  · exact ⟨fun h => absurd h (by decide), fun h => absurd h (by decide), fun h => absurd h (by decide), fun _ => wthin (fun b1 => ⟨fun h => absurd h (by decide), fun _ => wthin (fun b2 => ⟨fun h => absurd h (by decide), fun _ => hy (sv_4.mpr ⟨b1, b2⟩)⟩) (fun b2 => ⟨fun _ => hn (fun q => b2 (sv_4.mp q).2), fun h => absurd rfl h⟩)⟩) (fun b1 => ⟨fun _ => hn (fun q => b1 (sv_4.mp q).1), fun h => absurd rfl h⟩), fun h => absurd h (by decide), fun h => absurd h (by decide), fun h => absurd h (by decide), fun h => absurd h (by decide), fun h => absurd h (by decide)⟩
  · exact ⟨fun h => absurd h (by decide), fun h => absurd h (by decide), fun h => absurd h (by decide), fun h => absurd h (by decide), fun _ => wthin (fun b => ⟨nar1, hy (sv_5.mpr b)⟩) (fun b => ⟨nar0, hn (fun q => b (sv_5.mp q))⟩), fun h => absurd h (by decide), fun h => absurd h (by decide), fun h => absurd h (by decide), fun h => absurd h (by decide)⟩
  · exact ⟨fun h => absurd h (by decide), fun h => absurd h (by decide), fun h => absurd h (by decide), fun h => absurd h (by decide), fun h => absurd h (by decide), fun _ => wthin (fun b => ⟨nar1, hy (sv_6.mpr b)⟩) (fun b => ⟨nar0, hn (fun q => b (sv_6.mp q))⟩), fun h => absurd h (by decide), fun h => absurd h (by decide), fun h => absurd h (by decide)⟩
  · exact ⟨fun h => absurd h (by decide), fun h => absurd h (by decide), fun h => absurd h (by decide), fun h => absurd h (by decide), fun h => absurd h (by decide), fun h => absurd h (by decide), fun _ => wthin (fun b => ⟨nar1, hy (sv_7.mpr b)⟩) (fun b => ⟨nar0, hn (fun q => b (sv_7.mp q))⟩), fun h => absurd h (by decide), fun h => absurd h (by decide)⟩
  · exact ⟨fun h => absurd h (by decide), fun h => absurd h (by decide), fun h => absurd h (by decide), fun h => absurd h (by decide), fun h => absurd h (by decide), fun h => absurd h (by decide), fun h => absurd h (by decide), fun _ => wthin (fun b => ⟨nar1, hy (sv_8.mpr b)⟩) (fun b => ⟨nar0, hn (fun q => b (sv_8.mp q))⟩), fun h => absurd h (by decide)⟩
theorem ctakes_ok {post : Int32 → Mem → Prop} {S : Mem} {q kk i : Nat} {v : Int32} (hK : S q 0 = nI kk) (hk : kk < 10) (hi : i < 4) (hy : sv (sortsF (4 * kk + i)) v → post 1 S) (hn : ¬ sv (sortsF (4 * kk + i)) v → post 0 S) : ca_takes post S q (nI i) v :=
  csort_ok hK hk hi (csw (so_in _ (by omega)) hy hn)
theorem ctakes_out {post : Int32 → Mem → Prop} {S : Mem} {q kk : Nat} {l v : Int32} (hK : S q 0 = nI kk) (hk : kk < 10) (hl : l < 0 ∨ ¬ l < 4) (hp : post 0 S) : ca_takes post S q l v :=
  csort_out hK hk hl (csw (Or.inl rfl) (fun h => absurd h sv_0) (fun _ => hp))
def nargs (kk : Nat) : Nat := if kk = 0 then 4 else if kk = 1 ∨ kk = 7 then 1 else if kk = 4 ∨ kk = 5 ∨ kk = 6 then 2 else 3
theorem nargs_so : ∀ kk, kk < 10 → ∀ i, i < 4 → (sortsF (4 * kk + i) = 0 ↔ nargs kk ≤ i) := by decide +kernel
theorem rargs_ok {post : Int32 → Mem → Prop} {S : Mem} {kk : Nat} (hk : kk < 10) (hp : post (nI (nargs kk)) S) : r_argumentsOf post S (nI kk) := by
  rcases (show kk = 0 ∨ kk = 1 ∨ kk = 2 ∨ kk = 3 ∨ kk = 4 ∨ kk = 5 ∨ kk = 6 ∨ kk = 7 ∨ kk = 8 ∨ kk = 9 by omega) with rfl | rfl | rfl | rfl | rfl | rfl | rfl | rfl | rfl | rfl <;> exact hp
theorem neg_div {v : Int32} (h : v < 0) : ¬ btw 1 100 (v / 128) := by
  intro hb
  have h1 := btw_toInt (a := 1) (b := 100) (by decide) (by decide) hb
  rw [Int32.lt_iff_toInt_lt, show (0 : Int32).toInt = 0 by decide] at h
  have h2 : -2 ^ 31 ≤ v.toInt := Int32.le_toInt v
  rw [Int32.toInt_div, show (128 : Int32).toInt = 128 by decide] at h1
  have h3 : v.toInt.tdiv 128 ≤ 0 := by
    have h4 : (-v.toInt).tdiv 128 = -(v.toInt.tdiv 128) := Int.neg_tdiv _ _
    have h5 : 0 ≤ (-v.toInt).tdiv 128 := Int.tdiv_nonneg (by omega) (by omega)
    omega
  have h6 : -2 ^ 31 ≤ v.toInt.tdiv 128 := by
    have h4 : (-v.toInt).tdiv 128 = -(v.toInt.tdiv 128) := Int.neg_tdiv _ _
    have h5 : (-v.toInt).tdiv 128 ≤ -v.toInt := by
      rw [Int.tdiv_eq_ediv_of_nonneg (by omega)]
      omega
    omega
  generalize v.toInt.tdiv 128 = z at h1 h3 h6
  simp only [Int.bmod] at h1
  omega
theorem risA_0_0 {post : Int32 → Mem → Prop} {S : Mem} {v : Int32} (hy : sv 2 v → post 1 S) (hn : ¬ sv 2 v → post 0 S) : r_isArgument post S 0 0 v := by
  unfold r_isArgument r_isArgument_J94 r_isArgument_J102
  exact ⟨fun h => absurd rfl h, fun _ => ⟨fun h => absurd rfl h, fun _ => between (fun b => ⟨nar1, hy (sv_2.mpr b)⟩) (fun b => ⟨nar0, hn (fun q => b (sv_2.mp q))⟩)⟩⟩
theorem risA_0_1 {post : Int32 → Mem → Prop} {S : Mem} {v : Int32} (hy : sv 3 v → post 1 S) (hn : ¬ sv 3 v → post 0 S) : r_isArgument post S 0 1 v := by
  unfold r_isArgument r_isArgument_J94 r_isArgument_J102
  exact ⟨fun h => absurd rfl h, fun _ => ⟨fun _ => ⟨fun h => absurd h (by decide), fun _ => between (fun b => ⟨nar1, hy (sv_3.mpr b)⟩) (fun b => ⟨nar0, hn (fun q => b (sv_3.mp q))⟩)⟩, fun h => absurd h (by decide)⟩⟩
theorem risA_0_2 {post : Int32 → Mem → Prop} {S : Mem} {v : Int32} (hy : sv 3 v → post 1 S) (hn : ¬ sv 3 v → post 0 S) : r_isArgument post S 0 2 v := by
  unfold r_isArgument r_isArgument_J94 r_isArgument_J102
  exact ⟨fun h => absurd rfl h, fun _ => ⟨fun _ => ⟨fun h => absurd h (by decide), fun _ => between (fun b => ⟨nar1, hy (sv_3.mpr b)⟩) (fun b => ⟨nar0, hn (fun q => b (sv_3.mp q))⟩)⟩, fun h => absurd h (by decide)⟩⟩
theorem risA_0_3 {post : Int32 → Mem → Prop} {S : Mem} {v : Int32} (hy : sv 4 v → post 1 S) (hn : ¬ sv 4 v → post 0 S) : r_isArgument post S 0 3 v := by
  unfold r_isArgument r_isArgument_J94 r_isArgument_J102
  exact ⟨fun h => absurd rfl h, fun _ => ⟨fun _ => ⟨fun _ => ⟨fun hneg => hn (fun q => neg_div hneg (sv_4.mp q).2), fun _ => between (fun b1 => ⟨fun h => absurd h (by decide), fun _ => between (fun b2 => ⟨fun h => absurd h (by decide), fun _ => hy (sv_4.mpr ⟨b1, b2⟩)⟩) (fun b2 => ⟨fun _ => hn (fun q => b2 (sv_4.mp q).2), fun h => absurd rfl h⟩)⟩) (fun b1 => ⟨fun _ => hn (fun q => b1 (sv_4.mp q).1), fun h => absurd rfl h⟩)⟩, fun h => absurd (by decide) h⟩, fun h => absurd h (by decide)⟩⟩
theorem risA_1_0 {post : Int32 → Mem → Prop} {S : Mem} {v : Int32} (hy : sv 1 v → post 1 S) (hn : ¬ sv 1 v → post 0 S) : r_isArgument post S 1 0 v := by
  unfold r_isArgument r_isArgument_J94 r_isArgument_J102
  exact ⟨fun _ => ⟨fun _ => between (fun b => ⟨nar1, hy (sv_1.mpr b)⟩) (fun b => ⟨nar0, hn (fun q => b (sv_1.mp q))⟩), fun h => absurd rfl h⟩, fun h => absurd h (by decide)⟩
theorem risA_2_0 {post : Int32 → Mem → Prop} {S : Mem} {v : Int32} (hy : sv 1 v → post 1 S) (hn : ¬ sv 1 v → post 0 S) : r_isArgument post S 2 0 v := by
  unfold r_isArgument r_isArgument_J94 r_isArgument_J102
  exact ⟨fun _ => ⟨fun _ => between (fun b => ⟨nar1, hy (sv_1.mpr b)⟩) (fun b => ⟨nar0, hn (fun q => b (sv_1.mp q))⟩), fun h => absurd rfl h⟩, fun h => absurd h (by decide)⟩
theorem risA_2_1 {post : Int32 → Mem → Prop} {S : Mem} {v : Int32} (hy : sv 3 v → post 1 S) (hn : ¬ sv 3 v → post 0 S) : r_isArgument post S 2 1 v := by
  unfold r_isArgument r_isArgument_J94 r_isArgument_J102
  exact ⟨fun _ => ⟨fun h => absurd h (by decide), fun _ => ⟨fun h => absurd rfl h, fun _ => ⟨fun h => absurd h (by decide), fun _ => ⟨fun _ => ⟨fun h => absurd h (by decide), fun h => absurd h (by decide), fun h => absurd h (by decide), fun h => absurd h (by decide), fun h => absurd h (by decide), fun h => absurd h (by decide), fun h => absurd h (by decide), fun _ => between (fun b => ⟨nar1, hy (sv_3.mpr b)⟩) (fun b => ⟨nar0, hn (fun q => b (sv_3.mp q))⟩)⟩, fun h => absurd h (by decide)⟩⟩⟩⟩, fun h => absurd h (by decide)⟩
theorem risA_2_2 {post : Int32 → Mem → Prop} {S : Mem} {v : Int32} (hy : sv 3 v → post 1 S) (hn : ¬ sv 3 v → post 0 S) : r_isArgument post S 2 2 v := by
  unfold r_isArgument r_isArgument_J94 r_isArgument_J102
  exact ⟨fun _ => ⟨fun h => absurd h (by decide), fun _ => ⟨fun _ => ⟨fun h => absurd h (by decide), fun h => absurd h (by decide), fun h => absurd h (by decide), fun h => absurd h (by decide), fun h => absurd h (by decide), fun h => absurd h (by decide), fun h => absurd h (by decide), fun _ => between (fun b => ⟨nar1, hy (sv_3.mpr b)⟩) (fun b => ⟨nar0, hn (fun q => b (sv_3.mp q))⟩)⟩, fun h => absurd h (by decide)⟩⟩, fun h => absurd h (by decide)⟩
theorem risA_3_0 {post : Int32 → Mem → Prop} {S : Mem} {v : Int32} (hy : sv 1 v → post 1 S) (hn : ¬ sv 1 v → post 0 S) : r_isArgument post S 3 0 v := by
  unfold r_isArgument r_isArgument_J94 r_isArgument_J102
  exact ⟨fun _ => ⟨fun _ => between (fun b => ⟨nar1, hy (sv_1.mpr b)⟩) (fun b => ⟨nar0, hn (fun q => b (sv_1.mp q))⟩), fun h => absurd rfl h⟩, fun h => absurd h (by decide)⟩
theorem risA_3_1 {post : Int32 → Mem → Prop} {S : Mem} {v : Int32} (hy : sv 5 v → post 1 S) (hn : ¬ sv 5 v → post 0 S) : r_isArgument post S 3 1 v := by
  unfold r_isArgument r_isArgument_J94 r_isArgument_J102
  exact ⟨fun _ => ⟨fun h => absurd h (by decide), fun _ => ⟨fun h => absurd rfl h, fun _ => ⟨fun h => absurd h (by decide), fun _ => ⟨fun _ => ⟨fun _ => between (fun b => ⟨nar1, hy (sv_5.mpr b)⟩) (fun b => ⟨nar0, hn (fun q => b (sv_5.mp q))⟩), fun h => absurd h (by decide), fun h => absurd h (by decide), fun h => absurd h (by decide), fun h => absurd h (by decide), fun h => absurd h (by decide), fun h => absurd h (by decide), fun h => absurd h (by decide)⟩, fun h => absurd h (by decide)⟩⟩⟩⟩, fun h => absurd h (by decide)⟩
theorem risA_3_2 {post : Int32 → Mem → Prop} {S : Mem} {v : Int32} (hy : sv 5 v → post 1 S) (hn : ¬ sv 5 v → post 0 S) : r_isArgument post S 3 2 v := by
  unfold r_isArgument r_isArgument_J94 r_isArgument_J102
  exact ⟨fun _ => ⟨fun h => absurd h (by decide), fun _ => ⟨fun _ => ⟨fun _ => between (fun b => ⟨nar1, hy (sv_5.mpr b)⟩) (fun b => ⟨nar0, hn (fun q => b (sv_5.mp q))⟩), fun h => absurd h (by decide), fun h => absurd h (by decide), fun h => absurd h (by decide), fun h => absurd h (by decide), fun h => absurd h (by decide), fun h => absurd h (by decide), fun h => absurd h (by decide)⟩, fun h => absurd h (by decide)⟩⟩, fun h => absurd h (by decide)⟩
theorem risA_4_0 {post : Int32 → Mem → Prop} {S : Mem} {v : Int32} (hy : sv 1 v → post 1 S) (hn : ¬ sv 1 v → post 0 S) : r_isArgument post S 4 0 v := by
  unfold r_isArgument r_isArgument_J94 r_isArgument_J102
  exact ⟨fun _ => ⟨fun _ => between (fun b => ⟨nar1, hy (sv_1.mpr b)⟩) (fun b => ⟨nar0, hn (fun q => b (sv_1.mp q))⟩), fun h => absurd rfl h⟩, fun h => absurd h (by decide)⟩
theorem risA_4_1 {post : Int32 → Mem → Prop} {S : Mem} {v : Int32} (hy : sv 6 v → post 1 S) (hn : ¬ sv 6 v → post 0 S) : r_isArgument post S 4 1 v := by
  unfold r_isArgument r_isArgument_J94 r_isArgument_J102
  exact ⟨fun _ => ⟨fun h => absurd h (by decide), fun _ => ⟨fun h => absurd rfl h, fun _ => ⟨fun h => absurd h (by decide), fun _ => ⟨fun _ => ⟨fun h => absurd h (by decide), fun _ => between (fun b => ⟨nar1, hy (sv_6.mpr b)⟩) (fun b => ⟨nar0, hn (fun q => b (sv_6.mp q))⟩), fun h => absurd h (by decide), fun h => absurd h (by decide), fun h => absurd h (by decide), fun h => absurd h (by decide), fun h => absurd h (by decide), fun h => absurd h (by decide)⟩, fun h => absurd h (by decide)⟩⟩⟩⟩, fun h => absurd h (by decide)⟩
theorem risA_5_0 {post : Int32 → Mem → Prop} {S : Mem} {v : Int32} (hy : sv 1 v → post 1 S) (hn : ¬ sv 1 v → post 0 S) : r_isArgument post S 5 0 v := by
  unfold r_isArgument r_isArgument_J94 r_isArgument_J102
  exact ⟨fun _ => ⟨fun _ => between (fun b => ⟨nar1, hy (sv_1.mpr b)⟩) (fun b => ⟨nar0, hn (fun q => b (sv_1.mp q))⟩), fun h => absurd rfl h⟩, fun h => absurd h (by decide)⟩
theorem risA_5_1 {post : Int32 → Mem → Prop} {S : Mem} {v : Int32} (hy : sv 7 v → post 1 S) (hn : ¬ sv 7 v → post 0 S) : r_isArgument post S 5 1 v := by
  unfold r_isArgument r_isArgument_J94 r_isArgument_J102
  exact ⟨fun _ => ⟨fun h => absurd h (by decide), fun _ => ⟨fun h => absurd rfl h, fun _ => ⟨fun h => absurd h (by decide), fun _ => ⟨fun _ => ⟨fun h => absurd h (by decide), fun h => absurd h (by decide), fun _ => between (fun b => ⟨nar1, hy (sv_7.mpr b)⟩) (fun b => ⟨nar0, hn (fun q => b (sv_7.mp q))⟩), fun h => absurd h (by decide), fun h => absurd h (by decide), fun h => absurd h (by decide), fun h => absurd h (by decide), fun h => absurd h (by decide)⟩, fun h => absurd h (by decide)⟩⟩⟩⟩, fun h => absurd h (by decide)⟩
theorem risA_6_0 {post : Int32 → Mem → Prop} {S : Mem} {v : Int32} (hy : sv 1 v → post 1 S) (hn : ¬ sv 1 v → post 0 S) : r_isArgument post S 6 0 v := by
  unfold r_isArgument r_isArgument_J94 r_isArgument_J102
  exact ⟨fun _ => ⟨fun _ => between (fun b => ⟨nar1, hy (sv_1.mpr b)⟩) (fun b => ⟨nar0, hn (fun q => b (sv_1.mp q))⟩), fun h => absurd rfl h⟩, fun h => absurd h (by decide)⟩
theorem risA_6_1 {post : Int32 → Mem → Prop} {S : Mem} {v : Int32} (hy : sv 1 v → post 1 S) (hn : ¬ sv 1 v → post 0 S) : r_isArgument post S 6 1 v := by
  unfold r_isArgument r_isArgument_J94 r_isArgument_J102
  exact ⟨fun _ => ⟨fun h => absurd h (by decide), fun _ => ⟨fun h => absurd rfl h, fun _ => ⟨fun _ => between (fun b => ⟨nar1, hy (sv_1.mpr b)⟩) (fun b => ⟨nar0, hn (fun q => b (sv_1.mp q))⟩), fun h => absurd rfl h⟩⟩⟩, fun h => absurd h (by decide)⟩
theorem risA_7_0 {post : Int32 → Mem → Prop} {S : Mem} {v : Int32} (hy : sv 1 v → post 1 S) (hn : ¬ sv 1 v → post 0 S) : r_isArgument post S 7 0 v := by
  unfold r_isArgument r_isArgument_J94 r_isArgument_J102
  exact ⟨fun _ => ⟨fun _ => between (fun b => ⟨nar1, hy (sv_1.mpr b)⟩) (fun b => ⟨nar0, hn (fun q => b (sv_1.mp q))⟩), fun h => absurd rfl h⟩, fun h => absurd h (by decide)⟩
theorem risA_8_0 {post : Int32 → Mem → Prop} {S : Mem} {v : Int32} (hy : sv 1 v → post 1 S) (hn : ¬ sv 1 v → post 0 S) : r_isArgument post S 8 0 v := by
  unfold r_isArgument r_isArgument_J94 r_isArgument_J102
  exact ⟨fun _ => ⟨fun _ => between (fun b => ⟨nar1, hy (sv_1.mpr b)⟩) (fun b => ⟨nar0, hn (fun q => b (sv_1.mp q))⟩), fun h => absurd rfl h⟩, fun h => absurd h (by decide)⟩
theorem risA_8_1 {post : Int32 → Mem → Prop} {S : Mem} {v : Int32} (hy : sv 3 v → post 1 S) (hn : ¬ sv 3 v → post 0 S) : r_isArgument post S 8 1 v := by
  unfold r_isArgument r_isArgument_J94 r_isArgument_J102
  exact ⟨fun _ => ⟨fun h => absurd h (by decide), fun _ => ⟨fun h => absurd rfl h, fun _ => ⟨fun h => absurd h (by decide), fun _ => ⟨fun _ => ⟨fun h => absurd h (by decide), fun h => absurd h (by decide), fun h => absurd h (by decide), fun h => absurd h (by decide), fun h => absurd h (by decide), fun _ => between (fun b => ⟨nar1, hy (sv_3.mpr b)⟩) (fun b => ⟨nar0, hn (fun q => b (sv_3.mp q))⟩), fun h => absurd h (by decide), fun h => absurd h (by decide)⟩, fun h => absurd h (by decide)⟩⟩⟩⟩, fun h => absurd h (by decide)⟩
theorem risA_8_2 {post : Int32 → Mem → Prop} {S : Mem} {v : Int32} (hy : sv 3 v → post 1 S) (hn : ¬ sv 3 v → post 0 S) : r_isArgument post S 8 2 v := by
  unfold r_isArgument r_isArgument_J94 r_isArgument_J102
  exact ⟨fun _ => ⟨fun h => absurd h (by decide), fun _ => ⟨fun _ => ⟨fun h => absurd h (by decide), fun h => absurd h (by decide), fun h => absurd h (by decide), fun h => absurd h (by decide), fun h => absurd h (by decide), fun _ => between (fun b => ⟨nar1, hy (sv_3.mpr b)⟩) (fun b => ⟨nar0, hn (fun q => b (sv_3.mp q))⟩), fun h => absurd h (by decide), fun h => absurd h (by decide)⟩, fun h => absurd h (by decide)⟩⟩, fun h => absurd h (by decide)⟩
theorem risA_9_0 {post : Int32 → Mem → Prop} {S : Mem} {v : Int32} (hy : sv 1 v → post 1 S) (hn : ¬ sv 1 v → post 0 S) : r_isArgument post S 9 0 v := by
  unfold r_isArgument r_isArgument_J94 r_isArgument_J102
  exact ⟨fun _ => ⟨fun _ => between (fun b => ⟨nar1, hy (sv_1.mpr b)⟩) (fun b => ⟨nar0, hn (fun q => b (sv_1.mp q))⟩), fun h => absurd rfl h⟩, fun h => absurd h (by decide)⟩
theorem risA_9_1 {post : Int32 → Mem → Prop} {S : Mem} {v : Int32} (hy : sv 1 v → post 1 S) (hn : ¬ sv 1 v → post 0 S) : r_isArgument post S 9 1 v := by
  unfold r_isArgument r_isArgument_J94 r_isArgument_J102
  exact ⟨fun _ => ⟨fun h => absurd h (by decide), fun _ => ⟨fun h => absurd rfl h, fun _ => ⟨fun h => absurd h (by decide), fun _ => ⟨fun h => absurd rfl h, fun _ => between (fun b => ⟨nar1, hy (sv_1.mpr b)⟩) (fun b => ⟨nar0, hn (fun q => b (sv_1.mp q))⟩)⟩⟩⟩⟩, fun h => absurd h (by decide)⟩
theorem risA_9_2 {post : Int32 → Mem → Prop} {S : Mem} {v : Int32} (hy : sv 8 v → post 1 S) (hn : ¬ sv 8 v → post 0 S) : r_isArgument post S 9 2 v := by
  unfold r_isArgument r_isArgument_J94 r_isArgument_J102
  exact ⟨fun _ => ⟨fun h => absurd h (by decide), fun _ => ⟨fun _ => ⟨fun h => absurd h (by decide), fun h => absurd h (by decide), fun h => absurd h (by decide), fun h => absurd h (by decide), fun h => absurd h (by decide), fun h => absurd h (by decide), fun _ => between (fun b => ⟨nar1, hy (sv_8.mpr b)⟩) (fun b => ⟨nar0, hn (fun q => b (sv_8.mp q))⟩), fun h => absurd h (by decide)⟩, fun h => absurd h (by decide)⟩⟩, fun h => absurd h (by decide)⟩
theorem risA_ok {post : Int32 → Mem → Prop} {S : Mem} {kk i : Nat} {v : Int32} (hk : kk < 10) (hi : i < nargs kk) (hy : sv (sortsF (4 * kk + i)) v → post 1 S) (hn : ¬ sv (sortsF (4 * kk + i)) v → post 0 S) : r_isArgument post S (nI kk) (nI i) v := by
  rcases (show kk = 0 ∨ kk = 1 ∨ kk = 2 ∨ kk = 3 ∨ kk = 4 ∨ kk = 5 ∨ kk = 6 ∨ kk = 7 ∨ kk = 8 ∨ kk = 9 by omega) with rfl | rfl | rfl | rfl | rfl | rfl | rfl | rfl | rfl | rfl
  · rw [show nargs 0 = 4 from rfl] at hi
    rcases (show i = 0 ∨ i = 1 ∨ i = 2 ∨ i = 3 by omega) with rfl | rfl | rfl | rfl
    · exact risA_0_0 (fun h => hy (so_0 ▸ h)) (fun h => hn (fun q => h (so_0 ▸ q)))
    · exact risA_0_1 (fun h => hy (so_1 ▸ h)) (fun h => hn (fun q => h (so_1 ▸ q)))
    · exact risA_0_2 (fun h => hy (so_2 ▸ h)) (fun h => hn (fun q => h (so_2 ▸ q)))
    · exact risA_0_3 (fun h => hy (so_3 ▸ h)) (fun h => hn (fun q => h (so_3 ▸ q)))
  · rw [show nargs 1 = 1 from rfl] at hi
    rcases (show i = 0 by omega) with rfl
    · exact risA_1_0 (fun h => hy (so_4 ▸ h)) (fun h => hn (fun q => h (so_4 ▸ q)))
  · rw [show nargs 2 = 3 from rfl] at hi
    rcases (show i = 0 ∨ i = 1 ∨ i = 2 by omega) with rfl | rfl | rfl
    · exact risA_2_0 (fun h => hy (so_8 ▸ h)) (fun h => hn (fun q => h (so_8 ▸ q)))
    · exact risA_2_1 (fun h => hy (so_9 ▸ h)) (fun h => hn (fun q => h (so_9 ▸ q)))
    · exact risA_2_2 (fun h => hy (so_10 ▸ h)) (fun h => hn (fun q => h (so_10 ▸ q)))
  · rw [show nargs 3 = 3 from rfl] at hi
    rcases (show i = 0 ∨ i = 1 ∨ i = 2 by omega) with rfl | rfl | rfl
    · exact risA_3_0 (fun h => hy (so_12 ▸ h)) (fun h => hn (fun q => h (so_12 ▸ q)))
    · exact risA_3_1 (fun h => hy (so_13 ▸ h)) (fun h => hn (fun q => h (so_13 ▸ q)))
    · exact risA_3_2 (fun h => hy (so_14 ▸ h)) (fun h => hn (fun q => h (so_14 ▸ q)))
  · rw [show nargs 4 = 2 from rfl] at hi
    rcases (show i = 0 ∨ i = 1 by omega) with rfl | rfl
    · exact risA_4_0 (fun h => hy (so_16 ▸ h)) (fun h => hn (fun q => h (so_16 ▸ q)))
    · exact risA_4_1 (fun h => hy (so_17 ▸ h)) (fun h => hn (fun q => h (so_17 ▸ q)))
  · rw [show nargs 5 = 2 from rfl] at hi
    rcases (show i = 0 ∨ i = 1 by omega) with rfl | rfl
    · exact risA_5_0 (fun h => hy (so_20 ▸ h)) (fun h => hn (fun q => h (so_20 ▸ q)))
    · exact risA_5_1 (fun h => hy (so_21 ▸ h)) (fun h => hn (fun q => h (so_21 ▸ q)))
  · rw [show nargs 6 = 2 from rfl] at hi
    rcases (show i = 0 ∨ i = 1 by omega) with rfl | rfl
    · exact risA_6_0 (fun h => hy (so_24 ▸ h)) (fun h => hn (fun q => h (so_24 ▸ q)))
    · exact risA_6_1 (fun h => hy (so_25 ▸ h)) (fun h => hn (fun q => h (so_25 ▸ q)))
  · rw [show nargs 7 = 1 from rfl] at hi
    rcases (show i = 0 by omega) with rfl
    · exact risA_7_0 (fun h => hy (so_28 ▸ h)) (fun h => hn (fun q => h (so_28 ▸ q)))
  · rw [show nargs 8 = 3 from rfl] at hi
    rcases (show i = 0 ∨ i = 1 ∨ i = 2 by omega) with rfl | rfl | rfl
    · exact risA_8_0 (fun h => hy (so_32 ▸ h)) (fun h => hn (fun q => h (so_32 ▸ q)))
    · exact risA_8_1 (fun h => hy (so_33 ▸ h)) (fun h => hn (fun q => h (so_33 ▸ q)))
    · exact risA_8_2 (fun h => hy (so_34 ▸ h)) (fun h => hn (fun q => h (so_34 ▸ q)))
  · rw [show nargs 9 = 3 from rfl] at hi
    rcases (show i = 0 ∨ i = 1 ∨ i = 2 by omega) with rfl | rfl | rfl
    · exact risA_9_0 (fun h => hy (so_36 ▸ h)) (fun h => hn (fun q => h (so_36 ▸ q)))
    · exact risA_9_1 (fun h => hy (so_37 ▸ h)) (fun h => hn (fun q => h (so_37 ▸ q)))
    · exact risA_9_2 (fun h => hy (so_38 ▸ h)) (fun h => hn (fun q => h (so_38 ▸ q)))
