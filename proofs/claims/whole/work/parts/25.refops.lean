theorem v40 {k : Nat} (hk : k < 24) : vp_in ((4 * nI k) + 0) 96 := by
  rw [show (4 * nI k) + 0 = nI (4 * k + 0) from by rw [show (4 : Int32) = nI 4 from rfl, show (0 : Int32) = nI 0 from rfl]; unfold nI; rw [← Int32.ofNat_mul, ← Int32.ofNat_add]]
  exact q_in (by omega) (by omega)
theorem i40 {k : Nat} (hk : k < 24) : ((4 * nI k) + 0).toNatClampNeg = 4 * k + 0 := by
  rw [show (4 * nI k) + 0 = nI (4 * k + 0) from by rw [show (4 : Int32) = nI 4 from rfl, show (0 : Int32) = nI 0 from rfl]; unfold nI; rw [← Int32.ofNat_mul, ← Int32.ofNat_add]]
  exact nI_clamp (by omega)
theorem v41 {k : Nat} (hk : k < 24) : vp_in ((4 * nI k) + 1) 96 := by
  rw [show (4 * nI k) + 1 = nI (4 * k + 1) from by rw [show (4 : Int32) = nI 4 from rfl, show (1 : Int32) = nI 1 from rfl]; unfold nI; rw [← Int32.ofNat_mul, ← Int32.ofNat_add]]
  exact q_in (by omega) (by omega)
theorem i41 {k : Nat} (hk : k < 24) : ((4 * nI k) + 1).toNatClampNeg = 4 * k + 1 := by
  rw [show (4 * nI k) + 1 = nI (4 * k + 1) from by rw [show (4 : Int32) = nI 4 from rfl, show (1 : Int32) = nI 1 from rfl]; unfold nI; rw [← Int32.ofNat_mul, ← Int32.ofNat_add]]
  exact nI_clamp (by omega)
theorem v42 {k : Nat} (hk : k < 24) : vp_in ((4 * nI k) + 2) 96 := by
  rw [show (4 * nI k) + 2 = nI (4 * k + 2) from by rw [show (4 : Int32) = nI 4 from rfl, show (2 : Int32) = nI 2 from rfl]; unfold nI; rw [← Int32.ofNat_mul, ← Int32.ofNat_add]]
  exact q_in (by omega) (by omega)
theorem i42 {k : Nat} (hk : k < 24) : ((4 * nI k) + 2).toNatClampNeg = 4 * k + 2 := by
  rw [show (4 * nI k) + 2 = nI (4 * k + 2) from by rw [show (4 : Int32) = nI 4 from rfl, show (2 : Int32) = nI 2 from rfl]; unfold nI; rw [← Int32.ofNat_mul, ← Int32.ofNat_add]]
  exact nI_clamp (by omega)
theorem v43 {k : Nat} (hk : k < 24) : vp_in ((4 * nI k) + 3) 96 := by
  rw [show (4 * nI k) + 3 = nI (4 * k + 3) from by rw [show (4 : Int32) = nI 4 from rfl, show (3 : Int32) = nI 3 from rfl]; unfold nI; rw [← Int32.ofNat_mul, ← Int32.ofNat_add]]
  exact q_in (by omega) (by omega)
theorem i43 {k : Nat} (hk : k < 24) : ((4 * nI k) + 3).toNatClampNeg = 4 * k + 3 := by
  rw [show (4 * nI k) + 3 = nI (4 * k + 3) from by rw [show (4 : Int32) = nI 4 from rfl, show (3 : Int32) = nI 3 from rfl]; unfold nI; rw [← Int32.ofNat_mul, ← Int32.ofNat_add]]
  exact nI_clamp (by omega)
def mkd (n : Nat) (A0 A1 A2 A3 : Int32) : Ob := mkOb n A0 A1 A2 (A3 - A3 / 128 * 128) (A3 / 128) 0 none
theorem make_ok {post : Mem → Prop} {S : Mem} {D : List Ob} (hR : RD S D) (hl : D.length ≤ 13) {n : Nat} (hn : n < 24) {A0 A1 A2 A3 : Int32} (g0 : S 150 (4 * n + 0) = A0) (g1 : S 150 (4 * n + 1) = A1) (g2 : S 150 (4 * n + 2) = A2) (g3 : S 150 (4 * n + 3) = A3) (hp : ∀ S', RD S' (D ++ [mkd n A0 A1 A2 A3]) → Fq t1 S S' → post S') : r_make post S (nI n) := by
  have hlen := hR.1
  unfold r_make
  rw [hlen, ix0 (by omega), i40 hn, i41 hn, i42 hn, i43 hn, g3]
  refine ⟨v43 hn, vi0 (by omega), fun S1 h1 => ⟨v40 hn, ?_⟩⟩
  have k1 : S1 148 7 = nI D.length := by rw [h1, up_at, if_neg (by omega)]; exact hlen
  rw [k1, ix1 (by omega)]
  have m1 : S1 150 (4 * n + 0) = A0 := by rw [h1, up_at, if_neg (by omega)]; exact g0
  rw [m1]
  refine ⟨vi1 (by omega), fun S2 h2 => ⟨v41 hn, ?_⟩⟩
  have k2 : S2 148 7 = nI D.length := by rw [h2, up_at, if_neg (by omega), h1, up_at, if_neg (by omega)]; exact hlen
  rw [k2, ix2 (by omega)]
  have m2 : S2 150 (4 * n + 1) = A1 := by rw [h2, up_at, if_neg (by omega), h1, up_at, if_neg (by omega)]; exact g1
  rw [m2]
  refine ⟨vi2 (by omega), fun S3 h3 => ⟨v42 hn, ?_⟩⟩
  have k3 : S3 148 7 = nI D.length := by rw [h3, up_at, if_neg (by omega), h2, up_at, if_neg (by omega), h1, up_at, if_neg (by omega)]; exact hlen
  rw [k3, ix3 (by omega)]
  have m3 : S3 150 (4 * n + 2) = A2 := by rw [h3, up_at, if_neg (by omega), h2, up_at, if_neg (by omega), h1, up_at, if_neg (by omega)]; exact g2
  rw [m3]
  refine ⟨vi3 (by omega), fun S4 h4 => ?_⟩
  have k4 : S4 148 7 = nI D.length := by rw [h4, up_at, if_neg (by omega), h3, up_at, if_neg (by omega), h2, up_at, if_neg (by omega), h1, up_at, if_neg (by omega)]; exact hlen
  rw [k4, ix4 (by omega)]
  refine ⟨vi4 (by omega), fun S5 h5 => ?_⟩
  have k5 : S5 148 7 = nI D.length := by rw [h5, up_at, if_neg (by omega), h4, up_at, if_neg (by omega), h3, up_at, if_neg (by omega), h2, up_at, if_neg (by omega), h1, up_at, if_neg (by omega)]; exact hlen
  rw [k5, ix5 (by omega)]
  refine ⟨vi5 (by omega), fun S6 h6 => ?_⟩
  have k6 : S6 148 7 = nI D.length := by rw [h6, up_at, if_neg (by omega), h5, up_at, if_neg (by omega), h4, up_at, if_neg (by omega), h3, up_at, if_neg (by omega), h2, up_at, if_neg (by omega), h1, up_at, if_neg (by omega)]; exact hlen
  rw [k6, ix6 (by omega)]
  refine ⟨vi6 (by omega), fun S7 h7 => ?_⟩
  have k7 : S7 148 7 = nI D.length := by rw [h7, up_at, if_neg (by omega), h6, up_at, if_neg (by omega), h5, up_at, if_neg (by omega), h4, up_at, if_neg (by omega), h3, up_at, if_neg (by omega), h2, up_at, if_neg (by omega), h1, up_at, if_neg (by omega)]; exact hlen
  rw [k7, ix7 (by omega)]
  refine ⟨vi7 (by omega), fun S8 h8 => ?_⟩
  have k8 : S8 148 7 = nI D.length := by rw [h8, up_at, if_neg (by omega), h7, up_at, if_neg (by omega), h6, up_at, if_neg (by omega), h5, up_at, if_neg (by omega), h4, up_at, if_neg (by omega), h3, up_at, if_neg (by omega), h2, up_at, if_neg (by omega), h1, up_at, if_neg (by omega)]; exact hlen
  intro S9 h9
  rw [k8, q_1] at h9
  have hF : Fq t1 S S9 := by
    rw [h9, h8, h7, h6, h5, h4, h3, h2, h1]
    exact (((((((((fq_up (Or.inl rfl)).tr (fq_up (Or.inl rfl))).tr (fq_up (Or.inl rfl))).tr (fq_up (Or.inl rfl))).tr (fq_up (Or.inl rfl))).tr (fq_up (Or.inl rfl))).tr (fq_up (Or.inl rfl))).tr (fq_up (Or.inl rfl))).tr (fq_up (Or.inr ⟨rfl, rfl⟩)))
  refine hp S9 ⟨?_, fun k x hk => ?_⟩ hF
  · rw [h9, up_at, if_pos ⟨rfl, rfl⟩, List.length_append]; rfl
  · rcases Nat.lt_or_ge k D.length with hlt | hge
    · rw [List.getElem?_append_left hlt] at hk
      refine rw_of (hR.2 k x hk) (fun c hc => ?_)
      rw [h9, up_at, if_neg (by omega), h8, up_at, if_neg (by omega), h7, up_at, if_neg (by omega), h6, up_at, if_neg (by omega), h5, up_at, if_neg (by omega), h4, up_at, if_neg (by omega), h3, up_at, if_neg (by omega), h2, up_at, if_neg (by omega), h1, up_at, if_neg (by omega)]
    · have hkl := at_lt hk
      rw [List.length_append, List.length_singleton] at hkl
      have hkk : k = D.length := by omega
      subst hkk
      rw [List.getElem?_append_right (Nat.le_refl _), Nat.sub_self] at hk
      cases Option.some.inj hk
      refine ⟨?_, ?_, ?_, ?_, fun _ => ⟨?_, ?_, ?_, ?_⟩⟩
      · rw [h9, up_at, if_neg (by omega), h8, up_at, if_neg (by omega), h7, up_at, if_neg (by omega), h6, up_at, if_neg (by omega), h5, up_at, if_neg (by omega), h4, up_at, if_neg (by omega), h3, up_at, if_neg (by omega), h2, up_at, if_neg (by omega), h1, up_at, if_pos ⟨rfl, rfl⟩]; rfl
      · rw [h9, up_at, if_neg (by omega), h8, up_at, if_neg (by omega), h7, up_at, if_neg (by omega), h6, up_at, if_neg (by omega), h5, up_at, if_neg (by omega), h4, up_at, if_neg (by omega), h3, up_at, if_neg (by omega), h2, up_at, if_pos ⟨rfl, rfl⟩]; rfl
      · rw [h9, up_at, if_neg (by omega), h8, up_at, if_neg (by omega), h7, up_at, if_pos ⟨rfl, rfl⟩]; rfl
      · rw [h9, up_at, if_neg (by omega), h8, up_at, if_pos ⟨rfl, rfl⟩]; rfl
      · rw [h9, up_at, if_neg (by omega), h8, up_at, if_neg (by omega), h7, up_at, if_neg (by omega), h6, up_at, if_neg (by omega), h5, up_at, if_neg (by omega), h4, up_at, if_neg (by omega), h3, up_at, if_pos ⟨rfl, rfl⟩]; rfl
      · rw [h9, up_at, if_neg (by omega), h8, up_at, if_neg (by omega), h7, up_at, if_neg (by omega), h6, up_at, if_neg (by omega), h5, up_at, if_neg (by omega), h4, up_at, if_pos ⟨rfl, rfl⟩]; rfl
      · rw [h9, up_at, if_neg (by omega), h8, up_at, if_neg (by omega), h7, up_at, if_neg (by omega), h6, up_at, if_neg (by omega), h5, up_at, if_pos ⟨rfl, rfl⟩]; rfl
      · rw [h9, up_at, if_neg (by omega), h8, up_at, if_neg (by omega), h7, up_at, if_neg (by omega), h6, up_at, if_pos ⟨rfl, rfl⟩]; rfl
def setp (q : Option Nat) (o : Ob) : Ob := mkOb o.nm o.fm o.l o.t o.w o.h o.c q
theorem rd_put {S : Mem} {x y : List Ob} {o : Ob} (h : RD S (x ++ o :: y)) (q : Option Nat) : RD (up2 S 154 (8 * x.length + 7) (pI q)) (x ++ setp q o :: y) := by
  refine ⟨?_, fun k z hk => ?_⟩
  · rw [up_at, if_neg (by omega), h.1]
    simp
  · by_cases hkx : k = x.length
    · subst hkx
      rw [at_app] at hk
      cases Option.some.inj hk
      obtain ⟨r0, r1, r6, r7, rb⟩ := h.2 x.length o at_app
      refine ⟨?_, ?_, ?_, ?_, fun hs => ?_⟩
      · rw [up_at, if_neg (by omega)]; exact r0
      · rw [up_at, if_neg (by omega)]; exact r1
      · rw [up_at, if_neg (by omega)]; exact r6
      · rw [up_at, if_pos ⟨rfl, rfl⟩]; rfl
      · obtain ⟨e2, e3, e4, e5⟩ := rb hs
        refine ⟨?_, ?_, ?_, ?_⟩
        · rw [up_at, if_neg (by omega)]; exact e2
        · rw [up_at, if_neg (by omega)]; exact e3
        · rw [up_at, if_neg (by omega)]; exact e4
        · rw [up_at, if_neg (by omega)]; exact e5
    · refine rw_of (h.2 k z ?_) (fun c hc => by rw [up_at, if_neg (by omega)])
      rcases Nat.lt_or_ge k x.length with hlt | hge
      · rw [List.getElem?_append_left hlt] at hk ⊢; exact hk
      · rw [List.getElem?_append_right hge] at hk ⊢
        obtain ⟨j, hj⟩ : ∃ j, k - x.length = j + 1 := ⟨k - x.length - 1, by omega⟩
        rw [hj, List.getElem?_cons_succ] at hk ⊢
        exact hk
def rep (x : Nat) (q : Option Nat) (o : Ob) : Ob := if o.p = some x then setp q o else o
theorem pI_eq {p : Option Nat} {x : Nat} (hx : x < 24) (hp : ∀ y, p = some y → y < 24) : pI p = nI x ↔ p = some x := by
  cases p with
  | none =>
    refine ⟨fun h => ?_, fun h => by cases h⟩
    exact absurd h.symm (q_neg (by omega))
  | some y =>
    have hy := hp y rfl
    show nI y = nI x ↔ _
    rw [q_eq (by omega) (by omega)]
    exact ⟨fun h => by rw [h], fun h => Option.some.inj h⟩
theorem par_lt {D : List Ob} (hU : Up D) (hG : Gd D) {i : Nat} {m : Ob} (hm : D[i]? = some m) : ∀ y, m.p = some y → y < 24 := by
  intro y hy
  rcases hU i m hm with h | ⟨j, g, -, hg, h⟩
  · rw [h] at hy; cases hy
  · rw [h] at hy
    cases hy
    exact hG.2.2 _ _ hg
theorem pI_nn {p : Option Nat} (hp : ∀ y, p = some y → y < 24) : 0 ≤ pI p ↔ p ≠ none := by
  cases p with
  | none => exact ⟨fun h => absurd h (by decide), fun h => absurd rfl h⟩
  | some y => exact ⟨fun _ h => (by cases h), fun _ => q_ge0 (by have := hp y rfl; omega)⟩
theorem ungroup_ok {post : Mem → Prop} {S : Mem} {D : List Ob} (hR : RD S D) (hG : Gd D) (hU : Up D) {k : Nat} {o : Ob} (hk : D[k]? = some o) (hp : ∀ S', RD S' ((mp D 0 D.length (rep o.nm o.p)).take k ++ (mp D 0 D.length (rep o.nm o.p)).drop (k + 1)) → Fq t1 S S' → post S') : r_ungroup post S (nI k) := by
  have hl := hG.2.1
  have hkl := at_lt hk
  have hno := hG.2.2 _ _ hk
  obtain ⟨r0, r1, r6, r7, rb⟩ := rd_at hR hk
  have key : ∀ (m i : Nat) (S1 : Mem), i + m = D.length → RD S1 (mp D 0 i (rep o.nm o.p)) → Fq t1 S S1 → r_ungroup_L18 post (m + 1) S1 (nI k) (nI o.nm) (pI o.p) (nI i) := by
    intro m
    induction m with
    | zero =>
      intro i S1 hi hR1 hF
      have : i = D.length := by omega
      subst this
      unfold r_ungroup_L18
      rw [hR1.1, mp_len, q_1]
      refine ⟨fun _ => takeOut_ok hR1 (by omega) (by rw [mp_len]; omega) (by rw [mp_len]; omega) (fun S' h1 h2 => hp S' h1 (hF.tr h2)), fun h => absurd (Int32.le_refl _) h⟩
    | succ m ih =>
      intro i S1 hi hR1 hF
      obtain ⟨x, hx⟩ := at_some (D := D) (i := i) (by omega)
      have hr : Rw 154 S1 i x := hR1.2 i x (by rw [mp_at, hx, Option.map_some, if_neg (by omega)])
      have hpx := pI_eq (p := x.p) hno (par_lt hU hG hx)
      unfold r_ungroup_L18
      rw [hR1.1, mp_len, q_le (by omega) (by omega), ix7 (by omega), hr.2.2.2.1, hpx, q_1 i]
      refine ⟨fun h => absurd h (by omega), fun _ => ⟨vi7 (by omega), fun hne => ?_, fun he => ⟨vi7 (by omega), fun S2 h2 => ?_⟩⟩⟩
      · refine ih (i + 1) S1 (by omega) (rd_step hR1 hx (by omega) rfl ?_ (fun _ _ => rfl)) hF
        unfold rep
        rw [if_neg hne]
        exact hr
      · refine ih (i + 1) S2 (by omega) (rd_step hR1 hx (by omega) ?_ ?_ ?_) (hF.tr (h2 ▸ fq_up (Or.inl rfl)))
        · rw [h2, up_at, if_neg (by omega)]
        · obtain ⟨a0, a1, a6, a7, ab⟩ := hr
          unfold rep
          rw [if_pos he]
          refine ⟨?_, ?_, ?_, ?_, fun hs => ?_⟩
          · rw [h2, up_at, if_neg (by omega)]; exact a0
          · rw [h2, up_at, if_neg (by omega)]; exact a1
          · rw [h2, up_at, if_neg (by omega)]; exact a6
          · rw [h2, up_at, if_pos ⟨rfl, rfl⟩]; rfl
          · obtain ⟨e2, e3, e4, e5⟩ := ab hs
            refine ⟨?_, ?_, ?_, ?_⟩
            · rw [h2, up_at, if_neg (by omega)]; exact e2
            · rw [h2, up_at, if_neg (by omega)]; exact e3
            · rw [h2, up_at, if_neg (by omega)]; exact e4
            · rw [h2, up_at, if_neg (by omega)]; exact e5
        · intro j hj
          rw [h2, up_at, if_neg (by omega)]
  unfold r_ungroup
  rw [ix0 (by omega), ix7 (by omega), r0, r7]
  exact ⟨vi0 (by omega), vi7 (by omega), D.length + 1, key D.length 0 S (by omega) (by rw [mp_nil]; exact hR) Fq.rf⟩
def dbl (n : Nat) (x y : Int32) (o : Ob) : Ob := mkOb n o.fm (o.l + x) (o.t + y) o.w o.h o.c o.p
theorem twice_ok {post : Mem → Prop} {S : Mem} {a c : List Ob} {o : Ob} (hR : RD S (a ++ o :: c)) (hl : (a ++ o :: c).length ≤ 13) (hs : o.fm ≠ 3) {n : Nat} {x y : Int32} {k : Nat} (hk : k = a.length) (hp : ∀ S', RD S' (a ++ o :: dbl n x y o :: c) → Fq t1 S S' → post S') : r_twice post S (nI n) (nI k) x y := by
  subst hk
  have hlen : (a ++ o :: c).length = a.length + (c.length + 1) := by simp
  unfold r_twice
  rw [q_1]
  refine makeRoom_ok (many := 1) hR (by omega) (by omega) (fun S1 g1 g2 g3 hF1 => ?_)
  refine copyCells_ok (by omega) (by omega) ?_
  generalize h2 : cpy2 S1 154 154 (8 * a.length) (8 * (a.length + 1)) (8 * 1) = S2
  have hrow : Rw 154 S2 a.length o := h2 ▸ rw_cpy_out (g2 a.length o at_app (by omega)) (Or.inr (Or.inl (by omega)))
  have hrow2 : Rw 154 S2 (a.length + 1) o := h2 ▸ rw_cpy (m := 0) (g2 a.length o at_app (by omega)) (by omega)
  have hF2 : Fq t1 S S2 := hF1.tr (h2 ▸ fq_cpy t1_154)
  rw [ix0 (by omega), ix2 (by omega), ix3 (by omega), ix2 (by omega), ix3 (by omega)]
  refine ⟨vi0 (by omega), fun S3 h3 => ⟨vi2 (by omega), vi2 (by omega), fun S4 h4 => ⟨vi3 (by omega), vi3 (by omega), fun S5 h5 => ?_⟩⟩⟩
  obtain ⟨b2, b3, b4, b5⟩ := hrow.2.2.2.2 hs
  have m2 : S3 154 (8 * a.length + 2) = o.l := by rw [h3, up_at, if_neg (by omega)]; exact b2
  have m3 : S4 154 (8 * a.length + 3) = o.t := by rw [h4, up_at, if_neg (by omega), h3, up_at, if_neg (by omega)]; exact b3
  rw [m2] at h4
  rw [m3] at h5
  have hF5 : Fq t1 S S5 := by
    rw [h5, h4, h3]
    exact ((hF2.tr (fq_up (Or.inl rfl))).tr (fq_up (Or.inl rfl))).tr (fq_up (Or.inl rfl))
  refine hp S5 ⟨?_, fun i z hz => ?_⟩ hF5
  · rw [h5, up_at, if_neg (by omega), h4, up_at, if_neg (by omega), h3, up_at, if_neg (by omega), ← h2, cpy_at, if_neg (by omega), g1]
    congr 1
    simp only [List.length_append, List.length_cons]
    omega
  · by_cases hi : i = a.length + 1
    · subst hi
      have hz2 : z = dbl n x y o := by
        rw [List.getElem?_append_right (by omega), show a.length + 1 - a.length = 1 by omega] at hz
        exact (Option.some.inj hz).symm
      subst hz2
      obtain ⟨r0, r1, r6, r7, rb⟩ := hrow2
      obtain ⟨e2, e3, e4, e5⟩ := rb hs
      refine ⟨?_, ?_, ?_, ?_, fun _ => ⟨?_, ?_, ?_, ?_⟩⟩
      · rw [h5, up_at, if_neg (by omega), h4, up_at, if_neg (by omega), h3, up_at, if_pos ⟨rfl, rfl⟩]; rfl
      · rw [h5, up_at, if_neg (by omega), h4, up_at, if_neg (by omega), h3, up_at, if_neg (by omega)]; exact r1
      · rw [h5, up_at, if_neg (by omega), h4, up_at, if_neg (by omega), h3, up_at, if_neg (by omega)]; exact r6
      · rw [h5, up_at, if_neg (by omega), h4, up_at, if_neg (by omega), h3, up_at, if_neg (by omega)]; exact r7
      · rw [h5, up_at, if_neg (by omega), h4, up_at, if_pos ⟨rfl, rfl⟩]; rfl
      · rw [h5, up_at, if_pos ⟨rfl, rfl⟩]; rfl
      · rw [h5, up_at, if_neg (by omega), h4, up_at, if_neg (by omega), h3, up_at, if_neg (by omega)]; exact e4
      · rw [h5, up_at, if_neg (by omega), h4, up_at, if_neg (by omega), h3, up_at, if_neg (by omega)]; exact e5
    · have hrow3 : Rw 154 S2 i z := by
        rcases Nat.lt_or_ge i (a.length + 1) with hlt | hge
        · refine h2 ▸ rw_cpy_out (g2 i z ?_ hlt) (Or.inr (Or.inl hlt))
          rcases Nat.lt_or_ge i a.length with h | h
          · rw [List.getElem?_append_left h] at hz ⊢; exact hz
          · have : i = a.length := by omega
            subst this
            rw [at_app] at hz ⊢; exact hz
        · have h3 := g3 (i - 1) z ?_ (by omega)
          · rw [show i - 1 + 1 = i by omega] at h3
            exact h2 ▸ rw_cpy_out h3 (Or.inr (Or.inr (by omega)))
          · rw [List.getElem?_append_right (by omega)] at hz ⊢
            obtain ⟨j, hj⟩ : ∃ j, i - a.length = j + 2 := ⟨i - a.length - 2, by omega⟩
            rw [hj] at hz
            rw [show i - 1 - a.length = j + 1 by omega]
            exact hz
      refine rw_of hrow3 (fun c hc => ?_)
      rw [h5, up_at, if_neg (by omega), h4, up_at, if_neg (by omega), h3, up_at, if_neg (by omega)]
