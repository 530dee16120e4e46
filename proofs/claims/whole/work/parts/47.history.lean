/-- how many P holds of -/
noncomputable def cnt (P : Nat → Prop) : Nat → Nat → Int32 → Int32
  | 0, _, a => a
  | r + 1, i, a => @ite _ (P i) (Classical.propDecidable _) (cnt P r (i + 1) (a + 1)) (cnt P r (i + 1) a)
theorem chg_loop {post : Int32 → Mem → Prop} {S : Mem} {n m : Nat} {P : Nat → Prop} (hn : S 0 5 = nI n) (h24 : n ≤ 24) (hm : m < 24) (hP : ∀ i, i < n → (P i ↔ i ≠ m ∧ ¬ S 115 i = S 116 i)) : ∀ (r i : Nat) (acc : Int32), i + r = n → post (cnt P r i acc) S → cd_changedBeside_L4 post (r + 1) S (nI m) acc (nI i) := by
  intro r
  induction r with
  | zero =>
    intro i acc hi hq
    have : i = n := by omega
    subst this
    unfold cd_changedBeside_L4
    rw [hn]
    exact ⟨fun _ => hq, fun h => absurd (Int32.le_refl _) h⟩
  | succ r ih =>
    intro i acc hi hq
    unfold cnt at hq
    have hPi := hP i (by omega)
    unfold cd_changedBeside_L4
    rw [hn, q_le (by omega) (by omega), nI_clamp (show i < 2 ^ 31 by omega), q_1, q_eq (by omega) (by omega)]
    refine ⟨fun h => absurd h (by omega), fun _ => ⟨fun h => ?_, fun hne => ⟨q_in (by omega) (by omega), q_in (by omega) (by omega), fun he => ?_, fun he => ?_⟩⟩⟩
    · rw [if_neg (fun q => (hPi.mp q).1 h)] at hq
      exact ih (i + 1) acc (by omega) hq
    · rw [if_neg (fun q => (hPi.mp q).2 he)] at hq
      exact ih (i + 1) acc (by omega) hq
    · rw [if_pos (hPi.mpr ⟨hne, he⟩)] at hq
      exact ih (i + 1) (acc + 1) (by omega) hq
theorem oth_loop {post : Int32 → Mem → Prop} {S : Mem} {n m : Nat} {P : Nat → Prop} (hn : S 148 1 = nI n) (h24 : n ≤ 24) (hm : m < 24) (hP : ∀ i, i < n → (P i ↔ i ≠ m ∧ ¬ S 152 i = S 153 i)) : ∀ (r i : Nat) (acc : Int32), i + r = n → post (cnt P r i acc) S → r_others_L4 post (r + 1) S (nI m) acc (nI i) := by
  intro r
  induction r with
  | zero =>
    intro i acc hi hq
    have : i = n := by omega
    subst this
    unfold r_others_L4
    rw [hn]
    exact ⟨fun _ => hq, fun h => absurd (Int32.le_refl _) h⟩
  | succ r ih =>
    intro i acc hi hq
    unfold cnt at hq
    have hPi := hP i (by omega)
    unfold r_others_L4
    rw [hn, q_le (by omega) (by omega), nI_clamp (show i < 2 ^ 31 by omega), q_1]
    refine ⟨fun h => absurd h (by omega), fun _ => ⟨fun _ => ⟨q_in (by omega) (by omega), q_in (by omega) (by omega)⟩, ?_⟩⟩
    by_cases h : i = m
    · rw [if_neg (fun q => (hPi.mp q).1 h)] at hq
      rw [if_pos (by rw [h])]
      exact ih (i + 1) acc (by omega) hq
    · rw [if_neg (show ¬ nI i = nI m by rw [q_eq (by omega) (by omega)]; exact h)]
      by_cases he : S 152 i = S 153 i
      · rw [if_neg (fun q => (hPi.mp q).2 he)] at hq
        rw [if_pos he]
        exact ih (i + 1) acc (by omega) hq
      · rw [if_pos (hPi.mpr ⟨h, he⟩)] at hq
        rw [if_neg he]
        exact ih (i + 1) (acc + 1) (by omega) hq
/-- an edit's five cells -/
def ed5 (a b c d e : Int32) (j : Nat) : Int32 := if j = 0 then a else if j = 1 then b else if j = 2 then c else if j = 3 then d else e
def dn1 (dn : Nat) : Nat := if dn = 32 then 32 else dn + 1
/-- the edits with one more; the oldest falls out of 32 -/
def shE (E : Nat → Nat → Int32) (dn : Nat) (e : Nat → Int32) (i : Nat) : Nat → Int32 := if i + 1 = dn1 dn then e else if dn = 32 then E (i + 1) else E i
def stN (St : Nat → Xs) (dn : Nat) (Y : Xs) (i : Nat) : Xs := if i = dn1 dn then Y else if dn = 32 then St (i + 1) else St i
theorem chain_new {dn kn : Nat} {E : Nat → Nat → Int32} {St : Nat → Xs} {X Y : Xs} {e : Nat → Int32} (h : Ch dn kn E St X) (hl : Lk e X Y) : ∃ St', Ch (dn1 dn) (dn1 dn) (shE E dn e) St' Y := by
  obtain ⟨h1, h2, h3, h4, h5⟩ := h
  have hlow : ∀ j, j < dn1 dn → stN St dn Y j = if dn = 32 then St (j + 1) else St j := fun j hj => if_neg (by omega)
  have hlast : stN St dn Y (dn1 dn) = Y := if_pos rfl
  refine ⟨stN St dn Y, Nat.le_refl _, ?_, fun i hi => ?_, hlast, hl.2.1⟩
  · unfold dn1; split <;> omega
  · by_cases hil : i + 1 = dn1 dn
    · have hE : shE E dn e i = e := if_pos hil
      rw [hE, hil, hlast, hlow i hi]
      by_cases h32 : dn = 32
      · have hd : dn1 dn = 32 := if_pos h32
        rw [if_pos h32, show i + 1 = dn by omega, h4]
        exact hl
      · have hd : dn1 dn = dn + 1 := if_neg h32
        rw [if_neg h32, show i = dn by omega, h4]
        exact hl
    · have hE : shE E dn e i = if dn = 32 then E (i + 1) else E i := if_neg hil
      rw [hE, hlow i hi, hlow (i + 1) (by omega)]
      by_cases h32 : dn = 32
      · have hd : dn1 dn = 32 := if_pos h32
        rw [if_pos h32, if_pos h32, if_pos h32]
        exact h3 (i + 1) (by omega)
      · have hd : dn1 dn = dn + 1 := if_neg h32
        rw [if_neg h32, if_neg h32, if_neg h32]
        exact h3 i (by omega)
theorem n5 (k c : Nat) : 5 * nI k + nI c = nI (5 * k + c) := by
  rw [show (5 : Int32) = nI 5 from rfl, q_mul, q_add]
theorem n5m (k : Nat) : 5 * nI k = nI (5 * k) := by
  rw [show (5 : Int32) = nI 5 from rfl, q_mul]
def tNo (a i : Nat) : Prop := a = 157 ∨ (a = 148 ∧ (i = 17 ∨ i = 18))
theorem j52_ok {post : Mem → Prop} {S : Mem} {dn : Nat} {l1 l2 l3 l4 l5 : Int32} (hd : dn < 32) (hn : S 148 18 = nI dn) (hp : ∀ S', S' 148 18 = nI (dn + 1) → S' 148 17 = nI (dn + 1) → (∀ c, c < 5 → S' 157 (5 * dn + c) = ed5 l1 l2 l3 l4 l5 c) → (∀ j, j < 5 * dn ∨ 5 * dn + 5 ≤ j → S' 157 j = S 157 j) → Fq tNo S S' → post S') : r_note_J52 post S l1 l2 l3 l4 l5 := by
  have q0 : ∀ T : Mem, T 148 18 = nI dn → (5 * T 148 18).toNatClampNeg = 5 * dn + 0 ∧ vp_in (5 * T 148 18) 160 := by
    intro T hT
    rw [hT, n5m]
    exact ⟨nI_clamp (by omega), q_in (by omega) (by omega)⟩
  have qc : ∀ T : Mem, T 148 18 = nI dn → ∀ c : Nat, c < 5 → (5 * T 148 18 + nI c).toNatClampNeg = 5 * dn + c ∧ vp_in (5 * T 148 18 + nI c) 160 := by
    intro T hT c hc
    rw [hT, n5]
    exact ⟨nI_clamp (by omega), q_in (by omega) (by omega)⟩
  unfold r_note_J52
  refine ⟨(q0 S hn).2, fun S1 h1 => ?_⟩
  rw [(q0 S hn).1] at h1
  have e1 : S1 148 18 = nI dn := by rw [h1, up_at, if_neg (by omega)]; exact hn
  refine ⟨(qc S1 e1 1 (by omega)).2, fun S2 h2 => ?_⟩
  replace h2 := h2.trans (congrArg (fun z => up2 S1 157 z l2) (qc S1 e1 1 (by omega)).1)
  have e2 : S2 148 18 = nI dn := by rw [h2, up_at, if_neg (by omega)]; exact e1
  refine ⟨(qc S2 e2 2 (by omega)).2, fun S3 h3 => ?_⟩
  replace h3 := h3.trans (congrArg (fun z => up2 S2 157 z l3) (qc S2 e2 2 (by omega)).1)
  have e3 : S3 148 18 = nI dn := by rw [h3, up_at, if_neg (by omega)]; exact e2
  refine ⟨(qc S3 e3 3 (by omega)).2, fun S4 h4 => ?_⟩
  replace h4 := h4.trans (congrArg (fun z => up2 S3 157 z l4) (qc S3 e3 3 (by omega)).1)
  have e4 : S4 148 18 = nI dn := by rw [h4, up_at, if_neg (by omega)]; exact e3
  refine ⟨(qc S4 e4 4 (by omega)).2, fun S5 h5 S6 h6 S7 h7 => ?_⟩
  replace h5 := h5.trans (congrArg (fun z => up2 S4 157 z l5) (qc S4 e4 4 (by omega)).1)
  have e5 : S5 148 18 = nI dn := by rw [h5, up_at, if_neg (by omega)]; exact e4
  rw [e5, q_1] at h6
  have e6 : S6 148 18 = nI (dn + 1) := by rw [h6, up_self]
  rw [e6] at h7
  refine hp S7 (by rw [h7, up_at, if_neg (by omega)]; exact e6) (by rw [h7, up_self]) (fun c hc => ?_) (fun j hj => ?_) ?_
  · rcases (show c = 0 ∨ c = 1 ∨ c = 2 ∨ c = 3 ∨ c = 4 by omega) with rfl | rfl | rfl | rfl | rfl
    · rw [h7, up_at, if_neg (by omega), h6, up_at, if_neg (by omega), h5, up_at, if_neg (by omega), h4, up_at, if_neg (by omega), h3, up_at, if_neg (by omega), h2, up_at, if_neg (by omega), h1, up_self]; rfl
    · rw [h7, up_at, if_neg (by omega), h6, up_at, if_neg (by omega), h5, up_at, if_neg (by omega), h4, up_at, if_neg (by omega), h3, up_at, if_neg (by omega), h2, up_self]; rfl
    · rw [h7, up_at, if_neg (by omega), h6, up_at, if_neg (by omega), h5, up_at, if_neg (by omega), h4, up_at, if_neg (by omega), h3, up_self]; rfl
    · rw [h7, up_at, if_neg (by omega), h6, up_at, if_neg (by omega), h5, up_at, if_neg (by omega), h4, up_self]; rfl
    · rw [h7, up_at, if_neg (by omega), h6, up_at, if_neg (by omega), h5, up_self]; rfl
  · rw [h7, up_at, if_neg (by omega), h6, up_at, if_neg (by omega), h5, up_at, if_neg (by omega), h4, up_at, if_neg (by omega), h3, up_at, if_neg (by omega), h2, up_at, if_neg (by omega), h1, up_at, if_neg (by omega)]
  · intro a j hn'
    unfold tNo at hn'
    rw [h7, up_at, if_neg (by omega), h6, up_at, if_neg (by omega), h5, up_at, if_neg (by omega), h4, up_at, if_neg (by omega), h3, up_at, if_neg (by omega), h2, up_at, if_neg (by omega), h1, up_at, if_neg (by omega)]
theorem note_ok {post : Mem → Prop} {S : Mem} {dn kn : Nat} {E : Nat → Nat → Int32} {l1 l2 l3 l4 l5 : Int32} (hH : HR S dn kn E) (hk : dn ≤ kn) (h32 : kn ≤ 32) (hp : ∀ S', HR S' (dn1 dn) (dn1 dn) (shE E dn (ed5 l1 l2 l3 l4 l5)) → Fq tNo S S' → post S') : r_note post S l1 l2 l3 l4 l5 := by
  obtain ⟨hd, hkn, hE⟩ := hH
  have c32 : S 148 18 = 32 ↔ dn = 32 := by rw [hd, show (32 : Int32) = nI 32 from rfl, q_eq (by omega) (by omega)]
  unfold r_note
  rw [c32]
  refine ⟨fun hne => ?_, fun he => ?_⟩
  · have hd1 : dn1 dn = dn + 1 := if_neg hne
    refine j52_ok (by omega) hd (fun S' g1 g2 g3 g4 hF => hp S' ⟨by rw [hd1]; exact g1, by rw [hd1]; exact g2, fun i hi c hc => ?_⟩ hF)
    rw [hd1] at hi
    unfold shE
    rw [hd1]
    by_cases hid : i = dn
    · subst hid
      rw [if_pos rfl]
      exact g3 c hc
    · rw [if_neg (by omega), if_neg hne, g4 _ (by omega)]
      exact hE i (by omega) c hc
  · subst he
    have hd1 : dn1 32 = 32 := if_pos rfl
    have key : ∀ (m c : Nat), c + m = 155 → r_note_L12 post (m + 1) (cpy2 S 157 157 5 0 c) l1 l2 l3 l4 l5 (nI c) := by
      intro m
      induction m with
      | zero =>
        intro c hc
        have hc' : c = 155 := by omega
        subst hc'
        unfold r_note_L12
        refine ⟨fun _ S1 h1 => ?_, fun h => absurd (show (155 : Int32) ≤ nI 155 from Int32.le_refl _) h⟩
        have e18 : cpy2 S 157 157 5 0 155 148 18 = nI 32 := by rw [cpy_at, if_neg (by omega)]; exact hd
        rw [e18, show nI 32 - 1 = nI 31 from by rw [show (1 : Int32) = nI 1 from rfl, q_sub (by omega)]] at h1
        refine j52_ok (dn := 31) (by omega) (by rw [h1, up_self]) (fun S' g1 g2 g3 g4 hF => hp S' ⟨by rw [hd1]; exact g1, by rw [hd1]; exact g2, fun i hi c hc => ?_⟩ ?_)
        · rw [hd1] at hi
          unfold shE
          rw [hd1]
          by_cases hid : i + 1 = 32
          · rw [if_pos hid, show 5 * i + c = 5 * 31 + c by omega]
            exact g3 c hc
          · rw [if_neg hid, if_pos rfl, g4 _ (by omega), h1, up_at, if_neg (by omega), cpy_at, if_pos ⟨rfl, by omega, by omega⟩, show 5 + (5 * i + c - 0) = 5 * (i + 1) + c by omega]
            exact hE (i + 1) (by omega) c hc
        · refine Fq.tr ?_ hF
          rw [h1]
          exact (fq_cpy (fun _ => Or.inl rfl)).tr (fq_up (Or.inr ⟨rfl, Or.inr rfl⟩))
      | succ m ih =>
        intro c hc
        unfold r_note_L12
        rw [show nI c + 5 = nI (c + 5) from q_add c 5, nI_clamp (show c < 2 ^ 31 by omega), nI_clamp (show c + 5 < 2 ^ 31 by omega), q_1]
        refine ⟨fun h => ?_, fun _ => ⟨q_in (by omega) (by omega), q_in (by omega) (by omega), fun S2 h2 => ?_⟩⟩
        · rw [show (155 : Int32) = nI 155 from rfl, q_le (by omega) (by omega)] at h
          omega
        · have hrd : cpy2 S 157 157 5 0 c 157 (c + 5) = S 157 (5 + c) := by
            rw [cpy_at, if_neg (by omega), Nat.add_comm]
          have hst := cpy_step S 157 157 5 0 c
          rw [Nat.zero_add] at hst
          rw [hrd, hst] at h2
          subst h2
          exact ih (c + 1) (by omega)
    refine ⟨156, ?_⟩
    have := key 155 0 (by omega)
    rw [cpy_0] at this
    exact this
def tHi (a _i : Nat) : Prop := a = 52 ∨ (54 ≤ a ∧ a ≤ 85)
theorem cat_ok {post : Nat → Mem → Prop} {S : Mem} {f j : Nat} (hf : f < 32) (hj : j ≤ 64) (h1 : S 52 1 = nI f) (hp : post (54 + (f + j) % 32) S) : ch_at post S 52 (nI j) := by
  have hm := Nat.mod_lt (f + j) (show 0 < 32 by omega)
  unfold ch_at
  rw [h1, q_add, show (32 : Int32) = nI 32 from rfl, q_mod (by omega) (by omega) (by omega), nI_clamp (by omega)]
  exact ⟨q_in (by omega) (by omega), hp⟩
theorem cbec_ok {post : Mem → Prop} {S : Mem} {r : Nat} {a b c d e : Int32} (hp : ∀ S', (∀ j, j < 5 → S' r j = ed5 a b c d e j) → (∀ x j, x ≠ r → S' x j = S x j) → post S') : ce_become post S r a b c d e := by
  intro S1 h1 S2 h2 S3 h3 S4 h4 S5 h5
  refine hp S5 (fun j hj => ?_) (fun x j hx => ?_)
  · rcases (show j = 0 ∨ j = 1 ∨ j = 2 ∨ j = 3 ∨ j = 4 by omega) with rfl | rfl | rfl | rfl | rfl
    · rw [h5, up_at, if_neg (by omega), h4, up_at, if_neg (by omega), h3, up_at, if_neg (by omega), h2, up_at, if_neg (by omega), h1, up_self]; rfl
    · rw [h5, up_at, if_neg (by omega), h4, up_at, if_neg (by omega), h3, up_at, if_neg (by omega), h2, up_self]; rfl
    · rw [h5, up_at, if_neg (by omega), h4, up_at, if_neg (by omega), h3, up_self]; rfl
    · rw [h5, up_at, if_neg (by omega), h4, up_self]; rfl
    · rw [h5, up_self]; rfl
  · rw [h5, up_at, if_neg (by omega), h4, up_at, if_neg (by omega), h3, up_at, if_neg (by omega), h2, up_at, if_neg (by omega), h1, up_at, if_neg (by omega)]
theorem cadd_ok {post : Mem → Prop} {S : Mem} {f dn kn : Nat} {E : Nat → Nat → Int32} {a b c d e : Int32} (hH : HC S f dn kn E) (hk : dn ≤ kn) (h32 : kn ≤ 32) (hp : ∀ (S' : Mem) (f' : Nat), HC S' f' (dn1 dn) (dn1 dn) (shE E dn (ed5 a b c d e)) → Fq tHi S S' → post S') : ch_add (fun r S2 => ce_become (fun S3 => post S3) S2 r a b c d e) S 52 := by
  obtain ⟨hf, g1, g2, g3, hE⟩ := hH
  intro S1 h1
  have a1 : S1 52 1 = nI f := by rw [h1, up_at, if_neg (by omega)]; exact g1
  have a2 : S1 52 2 = nI dn := by rw [h1, up_at, if_neg (by omega)]; exact g2
  have c32 : nI dn = 32 ↔ dn = 32 := by rw [show (32 : Int32) = nI 32 from rfl, q_eq (by omega) (by omega)]
  rw [a2, c32, a1]
  refine ⟨fun hne S2 h2 => ?_, fun he S2 h2 => ?_⟩
  · have hd1 : dn1 dn = dn + 1 := if_neg hne
    rw [q_1] at h2
    have b1 : S2 52 1 = nI f := by rw [h2, up_at, if_neg (by omega)]; exact a1
    have b2 : S2 52 2 = nI (dn + 1) := by rw [h2, up_self]
    have b3 : S2 52 3 = 0 := by rw [h2, up_at, if_neg (by omega), h1, up_self]
    have hm := Nat.mod_lt (f + dn) (show 0 < 32 by omega)
    unfold ch_add_J40
    rw [b2, show nI (dn + 1) - 1 = nI dn from by rw [show (1 : Int32) = nI 1 from rfl, q_sub (by omega)]; rfl]
    refine cat_ok hf (by omega) b1 (cbec_ok (fun S' k1 k2 => hp S' f ⟨hf, ?_, ?_, ?_, fun i hi c' hc => ?_⟩ ?_))
    · rw [k2 _ _ (by omega)]; exact b1
    · rw [k2 _ _ (by omega), hd1]; exact b2
    · rw [k2 _ _ (by omega), b3, Nat.sub_self]; rfl
    · rw [hd1] at hi
      unfold shE
      rw [hd1]
      by_cases hid : i = dn
      · subst hid
        rw [if_pos rfl]
        exact k1 c' hc
      · rw [if_neg (by omega), if_neg hne, k2 _ _ (by omega), h2, up_at, if_neg (by omega), h1, up_at, if_neg (by omega)]
        exact hE i (by omega) c' hc
    · intro x j hx
      unfold tHi at hx
      rw [k2 _ _ (by omega), h2, up_at, if_neg (by omega), h1, up_at, if_neg (by omega)]
  · subst he
    have hd1 : dn1 32 = 32 := if_pos rfl
    rw [q_1, show (32 : Int32) = nI 32 from rfl, q_mod (by omega) (by omega) (by omega)] at h2
    have hf1 := Nat.mod_lt (f + 1) (show 0 < 32 by omega)
    have b1 : S2 52 1 = nI ((f + 1) % 32) := by rw [h2, up_self]
    have b2 : S2 52 2 = nI 32 := by rw [h2, up_at, if_neg (by omega)]; exact a2
    have b3 : S2 52 3 = 0 := by rw [h2, up_at, if_neg (by omega), h1, up_self]
    have hm := Nat.mod_lt ((f + 1) % 32 + 31) (show 0 < 32 by omega)
    unfold ch_add_J40
    rw [b2, show nI 32 - 1 = nI 31 from by rw [show (1 : Int32) = nI 1 from rfl, q_sub (by omega)]]
    refine cat_ok hf1 (by omega) b1 (cbec_ok (fun S' k1 k2 => hp S' ((f + 1) % 32) ⟨hf1, ?_, ?_, ?_, fun i hi c' hc => ?_⟩ ?_))
    · rw [k2 _ _ (by omega)]; exact b1
    · rw [k2 _ _ (by omega), hd1]; exact b2
    · rw [k2 _ _ (by omega), b3, Nat.sub_self]; rfl
    · rw [hd1] at hi
      unfold shE
      rw [hd1]
      by_cases hid : i + 1 = 32
      · rw [if_pos hid, show i = 31 by omega]
        exact k1 c' hc
      · rw [if_neg hid, if_pos rfl, k2 _ _ (by omega), h2, up_at, if_neg (by omega), h1, up_at, if_neg (by omega), show ((f + 1) % 32 + i) % 32 = (f + (i + 1)) % 32 by omega]
        exact hE (i + 1) (by omega) c' hc
    · intro x j hx
      unfold tHi at hx
      rw [k2 _ _ (by omega), h2, up_at, if_neg (by omega), h1, up_at, if_neg (by omega)]
