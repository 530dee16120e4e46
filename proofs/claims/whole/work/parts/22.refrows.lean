theorem n8' (k c : Nat) : 8 * nI k + nI c = nI (8 * k + c) := by
  have h8 : (8 : Int32) = nI 8 := rfl
  rw [h8]
  unfold nI
  rw [← Int32.ofNat_mul, ← Int32.ofNat_add]
theorem n8m (k : Nat) : 8 * nI k = nI (8 * k) := by
  have h8 : (8 : Int32) = nI 8 := rfl
  rw [h8]
  unfold nI
  rw [← Int32.ofNat_mul]
theorem copyCells_ok {post : Mem → Prop} {S : Mem} {k j : Nat} (hk : k < 14) (hj : j < 14) (hp : post (cpy2 S 154 154 (8 * k) (8 * j) (8 * 1))) : r_copyCells post S (nI k) (nI j) := by
  have key : ∀ (m c : Nat), c + m = 8 → r_copyCells_L2 post (m + 1) (cpy2 S 154 154 (8 * k) (8 * j) c) (nI k) (nI j) (nI c) := by
    intro m
    have h8 : (8 : Int32) = nI 8 := rfl
    induction m with
    | zero =>
      intro c hc
      have : c = 8 := by omega
      subst this
      unfold r_copyCells_L2
      exact ⟨fun _ => hp, fun h => absurd (Int32.le_refl _) h⟩
    | succ m ih =>
      intro c hc
      unfold r_copyCells_L2
      refine ⟨fun h => ?_, fun _ => ?_⟩
      · rw [h8, q_le (by omega) (by omega)] at h
        omega
      · rw [n8', n8', nI_clamp (by omega), nI_clamp (by omega), q_1]
        refine ⟨q_in (by omega) (by omega), q_in (by omega) (by omega), fun S1 h1 => ?_⟩
        have hrd : cpy2 S 154 154 (8 * k) (8 * j) c 154 (8 * k + c) = S 154 (8 * k + c) := by
          rw [cpy_at, if_neg (by omega)]
        rw [hrd, cpy_step] at h1
        subst h1
        exact ih (c + 1) (by omega)
  exact ⟨9, by rw [← cpy_0 S 154 154 (8 * k) (8 * j)]; exact key 8 0 rfl⟩
theorem up_at (S : Mem) (k i : Nat) (v : Int32) (a b : Nat) : up2 S k i v a b = if a = k ∧ b = i then v else S a b := rfl
theorem rw_up {x : Nat} {S : Mem} {m : Nat} {o : Ob} (h : Rw x S m o) {k i : Nat} {v : Int32} (hx : x ≠ k) : Rw x (up2 S k i v) m o :=
  rw_of h (fun c _ => by rw [up_at, if_neg (by omega)])
theorem fq_up {t : Nat → Nat → Prop} {S : Mem} {k i : Nat} {v : Int32} (h : t k i) : Fq t S (up2 S k i v) := by
  intro a b hn
  rw [up_at, if_neg]
  rintro ⟨rfl, rfl⟩
  exact hn h
theorem fq_cpy {t : Nat → Nat → Prop} {S : Mem} {a b p q n : Nat} (h : ∀ i, t b i) : Fq t S (cpy2 S a b p q n) := by
  intro x i hn
  rw [cpy_at, if_neg]
  rintro ⟨rfl, -⟩
  exact hn (h i)
theorem t1_154 (i : Nat) : t1 154 i := Or.inl rfl
theorem cut_at {D : List Ob} {f t m : Nat} {o : Ob} (hf : f ≤ D.length) (h : (D.take f ++ D.drop t)[m]? = some o) : (m < f ∧ D[m]? = some o) ∨ (f ≤ m ∧ D[m - f + t]? = some o) := by
  have hl : (D.take f).length = f := by rw [List.length_take]; omega
  rcases Nat.lt_or_ge m f with hm | hm
  · rw [List.getElem?_append_left (by omega), List.getElem?_take_of_lt hm] at h
    exact Or.inl ⟨hm, h⟩
  · rw [List.getElem?_append_right (by omega), hl, List.getElem?_drop] at h
    exact Or.inr ⟨hm, by rw [← h]; congr 1; omega⟩
theorem takeOut_ok {post : Mem → Prop} {S : Mem} {D : List Ob} (hR : RD S D) {f t : Nat} (hft : f ≤ t) (ht : t ≤ D.length) (hl : D.length ≤ 14) (hp : ∀ S', RD S' (D.take f ++ D.drop t) → Fq t1 S S' → post S') : r_takeOut post S (nI f) (nI t) := by
  have key : ∀ (m i : Nat) (S1 : Mem), i + m = D.length → t ≤ i → S1 148 7 = nI D.length → (∀ (x : Nat) (o : Ob), D[x]? = some o → x < f → Rw 154 S1 x o) → (∀ (x : Nat) (o : Ob), D[x]? = some o → t ≤ x → x < i → Rw 154 S1 (x - (t - f)) o) → (∀ (x : Nat) (o : Ob), D[x]? = some o → i ≤ x → Rw 154 S1 x o) → Fq t1 S S1 → r_takeOut_L2 post (m + 1) S1 (nI f) (nI t) (nI i) := by
    intro m
    induction m with
    | zero =>
      intro i S1 hi hti hn ha hb hc hF
      unfold r_takeOut_L2
      rw [hn, q_le (by omega) (by omega), q_sub hft, q_sub (by omega)]
      refine ⟨fun _ S2 h2 => ?_, fun h => absurd (show D.length ≤ i by omega) h⟩
      subst h2
      refine hp _ ⟨?_, fun x o hx => ?_⟩ (hF.tr (fq_up (Or.inr ⟨rfl, rfl⟩)))
      · rw [up_at, if_pos ⟨rfl, rfl⟩]
        congr 1
        rw [List.length_append, List.length_take, List.length_drop]
        omega
      · refine rw_up ?_ (by decide)
        rcases cut_at (by omega) hx with ⟨h1, h2⟩ | ⟨h1, h2⟩
        · exact ha x o h2 h1
        · have h3 := hb _ o h2 (by omega) (by have := at_lt h2; omega)
          rwa [show x - f + t - (t - f) = x by omega] at h3
    | succ m ih =>
      intro i S1 hi hti hn ha hb hc hF
      unfold r_takeOut_L2
      rw [hn, q_le (by omega) (by omega), q_sub hft, q_sub (a := i) (b := t - f) (by omega), q_1]
      refine ⟨fun h => absurd h (by omega), fun _ => copyCells_ok (by omega) (by omega) ?_⟩
      refine ih (i + 1) _ (by omega) (by omega) ?_ ?_ ?_ ?_ (hF.tr (fq_cpy t1_154))
      · rw [cpy_at, if_neg (by omega)]
        exact hn
      · exact fun x o hx h1 => rw_cpy_out (ha x o hx h1) (Or.inr (Or.inl (by omega)))
      · intro x o hx h1 h2
        by_cases hxi : x = i
        · subst hxi
          exact rw_cpy (m := 0) (hc x o hx (Nat.le_refl _)) (by omega)
        · exact rw_cpy_out (hb x o hx h1 (by omega)) (Or.inr (by omega))
      · intro x o hx h1
        exact rw_cpy_out (hc x o hx (by omega)) (Or.inr (by omega))
  exact ⟨D.length - t + 1, key (D.length - t) t S (by omega) (Nat.le_refl _) hR.1 (fun x o hx _ => hR.2 x o hx) (fun x o hx h1 h2 => absurd h1 (by omega)) (fun x o hx _ => hR.2 x o hx) Fq.rf⟩
theorem makeRoom_ok {post : Mem → Prop} {S : Mem} {D : List Ob} (hR : RD S D) {at_ many : Nat} (hat : at_ ≤ D.length) (hl : D.length + many ≤ 14) (hp : ∀ S', S' 148 7 = nI (D.length + many) → (∀ (x : Nat) (o : Ob), D[x]? = some o → x < at_ → Rw 154 S' x o) → (∀ (x : Nat) (o : Ob), D[x]? = some o → at_ ≤ x → Rw 154 S' (x + many) o) → Fq t1 S S' → post S') : r_makeRoom post S (nI at_) (nI many) := by
  have key : ∀ (m : Nat) (S1 : Mem), at_ + m ≤ D.length → S1 148 7 = nI D.length → (∀ (x : Nat) (o : Ob), D[x]? = some o → x < at_ + m → Rw 154 S1 x o) → (∀ (x : Nat) (o : Ob), D[x]? = some o → at_ + m ≤ x → Rw 154 S1 (x + many) o) → Fq t1 S S1 → r_makeRoom_L7 post (m + 1) S1 (nI at_) (nI many) (nI (at_ + m) - 1) := by
    intro m
    induction m with
    | zero =>
      intro S1 hi hn ha hb hF
      unfold r_makeRoom_L7
      rw [hn, q_add]
      have hlt : nI (at_ + 0) - 1 < nI at_ := by
        have h1 : (1 : Int32) = nI 1 := rfl
        rcases Nat.eq_zero_or_pos at_ with h | h
        · subst h; decide +kernel
        · rw [h1, q_sub (by omega), q_lt (by omega) (by omega)]; omega
      refine ⟨fun _ S2 h2 => ?_, fun h => absurd hlt h⟩
      subst h2
      refine hp _ ?_ ?_ ?_ (hF.tr (fq_up (Or.inr ⟨rfl, rfl⟩)))
      · rw [up_at, if_pos ⟨rfl, rfl⟩]
      · exact fun x o hx h1 => rw_up (ha x o hx h1) (by decide)
      · exact fun x o hx h1 => rw_up (hb x o hx h1) (by decide)
    | succ m ih =>
      intro S1 hi hn ha hb hF
      have e1 : nI (at_ + (m + 1)) - 1 = nI (at_ + m) := by
        rw [show (1 : Int32) = nI 1 from rfl, q_sub (by omega)]; congr 1
      unfold r_makeRoom_L7
      rw [hn, e1, q_lt (by omega) (by omega), q_add (at_ + m) many]
      refine ⟨fun h => absurd h (by omega), fun _ => copyCells_ok (by omega) (by omega) ?_⟩
      have e2 : nI (at_ + m) + (-1) = nI (at_ + m) - 1 := (Int32.sub_eq_add_neg _ _).symm
      rw [e2]
      refine ih _ (by omega) ?_ ?_ ?_ (hF.tr (fq_cpy t1_154))
      · rw [cpy_at, if_neg (by omega)]
        exact hn
      · exact fun x o hx h1 => by
          rcases Nat.eq_zero_or_pos many with h0 | h0
          · subst h0
            have hh := ha x o hx (by omega)
            exact rw_cpy_out hh (Or.inr (by omega))
          · exact rw_cpy_out (ha x o hx (by omega)) (Or.inr (by omega))
      · intro x o hx h1
        by_cases hxi : x = at_ + m
        · subst hxi
          exact rw_cpy (m := 0) (ha _ o hx (by omega)) (by omega)
        · exact rw_cpy_out (hb x o hx (by omega)) (Or.inr (by omega))
  refine ⟨D.length - at_ + 1, ?_⟩
  have := key (D.length - at_) S (by omega) hR.1 (fun x o hx _ => hR.2 x o hx) (fun x o hx h => absurd (at_lt hx) (by omega)) Fq.rf
  rw [hR.1]
  rwa [show at_ + (D.length - at_) = D.length by omega] at this
theorem lift_ok {post : Mem → Prop} {S : Mem} {D : List Ob} (hR : RD S D) {f t : Nat} (hft : f ≤ t) (ht : t ≤ D.length) (hl : D.length ≤ 14) (hp : ∀ S', RD S' (D.take f ++ D.drop t) → (∀ (x : Nat) (o : Ob), D[x]? = some o → f ≤ x → x < t → Rw 156 S' (x - f) o) → Fq t2 S S' → post S') : r_lift post S (nI f) (nI t) := by
  have key : ∀ (m c : Nat), c + m = 8 * (t - f) → r_lift_L5 post (m + 1) (cpy2 S 154 156 (8 * f) (8 * 0) c) (nI f) (nI t) (nI (8 * f + c)) := by
    intro m
    induction m with
    | zero =>
      intro c hc
      unfold r_lift_L5
      rw [n8m t, q_le (by omega) (by omega)]
      refine ⟨fun _ => ?_, fun h => absurd (show 8 * t ≤ 8 * f + c by omega) h⟩
      have hc' : c = 8 * (t - f) := by omega
      subst hc'
      have hR' : RD (cpy2 S 154 156 (8 * f) (8 * 0) (8 * (t - f))) D := by
        refine ⟨?_, fun k o hk => rw_cpy_out (hR.2 k o hk) (Or.inl (by decide))⟩
        rw [cpy_at, if_neg (by omega)]
        exact hR.1
      refine takeOut_ok hR' hft ht hl (fun S' h1 h2 => hp S' h1 ?_ ?_)
      · intro x o hx ha hb
        have h3 : Rw 156 (cpy2 S 154 156 (8 * f) (8 * 0) (8 * (t - f))) (0 + (x - f)) o := rw_cpy (m := x - f) (by rw [show f + (x - f) = x by omega]; exact hR.2 x o hx) (by omega)
        rw [Nat.zero_add] at h3
        refine rw_of h3 (fun c _ => h2 _ _ ?_)
        unfold t1
        omega
      · exact (fq_cpy (fun i => Or.inr (Or.inl rfl))).tr (h2.mono t1_2)
    | succ m ih =>
      intro c hc
      unfold r_lift_L5
      rw [n8m t, n8m f, q_le (by omega) (by omega), q_sub (by omega), nI_clamp (by omega), nI_clamp (by omega), q_1]
      refine ⟨fun h => absurd h (by omega), fun _ => ⟨q_in (by omega) (by omega), q_in (by omega) (by omega), fun S1 h1 => ?_⟩⟩
      have hrd : cpy2 S 154 156 (8 * f) (8 * 0) c 154 (8 * f + c) = S 154 (8 * f + c) := by
        rw [cpy_at, if_neg (by omega)]
      rw [hrd, show 8 * f + c - 8 * f = 8 * 0 + c by omega, cpy_step] at h1
      subst h1
      exact ih (c + 1) (by omega)
  refine ⟨8 * (t - f) + 1, ?_⟩
  have := key (8 * (t - f)) 0 (by omega)
  rw [cpy_0] at this
  rw [n8m f]
  exact this
theorem ins_at {D B : List Ob} {k m : Nat} {o : Ob} (hk : k ≤ D.length) (h : (D.take k ++ (B ++ D.drop k))[m]? = some o) : (m < k ∧ D[m]? = some o) ∨ (k ≤ m ∧ m < k + B.length ∧ B[m - k]? = some o) ∨ (k + B.length ≤ m ∧ D[m - B.length]? = some o) := by
  have hl : (D.take k).length = k := by rw [List.length_take]; omega
  rcases Nat.lt_or_ge m k with hm | hm
  · rw [List.getElem?_append_left (by omega), List.getElem?_take_of_lt hm] at h
    exact Or.inl ⟨hm, h⟩
  · rw [List.getElem?_append_right (by omega), hl] at h
    rcases Nat.lt_or_ge (m - k) B.length with hb | hb
    · rw [List.getElem?_append_left hb] at h
      exact Or.inr (Or.inl ⟨hm, by omega, h⟩)
    · rw [List.getElem?_append_right hb, List.getElem?_drop] at h
      exact Or.inr (Or.inr ⟨by omega, by rw [← h]; congr 1; omega⟩)
theorem lay_ok {post : Mem → Prop} {S : Mem} {D B : List Ob} (hR : RD S D) {k many : Nat} (hk : k ≤ D.length) (hm : many = B.length) (hl : D.length + many ≤ 14) (hB : ∀ (x : Nat) (o : Ob), B[x]? = some o → Rw 156 S x o) (hp : ∀ S', RD S' (D.take k ++ (B ++ D.drop k)) → Fq t1 S S' → post S') : r_lay post S (nI k) (nI many) := by
  subst hm
  refine makeRoom_ok hR hk hl (fun S1 hn ha hb hF => ?_)
  have hB1 : ∀ (x : Nat) (o : Ob), B[x]? = some o → Rw 156 S1 x o := fun x o hx => rw_of (hB x o hx) (fun c _ => hF _ _ (by unfold t1; omega))
  have key : ∀ (m c : Nat), c + m = 8 * B.length → r_lay_L8 post (m + 1) (cpy2 S1 156 154 (8 * 0) (8 * k) c) (nI k) (nI B.length) (nI c) := by
    intro m
    induction m with
    | zero =>
      intro c hc
      unfold r_lay_L8
      rw [n8m, q_le (by omega) (by omega)]
      refine ⟨fun _ => ?_, fun h => absurd (show 8 * B.length ≤ c by omega) h⟩
      have hc' : c = 8 * B.length := by omega
      subst hc'
      refine hp _ ⟨?_, fun x o hx => ?_⟩ (hF.tr (fq_cpy t1_154))
      · rw [cpy_at, if_neg (by omega), hn]
        congr 1
        rw [List.length_append, List.length_append, List.length_take, List.length_drop]
        omega
      · rcases ins_at hk hx with ⟨h1, h2⟩ | ⟨h1, h2, h3⟩ | ⟨h1, h2⟩
        · exact rw_cpy_out (ha x o h2 h1) (Or.inr (Or.inl h1))
        · have h4 : Rw 154 (cpy2 S1 156 154 (8 * 0) (8 * k) (8 * B.length)) (k + (x - k)) o := rw_cpy (m := x - k) (by rw [Nat.zero_add]; exact hB1 _ o h3) (by omega)
          rwa [show k + (x - k) = x by omega] at h4
        · have h4 := hb _ o h2 (by omega)
          rw [show x - B.length + B.length = x by omega] at h4
          exact rw_cpy_out h4 (Or.inr (Or.inr h1))
    | succ m ih =>
      intro c hc
      unfold r_lay_L8
      rw [n8m, n8', q_le (by omega) (by omega), nI_clamp (by omega), nI_clamp (by omega), q_1]
      refine ⟨fun h => absurd h (by omega), fun _ => ⟨q_in (by omega) (by omega), q_in (by omega) (by omega), fun S2 h1 => ?_⟩⟩
      have hrd : cpy2 S1 156 154 (8 * 0) (8 * k) c 156 c = S1 156 (8 * 0 + c) := by
        rw [cpy_at, if_neg (by omega)]
        congr 1
        omega
      rw [hrd, cpy_step] at h1
      subst h1
      exact ih (c + 1) (by omega)
  refine ⟨8 * B.length + 1, ?_⟩
  have := key (8 * B.length) 0 (by omega)
  rwa [cpy_0] at this
