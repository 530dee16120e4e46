def RAc (S : Mem) (n : Nat) (a : Ac) : Prop := RA S n a.1 (a.2 0) (a.2 1) (a.2 2) (a.2 3)
def CAc (S : Mem) (q : Nat) (a : Ac) : Prop := CA S q a.1 (a.2 0) (a.2 1) (a.2 2) (a.2 3)
def Ye (D : List Ob) (n : Nat) (a : Ac) (D' : List Ob) : Prop := Yes D n a.1 (a.2 0) (a.2 1) (a.2 2) (a.2 3) D'
def Nn (D : List Ob) (n : Nat) (a : Ac) : Prop := No D n a.1 (a.2 0) (a.2 1) (a.2 2) (a.2 3)
/-- one action more -/
def St1 (a : Ac) (on : Prop) (i : Nat) (D D' : List Ob) (e : Int32) : Prop := (¬ on ∧ e = 0 ∧ D' = D) ∨ (on ∧ e = 1 ∧ Ye D i a D') ∨ (on ∧ e = 2 ∧ Nn D i a ∧ D' = D)
/-- the drawings that a row of actions makes, and their effects -/
def Seq (a : Nat → Ac) (on : Nat → Prop) (m : Nat) (Ds : Nat → List Ob) (ef : Nat → Int32) : Prop := Ds 0 = [] ∧ ∀ i, i < m → St1 (a i) (on i) i (Ds i) (Ds (i + 1)) (ef i)
theorem wf_nil : WF [] 0 := ⟨Fo.nil, ⟨fun i j a b h => by simp at h, by simp, fun i a h => by simp at h⟩, by simp, fun o ho => by cases ho⟩
theorem st1_wf {a : Ac} {on : Prop} {i : Nat} {D D' : List Ob} {e : Int32} (h : St1 a on i D D' e) (hW : WF D i) : WF D' (i + 1) := by
  rcases h with ⟨-, -, rfl⟩ | ⟨-, -, h⟩ | ⟨-, -, -, rfl⟩
  · exact wf_mono hW
  · exact h.2.2.2.2
  · exact wf_mono hW
theorem seq_wf {a : Nat → Ac} {on : Nat → Prop} {m : Nat} {Ds : Nat → List Ob} {ef : Nat → Int32} (h : Seq a on m Ds ef) : ∀ i, i ≤ m → WF (Ds i) i := by
  intro i
  induction i with
  | zero =>
    intro _
    rw [h.1]
    exact wf_nil
  | succ i ih =>
    intro hi
    exact st1_wf (h.2 i (by omega)) (ih (by omega))
theorem seq_le {a : Nat → Ac} {on : Nat → Prop} {m m' : Nat} {Ds : Nat → List Ob} {ef : Nat → Int32} (h : Seq a on m Ds ef) (hm : m' ≤ m) : Seq a on m' Ds ef := ⟨h.1, fun i hi => h.2 i (by omega)⟩
theorem seq_congr {a a' : Nat → Ac} {on on' : Nat → Prop} {m : Nat} {Ds : Nat → List Ob} {ef : Nat → Int32} (h : Seq a on m Ds ef) (ha : ∀ i, i < m → a' i = a i) (ho : ∀ i, i < m → (on' i ↔ on i)) : Seq a' on' m Ds ef := by
  refine ⟨h.1, fun i hi => ?_⟩
  rw [ha i hi, propext (ho i hi)]
  exact h.2 i hi
def updD (Ds : Nat → List Ob) (m : Nat) (D : List Ob) (i : Nat) : List Ob := if i = m then D else Ds i
def updE (ef : Nat → Int32) (m : Nat) (e : Int32) (i : Nat) : Int32 := if i = m then e else ef i
theorem seq_ext {a : Nat → Ac} {on : Nat → Prop} {m : Nat} {Ds : Nat → List Ob} {ef : Nat → Int32} (h : Seq a on m Ds ef) {D' : List Ob} {e : Int32} (hs : St1 (a m) (on m) m (Ds m) D' e) : Seq a on (m + 1) (updD Ds (m + 1) D') (updE ef m e) := by
  refine ⟨?_, fun i hi => ?_⟩
  · show (if 0 = m + 1 then D' else Ds 0) = []
    rw [if_neg (by omega)]
    exact h.1
  · have e1 : updD Ds (m + 1) D' i = Ds i := if_neg (by omega)
    rw [e1]
    by_cases him : i = m
    · subst him
      have e2 : updD Ds (i + 1) D' (i + 1) = D' := if_pos rfl
      have e3 : updE ef i e i = e := if_pos rfl
      rw [e2, e3]
      exact hs
    · have e2 : updD Ds (m + 1) D' (i + 1) = Ds (i + 1) := if_neg (by omega)
      have e3 : updE ef m e i = ef i := if_neg him
      rw [e2, e3]
      exact h.2 i (by omega)
theorem st1_ex {a : Ac} {on : Prop} {i : Nat} {D : List Ob} (hW : WF D i) (hi : i < 24) (hv : vac a) : ∃ D' e, St1 a on i D D' e := by
  by_cases ho : on
  · rcases step hW hi (vac_va hv) with ⟨D', h⟩ | h
    · exact ⟨D', 1, Or.inr (Or.inl ⟨ho, rfl, h⟩)⟩
    · exact ⟨D, 2, Or.inr (Or.inr ⟨ho, rfl, h, rfl⟩)⟩
  · exact ⟨D, 0, Or.inl ⟨ho, rfl, rfl⟩⟩
theorem seq_ex {a : Nat → Ac} (on : Nat → Prop) : ∀ m, m ≤ 24 → (∀ i, i < m → vac (a i)) → ∃ Ds ef, Seq a on m Ds ef := by
  intro m
  induction m with
  | zero => exact fun _ _ => ⟨fun _ => [], fun _ => 0, rfl, fun i hi => absurd hi (by omega)⟩
  | succ m ih =>
    intro hm hv
    obtain ⟨Ds, ef, h⟩ := ih (by omega) (fun i hi => hv i (by omega))
    obtain ⟨D', e, hs⟩ := st1_ex (on := on m) (seq_wf h m (Nat.le_refl _)) (by omega) (hv m (by omega))
    exact ⟨_, _, seq_ext h hs⟩
def tGo (a i : Nat) : Prop := a = 152 ∨ a = 154 ∨ a = 155 ∨ a = 156 ∨ (a = 148 ∧ (i = 7 ∨ i = 9 ∨ (12 ≤ i ∧ i ≤ 15)))
theorem tAc_Go (a i : Nat) (h : tAc a i) : tGo a i := by unfold tAc at h; unfold tGo; omega
def gT (post : Mem → Prop) (K7 : Mem → Int32 → Int32 → Prop) (S : Mem) (l1 l2 : Int32) : Prop := r_act (fun S1 => r_holdLimits (fun r2 S2 => ((¬ r2 = 0) → K7 S2 l1 (l2 + 1)) ∧ ((r2 = 0) → (vp_in l2 24) ∧ ∀ S3, S3 = up2 S2 152 l2.toNatClampNeg 2 → ∀ S4, S4 = up2 S3 148 7 (S3 148 9) → ∃ n, r_goThrough_L150 post K7 n S4 l1 l2 0)) S1) S l2
theorem keep_ok {post : Mem → Prop} {K7 : Mem → Int32 → Int32 → Prop} {S : Mem} {l1 l2 : Int32} {len : Nat} (hn : S 148 7 = nI len) (hl : len ≤ 14) (h : gT post K7 (cpy2 S 154 155 (8 * 0) (8 * 0) (8 * len)) l1 l2) : ∃ n, r_goThrough_L88 post K7 n S l1 l2 0 := by
  have key : ∀ (m c : Nat), c + m = 8 * len → r_goThrough_L88 post K7 (m + 1) (cpy2 S 154 155 (8 * 0) (8 * 0) c) l1 l2 (nI c) := by
    intro m
    induction m with
    | zero =>
      intro c hc
      have h7 : cpy2 S 154 155 (8 * 0) (8 * 0) c 148 7 = nI len := by rw [cpy_at, if_neg (by omega)]; exact hn
      unfold r_goThrough_L88
      rw [h7, n8m, q_le (by omega) (by omega)]
      refine ⟨fun _ => ?_, fun h => absurd (show 8 * len ≤ c by omega) h⟩
      have hc' : c = 8 * len := by omega
      subst hc'
      exact h
    | succ m ih =>
      intro c hc
      have h7 : cpy2 S 154 155 (8 * 0) (8 * 0) c 148 7 = nI len := by rw [cpy_at, if_neg (by omega)]; exact hn
      unfold r_goThrough_L88
      rw [h7, n8m, q_le (by omega) (by omega), nI_clamp (show c < 2 ^ 31 by omega), q_1]
      refine ⟨fun h => absurd h (by omega), fun _ => ⟨q_in (by omega) (by omega), q_in (by omega) (by omega), fun S1 h1 => ?_⟩⟩
      have hrd : cpy2 S 154 155 (8 * 0) (8 * 0) c 154 c = S 154 (8 * 0 + c) := by
        rw [cpy_at, if_neg (by omega)]
        congr 1
        omega
      have h2 := cpy_step S 154 155 (8 * 0) (8 * 0) c
      rw [show 8 * 0 + c = c by omega] at h2 hrd
      rw [hrd, h2] at h1
      subst h1
      exact ih (c + 1) (by omega)
  refine ⟨8 * len + 1, ?_⟩
  have := key (8 * len) 0 (by omega)
  rw [cpy_0] at this
  exact this
theorem back_ok {post : Mem → Prop} {K7 : Mem → Int32 → Int32 → Prop} {S : Mem} {l1 l2 : Int32} {len : Nat} (hn : S 148 7 = nI len) (hl : len ≤ 14) (h : K7 (cpy2 S 155 154 (8 * 0) (8 * 0) (8 * len)) l1 (l2 + 1)) : ∃ n, r_goThrough_L150 post K7 n S l1 l2 0 := by
  have key : ∀ (m c : Nat), c + m = 8 * len → r_goThrough_L150 post K7 (m + 1) (cpy2 S 155 154 (8 * 0) (8 * 0) c) l1 l2 (nI c) := by
    intro m
    induction m with
    | zero =>
      intro c hc
      have h7 : cpy2 S 155 154 (8 * 0) (8 * 0) c 148 7 = nI len := by rw [cpy_at, if_neg (by omega)]; exact hn
      unfold r_goThrough_L150
      rw [h7, n8m, q_le (by omega) (by omega)]
      refine ⟨fun _ => ?_, fun h => absurd (show 8 * len ≤ c by omega) h⟩
      have hc' : c = 8 * len := by omega
      subst hc'
      exact h
    | succ m ih =>
      intro c hc
      have h7 : cpy2 S 155 154 (8 * 0) (8 * 0) c 148 7 = nI len := by rw [cpy_at, if_neg (by omega)]; exact hn
      unfold r_goThrough_L150
      rw [h7, n8m, q_le (by omega) (by omega), nI_clamp (show c < 2 ^ 31 by omega), q_1]
      refine ⟨fun h => absurd h (by omega), fun _ => ⟨q_in (by omega) (by omega), q_in (by omega) (by omega), fun S1 h1 => ?_⟩⟩
      have hrd : cpy2 S 155 154 (8 * 0) (8 * 0) c 155 c = S 155 (8 * 0 + c) := by
        rw [cpy_at, if_neg (by omega)]
        congr 1
        omega
      have h2 := cpy_step S 155 154 (8 * 0) (8 * 0) c
      rw [show 8 * 0 + c = c by omega] at h2 hrd
      rw [hrd, h2] at h1
      subst h1
      exact ih (c + 1) (by omega)
  refine ⟨8 * len + 1, ?_⟩
  have := key (8 * len) 0 (by omega)
  rw [cpy_0] at this
  exact this
theorem j66_skip {post : Mem → Prop} {K7 : Mem → Int32 → Int32 → Prop} {S : Mem} {l1 v : Int32} {i : Nat} (hi : i < 24) (hv : ¬ v = 1) (h : K7 (up2 S 152 i v) l1 (nI (i + 1))) : r_goThrough_J66 post K7 S l1 (nI i) (nI i) v := by
  unfold r_goThrough_J66
  rw [nI_clamp (show i < 2 ^ 31 by omega), q_1]
  refine ⟨q_in (by omega) (by omega), fun S1 h1 => ⟨q_in (by omega) (by omega), fun _ => by subst h1; exact h, fun he => ?_⟩⟩
  rw [h1, up_at, if_pos ⟨rfl, rfl⟩] at he
  exact absurd he hv
theorem j66_go {post : Mem → Prop} {K7 : Mem → Int32 → Int32 → Prop} {S : Mem} {l1 : Int32} {i len : Nat} (hi : i < 24) (hn : S 148 7 = nI len) (hl : len ≤ 14) (h : gT post K7 (cpy2 (up2 (up2 S 152 i 1) 148 9 (nI len)) 154 155 (8 * 0) (8 * 0) (8 * len)) l1 (nI i)) : r_goThrough_J66 post K7 S l1 (nI i) (nI i) 1 := by
  unfold r_goThrough_J66
  rw [nI_clamp (show i < 2 ^ 31 by omega), q_1]
  refine ⟨q_in (by omega) (by omega), fun S1 h1 => ⟨q_in (by omega) (by omega), fun he => ?_, fun _ S2 h2 => ?_⟩⟩
  · rw [h1, up_at, if_pos ⟨rfl, rfl⟩] at he
    exact absurd rfl he
  · have h7 : S1 148 7 = nI len := by rw [h1, up_at, if_neg (by omega)]; exact hn
    rw [h7, h1] at h2
    subst h2
    refine keep_ok (by rw [up_at, if_neg (by omega), up_at, if_neg (by omega)]; exact hn) hl h
theorem rd_up {S : Mem} {D : List Ob} {k i : Nat} {v : Int32} (h : RD S D) (hk : k ≠ 154) (h7 : ¬ (148 = k ∧ 7 = i)) : RD (up2 S k i v) D := ⟨by rw [up_at, if_neg h7]; exact h.1, fun j o hj => rw_up (h.2 j o hj) (fun q => hk q.symm)⟩
/-- one more action in the reference's goThrough -/
theorem go_one {post : Mem → Prop} {K7 : Mem → Int32 → Int32 → Prop} {S S0' : Mem} {sw : Int32} {a : Ac} {i : Nat} {D D' : List Ob} {e : Int32} {on : Prop} (hi : i < 24) (hW : WF D i) (hs : St1 a on i D D' e) (hR : RD S D) (hA : RAc S i a) (hon : on ↔ S 151 i = (if nI i = sw then 1 else 0 : Int32)) (hF : Fq tGo S0' S) (hp : ∀ S', RD S' D' → S' 152 i = e → (∀ j, j ≠ i → S' 152 j = S 152 j) → Fq tGo S0' S' → K7 S' sw (nI (i + 1))) : (((if (S 151 i) = (if nI i = sw then 1 else 0 : Int32) then 0 else 1 : Int32) = 0) → r_fits (fun r1 S1 => ((r1 = 0) → r_goThrough_J66 post K7 S1 sw (nI i) (nI i) 2) ∧ ((¬ r1 = 0) → r_goThrough_J66 post K7 S1 sw (nI i) (nI i) 1)) S (nI i)) ∧ ((¬ (if (S 151 i) = (if nI i = sw then 1 else 0 : Int32) then 0 else 1 : Int32) = 0) → r_goThrough_J66 post K7 S sw (nI i) (nI i) 0) := by
  have hlen := hW.2.2.1
  have put : ∀ v, RD (up2 S 152 i v) D ∧ (up2 S 152 i v) 152 i = v ∧ (∀ j, j ≠ i → (up2 S 152 i v) 152 j = S 152 j) ∧ Fq tGo S0' (up2 S 152 i v) := by
    intro v
    refine ⟨rd_up hR (by decide) (by omega), by rw [up_at, if_pos ⟨rfl, rfl⟩], fun j hj => by rw [up_at, if_neg (by omega)], hF.tr (fq_up (Or.inl rfl))⟩
  have kp : ∀ S3, S3 = cpy2 (up2 (up2 S 152 i 1) 148 9 (nI D.length)) 154 155 (8 * 0) (8 * 0) (8 * D.length) → RD S3 D ∧ S3 152 i = 1 ∧ (∀ j, j ≠ i → S3 152 j = S 152 j) ∧ Fq tGo S0' S3 ∧ S3 148 9 = nI D.length ∧ RAc S3 i a ∧ ∀ (j : Nat) (o : Ob), D[j]? = some o → Rw 155 S3 j o := by
    intro S3 h3
    have hR2 : RD (up2 (up2 S 152 i 1) 148 9 (nI D.length)) D := rd_up (put 1).1 (by decide) (by omega)
    have hoth : ∀ x c, x ≠ 155 → x ≠ 152 → ¬ (x = 148 ∧ c = 9) → S3 x c = S x c := by
      intro x c h1 h2 h4
      rw [h3, cpy_at, if_neg (by omega), up_at, if_neg (by omega), up_at, if_neg (by omega)]
    refine ⟨?_, ?_, ?_, ?_, ?_, ?_, ?_⟩
    · rw [h3]
      refine ⟨?_, fun j o hj => rw_cpy_out (hR2.2 j o hj) (Or.inl (by decide))⟩
      rw [cpy_at, if_neg (by omega)]
      exact hR2.1
    · rw [h3, cpy_at, if_neg (by omega), up_at, if_neg (by omega), up_at, if_pos ⟨rfl, rfl⟩]
    · intro j hj
      rw [h3, cpy_at, if_neg (by omega), up_at, if_neg (by omega), up_at, if_neg (by omega)]
    · rw [h3]
      exact ((put 1).2.2.2.tr (fq_up (Or.inr (Or.inr (Or.inr (Or.inr ⟨rfl, Or.inr (Or.inl rfl)⟩)))))).tr (fq_cpy (fun _ => Or.inr (Or.inr (Or.inl rfl))))
    · rw [h3, cpy_at, if_neg (by omega), up_at, if_pos ⟨rfl, rfl⟩]
    · obtain ⟨g, g0, g1, g2, g3⟩ := hA
      refine ⟨?_, ?_, ?_, ?_, ?_⟩
      · rw [hoth _ _ (by omega) (by omega) (by omega)]; exact g
      · rw [hoth _ _ (by omega) (by omega) (by omega)]; exact g0
      · rw [hoth _ _ (by omega) (by omega) (by omega)]; exact g1
      · rw [hoth _ _ (by omega) (by omega) (by omega)]; exact g2
      · rw [hoth _ _ (by omega) (by omega) (by omega)]; exact g3
    · intro j o hj
      have hjl := at_lt hj
      rw [h3]
      have := rw_cpy (a := 154) (b := 155) (k0 := 0) (j0 := 0) (m := j) (n := D.length) (S := up2 (up2 S 152 i 1) 148 9 (nI D.length)) (o := o) (by rw [Nat.zero_add]; exact hR2.2 j o hj) hjl
      rwa [Nat.zero_add] at this
  rcases hs with ⟨h0, rfl, rfl⟩ | ⟨h0, rfl, hY⟩ | ⟨h0, rfl, hN, rfl⟩
  · rw [if_neg (fun q => h0 (hon.mpr q))]
    refine ⟨fun h => absurd h (by decide), fun _ => j66_skip hi (by decide) ?_⟩
    obtain ⟨p1, p2, p3, p4⟩ := put 0
    exact hp _ p1 p2 p3 p4
  · rw [if_pos (hon.mp h0)]
    refine ⟨fun _ => hY.1 _ S hR hA ⟨fun h => absurd h (by decide), fun _ => j66_go hi hR.1 (by omega) ?_⟩, fun h => absurd rfl h⟩
    generalize h3 : cpy2 (up2 (up2 S 152 i 1) 148 9 (nI D.length)) 154 155 (8 * 0) (8 * 0) (8 * D.length) = S3
    obtain ⟨k1, k2, k3, k4, k5, k6, k7⟩ := kp S3 h3.symm
    refine hY.2.1 _ S3 k1 k6 (fun S4 hR4 hF4 => hold_yes hR4 hY.2.2.1 ⟨fun _ => ?_, fun h => absurd h (by decide)⟩)
    rw [q_1]
    refine hp S4 hR4 ((hF4 _ _ (by unfold tAc; omega)).trans k2) (fun j hj => (hF4 _ _ (by unfold tAc; omega)).trans (k3 j hj)) (k4.tr (hF4.mono tAc_Go))
  · rw [if_pos (hon.mp h0)]
    refine ⟨fun _ => ?_, fun h => absurd rfl h⟩
    rcases hN.1 with hf | ⟨hf, D1, hl1, hL, hact⟩
    · refine hf _ S hR hA ⟨fun _ => j66_skip hi (by decide) ?_, fun h => absurd rfl h⟩
      obtain ⟨p1, p2, p3, p4⟩ := put 2
      exact hp _ p1 p2 p3 p4
    · refine hf _ S hR hA ⟨fun h => absurd h (by decide), fun _ => j66_go hi hR.1 (by omega) ?_⟩
      generalize h3 : cpy2 (up2 (up2 S 152 i 1) 148 9 (nI D'.length)) 154 155 (8 * 0) (8 * 0) (8 * D'.length) = S3
      obtain ⟨k1, k2, k3, k4, k5, k6, k7⟩ := kp S3 h3.symm
      refine hact _ S3 k1 k6 (fun S4 hR4 hF4 => hold_no hR4 hl1 hL ⟨fun h => absurd rfl h, fun _ => ⟨q_in (by omega) (by omega), fun S5 h5 S6 h6 => ?_⟩⟩)
      rw [nI_clamp (show i < 2 ^ 31 by omega)] at h5
      have e9 : S5 148 9 = nI D'.length := by rw [h5, up_at, if_neg (by omega)]; exact (hF4 _ _ (by unfold tAc; omega)).trans k5
      rw [e9] at h6
      have hF6 : Fq tGo S0' S6 := by
        rw [h6, h5]
        exact ((k4.tr (hF4.mono tAc_Go)).tr (fq_up (Or.inl rfl))).tr (fq_up (Or.inr (Or.inr (Or.inr (Or.inr ⟨rfl, Or.inl rfl⟩)))))
      refine back_ok (len := D'.length) (by rw [h6, up_at, if_pos ⟨rfl, rfl⟩]) (by omega) ?_
      rw [q_1]
      refine hp _ ⟨?_, fun j o hj => ?_⟩ ?_ ?_ (hF6.tr (fq_cpy (fun _ => Or.inr (Or.inl rfl))))
      · rw [cpy_at, if_neg (by omega), h6, up_at, if_pos ⟨rfl, rfl⟩]
      · have hjl := at_lt hj
        have hw6 : Rw 155 S6 j o := rw_of (k7 j o hj) (fun c _ => by rw [h6, up_at, if_neg (by omega), h5, up_at, if_neg (by omega)]; exact hF4 _ _ (by unfold tAc; omega))
        have := rw_cpy (a := 155) (b := 154) (k0 := 0) (j0 := 0) (m := j) (n := D'.length) (S := S6) (o := o) (by rw [Nat.zero_add]; exact hw6) hjl
        rwa [Nat.zero_add] at this
      · rw [cpy_at, if_neg (by omega), h6, up_at, if_neg (by omega), h5, up_at, if_pos ⟨rfl, rfl⟩]
      · intro j hj
        rw [cpy_at, if_neg (by omega), h6, up_at, if_neg (by omega), h5, up_at, if_neg (by omega)]
        exact (hF4 _ _ (by unfold tAc; omega)).trans (k3 j hj)
theorem ra_fq {S S' : Mem} {i : Nat} {a : Ac} (h : RAc S i a) (hF : Fq tGo S S') : RAc S' i a := by
  obtain ⟨g, g0, g1, g2, g3⟩ := h
  refine ⟨?_, ?_, ?_, ?_, ?_⟩
  · rw [hF _ _ (by unfold tGo; omega)]; exact g
  · rw [hF _ _ (by unfold tGo; omega)]; exact g0
  · rw [hF _ _ (by unfold tGo; omega)]; exact g1
  · rw [hF _ _ (by unfold tGo; omega)]; exact g2
  · rw [hF _ _ (by unfold tGo; omega)]; exact g3
theorem go_ok {post : Mem → Prop} {S : Mem} {a : Nat → Ac} {on : Nat → Prop} {m : Nat} {Ds : Nat → List Ob} {ef : Nat → Int32} {sw : Int32} (hS : Seq a on m Ds ef) (hm : m ≤ 24) (hc : S 148 1 = nI m) (hA : ∀ i, i < m → RAc S i (a i)) (hon : ∀ i, i < m → (on i ↔ S 151 i = (if nI i = sw then 1 else 0 : Int32))) (hp : ∀ S', RD S' (Ds m) → (∀ i, i < m → S' 152 i = ef i) → Fq tGo S S' → post S') : r_goThrough post S sw := by
  have key : ∀ (r i : Nat) (S1 : Mem), i + r = m → RD S1 (Ds i) → (∀ j, j < i → S1 152 j = ef j) → Fq tGo S S1 → r_goThrough_L7 post (r + 1) S1 sw (nI i) := by
    intro r
    induction r with
    | zero =>
      intro i S1 hi hR he hF
      have : i = m := by omega
      subst this
      unfold r_goThrough_L7
      rw [hF 148 1 (by unfold tGo; omega), hc]
      exact ⟨fun _ => hp S1 hR he hF, fun h => absurd (Int32.le_refl _) h⟩
    | succ r ih =>
      intro i S1 hi hR he hF
      have h151 : S1 151 i = S 151 i := hF 151 i (by unfold tGo; omega)
      unfold r_goThrough_L7
      rw [hF 148 1 (by unfold tGo; omega), hc, q_le (by omega) (by omega), nI_clamp (show i < 2 ^ 31 by omega)]
      refine ⟨fun h => absurd h (by omega), fun _ => ⟨q_in (by omega) (by omega), ?_⟩⟩
      refine go_one (S0' := S) (by omega) (seq_wf hS i (by omega)) (hS.2 i (by omega)) hR (ra_fq (hA i (by omega)) hF) (by rw [h151]; exact hon i (by omega)) hF (fun S2 hR2 e1 e2 hF2 => ?_)
      refine ih (i + 1) S2 (by omega) hR2 (fun j hj => ?_) hF2
      by_cases hji : j = i
      · rw [hji]; exact e1
      · rw [e2 j hji]; exact he j (by omega)
  intro S1 h1
  refine ⟨m + 1, key m 0 S1 (by omega) ?_ (fun j hj => absurd hj (by omega)) (h1 ▸ fq_up (Or.inr (Or.inr (Or.inr (Or.inr ⟨rfl, Or.inl rfl⟩)))))⟩
  rw [hS.1]
  exact ⟨by rw [h1, up_at, if_pos ⟨rfl, rfl⟩]; rfl, fun k o hk => by simp at hk⟩
theorem cd_out {S S' : Mem} {d : Nat} {D : List Ob} (h : CD S d D) (hG : Gd D) (hF : ∀ a i, d ≤ a → a < d + 28 → S' a i = S a i) : CD S' d D := by
  obtain ⟨hO, hI, hT⟩ := h
  refine ⟨orr_fq hO (hF _ _ (by omega) (by omega)) (fun i => hF _ _ (by omega) (by omega)), fun o ho => ?_, fun o ho => ?_, fun x hx hno => ?_⟩
  · have := gd_lt hG ho
    exact it_of (hI o ho) (fun i _ => hF _ _ (by omega) (by omega))
  · have := gd_lt hG ho
    rw [hF _ _ (by omega) (by omega)]
    exact hT.1 o ho
  · rw [hF _ _ (by omega) (by omega)]
    exact hT.2 x hx hno
def tPl (k : Nat) (a _i : Nat) : Prop := k + 1 ≤ a ∧ a ≤ k + 30
theorem tC_Pl {k : Nat} (a i : Nat) (h : tC (k + 1) a i) : tPl k a i := by unfold tC at h; unfold tPl; omega
theorem ca_fq {S S' : Mem} {q : Nat} {a : Ac} (h : CAc S q a) (hF : ∀ i, S' q i = S q i) (hF1 : ∀ i, S' (q + 1) i = S (q + 1) i) : CAc S' q a := by
  obtain ⟨g, g0, g1, g2, g3⟩ := h
  exact ⟨(hF 0).trans g, (hF1 0).trans g0, (hF1 1).trans g1, (hF1 2).trans g2, (hF1 3).trans g3⟩
theorem play_ok {post : Mem → Prop} {S : Mem} {k l1 m : Nat} {sw : Int32} {a : Nat → Ac} {on : Nat → Prop} {Ds : Nat → List Ob} {ef : Nat → Int32} {D0 : List Ob} (hS : Seq a on m Ds ef) (hm : m ≤ 24) (hk : l1 + 50 ≤ k) (hC : CD S (k + 1) D0) (hG : Gd D0) (hl : D0.length ≤ 12) (hA : ∀ i, i < m → CAc S (l1 + 1 + 2 * i) (a i)) (hon : ∀ i, i < m → (on i ↔ S (l1 + 1 + 2 * i) 1 = (if nI i = sw then 1 else 0 : Int32))) (hp : ∀ S', CD S' (k + 1) (Ds m) → (∀ i, i < m → S' (k + 29) i = ef i) → (∀ i, i < 24 → S' (k + 30) i = S (k + 29) i) → Fq (tPl k) S S' → post S') : co_play post S k l1 (nI m) sw := by
  intro S1 h1
  have hF1 : Fq (tPl k) S S1 := h1 ▸ fq_cpy (fun i => ⟨by omega, by omega⟩)
  have hb1 : ∀ i, i < 24 → S1 (k + 30) i = S (k + 29) i := by
    intro i hi
    rw [h1, cpy_at, if_pos ⟨rfl, by omega, by omega⟩]
    congr 1
    omega
  have hC1 : CD S1 (k + 1) D0 := cd_out hC hG (fun a i g1 g2 => by rw [h1, cpy_at, if_neg (by omega)])
  have key : ∀ (r i : Nat) (S2 : Mem), i + r = m → CD S2 (k + 1) (Ds i) → (∀ j, j < i → S2 (k + 29) j = ef j) → (∀ j, j < 24 → S2 (k + 30) j = S (k + 29) j) → Fq (tPl k) S S2 → co_play_L25 post (r + 1) S2 k l1 (nI m) sw (nI i) := by
    intro r
    induction r with
    | zero =>
      intro i S2 hi hC2 he hb hF
      have : i = m := by omega
      subst this
      unfold co_play_L25
      exact ⟨fun _ => hp S2 hC2 he hb hF, fun h => absurd (Int32.le_refl _) h⟩
    | succ r ih =>
      intro i S2 hi hC2 he hb hF
      have hfr : ∀ x, S2 (l1 + 1 + 2 * i) x = S (l1 + 1 + 2 * i) x := fun x => hF _ _ (by unfold tPl; omega)
      have hfr1 : ∀ x, S2 (l1 + 1 + 2 * i + 1) x = S (l1 + 1 + 2 * i + 1) x := fun x => hF _ _ (by unfold tPl; omega)
      have hA2 := ca_fq (hA i (by omega)) hfr hfr1
      have hon2 := hon i (by omega)
      rw [← hfr 1] at hon2
      have hGi := (seq_wf hS i (by omega)).2.1
      have next : ∀ S3 v, CD S3 (k + 1) (Ds (i + 1)) → Gd (Ds (i + 1)) → v = ef i → Fq (tC (k + 1)) S2 S3 → ∀ S4, S4 = up2 S3 (k + 29) i v → co_play_L25 post (r + 1) S4 k l1 (nI m) sw (nI (i + 1)) := by
        intro S3 v hC3 hG3 hv hF3 S4 h4
        refine ih (i + 1) S4 (by omega) (cd_out hC3 hG3 (fun a x g1 g2 => by rw [h4, up_at, if_neg (by omega)])) (fun j hj => ?_) (fun j hj => ?_) ((hF.tr (hF3.mono tC_Pl)).tr (h4 ▸ fq_up ⟨by omega, by omega⟩))
        · rw [h4, up_at]
          by_cases hji : j = i
          · rw [if_pos ⟨rfl, hji⟩, hv, hji]
          · rw [if_neg (by omega), hF3 _ _ (by unfold tC; omega)]
            exact he j (by omega)
        · rw [h4, up_at, if_neg (by omega), hF3 _ _ (by unfold tC; omega)]
          exact hb j hj
      have hG1 := (seq_wf hS (i + 1) (by omega)).2.1
      unfold co_play_L25
      rw [q_le (by omega) (by omega), nI_clamp (show i < 2 ^ 31 by omega), q_1]
      refine ⟨fun h => absurd h (by omega), fun _ => ⟨q_in (by omega) (by omega), ?_⟩⟩
      rcases hS.2 i (by omega) with ⟨h0, he0, hD⟩ | ⟨h0, he0, hY⟩ | ⟨h0, he0, hN, hD⟩
      · rw [if_neg (fun q => h0 (hon2.mpr q))]
        refine ⟨fun h => absurd h (by decide), fun _ => ⟨q_in (by omega) (by omega), fun S4 h4 => ?_⟩⟩
        exact next S2 0 (by rw [hD]; exact hC2) hG1 he0.symm Fq.rf S4 h4
      · rw [if_pos (hon2.mp h0)]
        refine ⟨fun _ => ⟨q_in (by omega) (by omega), ?_⟩, fun h => absurd rfl h⟩
        refine hY.2.2.2.1 _ S2 (k + 1) (l1 + 1 + 2 * i) hC2 hA2 (Or.inl (by omega)) (fun S3 hC3 hF3 => ⟨q_in (by omega) (by omega), fun S4 h4 => ?_⟩)
        rw [if_neg (show ¬ (1 : Int32) = 0 by decide)] at h4
        exact next S3 1 hC3 hG1 he0.symm hF3 S4 h4
      · rw [if_pos (hon2.mp h0)]
        refine ⟨fun _ => ⟨q_in (by omega) (by omega), ?_⟩, fun h => absurd rfl h⟩
        refine hN.2 _ S2 (k + 1) (l1 + 1 + 2 * i) hC2 hA2 (Or.inl (by omega)) (fun S3 hC3 hF3 => ⟨q_in (by omega) (by omega), fun S4 h4 => ?_⟩)
        rw [if_pos (show (0 : Int32) = 0 from rfl)] at h4
        exact next S3 2 (by rw [hD]; exact hC3) hG1 he0.symm hF3 S4 h4
  unfold cw_clear
  rw [hC1.1.1]
  refine remove_ok (A := []) (B := D0) (C := []) (f := 0) (t := D0.length) (by simpa using hC1) (by simpa using hG) (by simpa using hl) rfl (by simp) (fun S2 hC2 hF2 => ⟨m + 1, ?_⟩)
  refine key m 0 S2 (by omega) (by rw [hS.1]; exact hC2) (fun j hj => absurd hj (by omega)) (fun j hj => ?_) (hF1.tr (hF2.mono tC_Pl))
  rw [hF2 _ _ (by unfold tC; omega)]
  exact hb1 j hj
