/-- the objects from i to before e -/
def seg (D : List Ob) (i e : Nat) : List Ob := (D.drop i).take (e - i)
theorem seg_nil (D : List Ob) (e : Nat) : seg D e e = [] := by unfold seg; rw [Nat.sub_self, List.take_zero]
theorem seg_cons {D : List Ob} {i e : Nat} {o : Ob} (h : D[i]? = some o) (he : i < e) : seg D i e = o :: seg D (i + 1) e := by
  unfold seg
  obtain ⟨h1, h2⟩ := List.getElem?_eq_some_iff.mp h
  rw [List.drop_eq_getElem_cons h1, h2, show e - i = (e - (i + 1)) + 1 by omega, List.take_succ_cons]
def lo (B : List Ob) (f : Ob → Int32) (a : Int32) : Int32 := B.foldl (fun a o => if o.fm = 3 then a else if a ≤ f o then a else f o) a
def hi (B : List Ob) (f : Ob → Int32) (a : Int32) : Int32 := B.foldl (fun a o => if o.fm = 3 then a else if f o ≤ a then a else f o) a
def t3 (a i : Nat) : Prop := a = 148 ∧ 12 ≤ i ∧ i ≤ 15
theorem t3_Ac (a i : Nat) (h : t3 a i) : tAc a i := by unfold t3 at h; unfold tAc; omega
theorem rd_fq3 {S S' : Mem} {D : List Ob} (h : RD S D) (hF : Fq t3 S S') : RD S' D :=
  ⟨(hF 148 7 (by unfold t3; omega)).trans h.1, fun k o hk => rw_of (h.2 k o hk) (fun c _ => hF _ _ (by unfold t3; omega))⟩
theorem findBox_ok {post : Mem → Prop} {S : Mem} {D : List Ob} (hR : RD S D) (hl : D.length ≤ 13) {k e : Nat} (hke : k ≤ e) (he : e ≤ D.length) (hp : ∀ S', Fq t3 S S' → S' 148 12 = lo (seg D k e) Ob.l 100000 → S' 148 13 = lo (seg D k e) Ob.t 100000 → S' 148 14 = hi (seg D k e) (fun o => o.l + o.w) (-100000) → S' 148 15 = hi (seg D k e) (fun o => o.t + o.h) (-100000) → post S') : r_findBox post S (nI k) (nI e) := by
  have key : ∀ (m i : Nat) (S1 : Mem), i + m = e → Fq t3 S S1 → (∀ S', Fq t3 S S' → S' 148 12 = lo (seg D i e) Ob.l (S1 148 12) → S' 148 13 = lo (seg D i e) Ob.t (S1 148 13) → S' 148 14 = hi (seg D i e) (fun o => o.l + o.w) (S1 148 14) → S' 148 15 = hi (seg D i e) (fun o => o.t + o.h) (S1 148 15) → post S') → r_findBox_L26 post (m + 1) S1 (nI e) (nI i) := by
    intro m
    induction m with
    | zero =>
      intro i S1 hi hF hq
      have : i = e := by omega
      subst this
      unfold r_findBox_L26
      refine ⟨fun _ => hq S1 hF ?_ ?_ ?_ ?_, fun h => absurd (Int32.le_refl _) h⟩ <;> rw [seg_nil] <;> rfl
    | succ m ih =>
      intro i S1 hi_ hF hq
      obtain ⟨o, ho⟩ := at_some (D := D) (i := i) (by omega)
      have hr := rd_at (rd_fq3 hR hF) ho
      have hsg := seg_cons ho (show i < e by omega)
      unfold r_findBox_L26
      rw [q_le (by omega) (by omega), ix1 (by omega), ix2 (by omega), ix3 (by omega), ix4 (by omega), ix5 (by omega), hr.2.1, q_1]
      refine ⟨fun h => absurd h (by omega), fun _ => ⟨vi1 (by omega), fun h3 => ?_, fun h3 => ?_⟩⟩
      · refine ih (i + 1) S1 (by omega) hF (fun S' g1 g2 g3 g4 g5 => hq S' g1 ?_ ?_ ?_ ?_)
        · rw [hsg, g2]; unfold lo; rw [List.foldl_cons, if_pos h3]
        · rw [hsg, g3]; unfold lo; rw [List.foldl_cons, if_pos h3]
        · rw [hsg, g4]; unfold hi; rw [List.foldl_cons, if_pos h3]
        · rw [hsg, g5]; unfold hi; rw [List.foldl_cons, if_pos h3]
      · obtain ⟨e2, e3, e4, e5⟩ := hr.2.2.2.2 h3
        refine ⟨vi2 (by omega), vi4 (by omega), vi3 (by omega), vi5 (by omega), vi2 (by omega), fun _ => vi2 (by omega), fun S2 h2 => ⟨vi3 (by omega), fun _ => vi3 (by omega), fun S3 h3' S4 h4 S5 h5 => ?_⟩⟩
        have a3 : S2 154 (8 * i + 3) = o.t := by rw [h2, up_at, if_neg (by omega)]; exact e3
        rw [e3, e5] at h5
        rw [e2, e4] at h4
        rw [a3] at h3'
        rw [e2] at h2
        have hF2 : Fq t3 S S2 := hF.tr (h2 ▸ fq_up ⟨rfl, by omega, by omega⟩)
        have hF3 : Fq t3 S S3 := hF2.tr (h3' ▸ fq_up ⟨rfl, by omega, by omega⟩)
        have hF4 : Fq t3 S S4 := hF3.tr (h4 ▸ fq_up ⟨rfl, by omega, by omega⟩)
        have hF5 : Fq t3 S S5 := hF4.tr (h5 ▸ fq_up ⟨rfl, by omega, by omega⟩)
        have c13 : S2 148 13 = S1 148 13 := by rw [h2, up_at, if_neg (by omega)]
        have c14 : S3 148 14 = S1 148 14 := by rw [h3', up_at, if_neg (by omega), h2, up_at, if_neg (by omega)]
        have c15 : S4 148 15 = S1 148 15 := by rw [h4, up_at, if_neg (by omega), h3', up_at, if_neg (by omega), h2, up_at, if_neg (by omega)]
        rw [c13] at h3'
        rw [c14] at h4
        rw [c15] at h5
        have b2 : S5 148 12 = if S1 148 12 ≤ o.l then S1 148 12 else o.l := by
          rw [h5, up_at, if_neg (by omega), h4, up_at, if_neg (by omega), h3', up_at, if_neg (by omega), h2, up_at, if_pos ⟨rfl, rfl⟩]
        have b3 : S5 148 13 = if S1 148 13 ≤ o.t then S1 148 13 else o.t := by
          rw [h5, up_at, if_neg (by omega), h4, up_at, if_neg (by omega), h3', up_at, if_pos ⟨rfl, rfl⟩]
        have b4 : S5 148 14 = if o.l + o.w ≤ S1 148 14 then S1 148 14 else o.l + o.w := by
          rw [h5, up_at, if_neg (by omega), h4, up_at, if_pos ⟨rfl, rfl⟩]
        have b5 : S5 148 15 = if o.t + o.h ≤ S1 148 15 then S1 148 15 else o.t + o.h := by
          rw [h5, up_at, if_pos ⟨rfl, rfl⟩]
        refine ih (i + 1) S5 (by omega) hF5 (fun S' g1 g2 g3 g4 g5 => hq S' g1 ?_ ?_ ?_ ?_)
        · rw [hsg, g2, b2]; unfold lo; rw [List.foldl_cons, if_neg h3]
        · rw [hsg, g3, b3]; unfold lo; rw [List.foldl_cons, if_neg h3]
        · rw [hsg, g4, b4]; unfold hi; rw [List.foldl_cons, if_neg h3]
        · rw [hsg, g5, b5]; unfold hi; rw [List.foldl_cons, if_neg h3]
  intro S1 h1 S2 h2 S3 h3 S4 h4
  have hF1 : Fq t3 S S1 := h1 ▸ fq_up ⟨rfl, by omega, by omega⟩
  have hF2 : Fq t3 S S2 := hF1.tr (h2 ▸ fq_up ⟨rfl, by omega, by omega⟩)
  have hF3 : Fq t3 S S3 := hF2.tr (h3 ▸ fq_up ⟨rfl, by omega, by omega⟩)
  have hF4 : Fq t3 S S4 := hF3.tr (h4 ▸ fq_up ⟨rfl, by omega, by omega⟩)
  refine ⟨e - k + 1, key (e - k) k S4 (by omega) hF4 (fun S' g1 g2 g3 g4 g5 => hp S' g1 ?_ ?_ ?_ ?_)⟩
  · rw [g2, h4, up_at, if_neg (by omega), h3, up_at, if_neg (by omega), h2, up_at, if_neg (by omega), h1, up_at, if_pos ⟨rfl, rfl⟩]
  · rw [g3, h4, up_at, if_neg (by omega), h3, up_at, if_neg (by omega), h2, up_at, if_pos ⟨rfl, rfl⟩]
  · rw [g4, h4, up_at, if_neg (by omega), h3, up_at, if_pos ⟨rfl, rfl⟩]
  · rw [g5, h4, up_at, if_pos ⟨rfl, rfl⟩]
/-- f on the objects from k to before e -/
def mp (D : List Ob) (k e : Nat) (f : Ob → Ob) : List Ob := D.mapIdx (fun i o => if k ≤ i ∧ i < e then f o else o)
theorem mp_len (D : List Ob) (k e : Nat) (f : Ob → Ob) : (mp D k e f).length = D.length := by unfold mp; rw [List.length_mapIdx]
theorem mp_at (D : List Ob) (k e : Nat) (f : Ob → Ob) (i : Nat) : (mp D k e f)[i]? = (D[i]?).map (fun o => if k ≤ i ∧ i < e then f o else o) := by unfold mp; rw [List.getElem?_mapIdx]
theorem mp_nil (D : List Ob) (k : Nat) (f : Ob → Ob) : mp D k k f = D := by
  apply List.ext_getElem?
  intro i
  rw [mp_at]
  cases h : D[i]? with
  | none => rfl
  | some o => rw [Option.map_some, if_neg (by omega)]
theorem rd_step {S S' : Mem} {D : List Ob} {k i : Nat} {f : Ob → Ob} {o : Ob} (hR : RD S (mp D k i f)) (ho : D[i]? = some o) (hk : k ≤ i) (hn : S' 148 7 = S 148 7) (hr : Rw 154 S' i (f o)) (hF : ∀ j, (j < 8 * i ∨ 8 * i + 8 ≤ j) → S' 154 j = S 154 j) : RD S' (mp D k (i + 1) f) := by
  refine ⟨by rw [hn, hR.1, mp_len, mp_len], fun j x hx => ?_⟩
  rw [mp_at] at hx
  by_cases hji : j = i
  · subst hji
    rw [ho, Option.map_some, if_pos ⟨hk, by omega⟩] at hx
    exact Option.some.inj hx ▸ hr
  · refine rw_of (hR.2 j x ?_) (fun c _ => hF _ (by omega))
    rw [mp_at, ← hx]
    congr 1
    funext y
    by_cases h : k ≤ j ∧ j < i
    · rw [if_pos h, if_pos ⟨h.1, by omega⟩]
    · rw [if_neg h, if_neg (by omega)]
def shf (x y : Int32) (o : Ob) : Ob := if o.fm = 3 then o else mkOb o.nm o.fm (o.l + x) (o.t + y) o.w o.h o.c o.p
def pnt (b : Int32) (o : Ob) : Ob := if o.fm = 3 then o else mkOb o.nm o.fm o.l o.t o.w o.h b o.p
def mx1 (v : Int32) : Int32 := if 1 ≤ v then v else 1
def scl (bl bt p q : Int32) (o : Ob) : Ob := if o.fm = 3 then o else mkOb o.nm o.fm (bl + ((o.l - bl) * p) / q) (bt + ((o.t - bt) * p) / q) (mx1 ((o.w * p) / q)) (mx1 ((o.h * p) / q)) o.c o.p
theorem shift_ok {post : Mem → Prop} {S : Mem} {D : List Ob} (hR : RD S D) (hl : D.length ≤ 13) {k e : Nat} (hke : k ≤ e) (he : e ≤ D.length) {x y : Int32} (hp : ∀ S', RD S' (mp D k e (shf x y)) → Fq t1 S S' → post S') : r_shift post S (nI k) (nI e) x y := by
  have key : ∀ (m i : Nat) (S1 : Mem), i + m = e → k ≤ i → RD S1 (mp D k i (shf x y)) → Fq t1 S S1 → r_shift_L3 post (m + 1) S1 (nI e) x y (nI i) := by
    intro m
    induction m with
    | zero =>
      intro i S1 hi hki hR1 hF
      have : i = e := by omega
      subst this
      unfold r_shift_L3
      exact ⟨fun _ => hp S1 hR1 hF, fun h => absurd (Int32.le_refl _) h⟩
    | succ m ih =>
      intro i S1 hi hki hR1 hF
      obtain ⟨o, ho⟩ := at_some (D := D) (i := i) (by omega)
      have hr : Rw 154 S1 i o := hR1.2 i o (by rw [mp_at, ho, Option.map_some, if_neg (by omega)])
      unfold r_shift_L3
      rw [q_le (by omega) (by omega), ix2 (by omega), ix3 (by omega), q_1]
      refine ⟨fun h => absurd h (by omega), fun _ => ⟨vi2 (by omega), vi2 (by omega), fun S2 h2 => ⟨vi3 (by omega), vi3 (by omega), fun S3 h3 => ?_⟩⟩⟩
      have hall : ∀ a j, S3 a j = if a = 154 ∧ j = 8 * i + 3 then S1 154 (8 * i + 3) + y else if a = 154 ∧ j = 8 * i + 2 then S1 154 (8 * i + 2) + x else S1 a j := by
        intro a j
        rw [h3, up_at, h2, up_at, up_at, if_neg (show ¬ (154 = 154 ∧ 8 * i + 3 = 8 * i + 2) by omega)]
      refine ih (i + 1) S3 (by omega) (by omega) (rd_step hR1 ho hki ?_ ?_ ?_) (hF.tr ?_)
      · rw [hall, if_neg (by omega), if_neg (by omega)]
      · obtain ⟨r0, r1, r6, r7, rb⟩ := hr
        unfold shf
        split
        · rename_i h3'
          refine ⟨?_, ?_, ?_, ?_, fun h => absurd h3' h⟩
          · rw [hall, if_neg (by omega), if_neg (by omega)]; exact r0
          · rw [hall, if_neg (by omega), if_neg (by omega)]; exact r1
          · rw [hall, if_neg (by omega), if_neg (by omega)]; exact r6
          · rw [hall, if_neg (by omega), if_neg (by omega)]; exact r7
        · rename_i h3'
          obtain ⟨e2, e3, e4, e5⟩ := rb h3'
          refine ⟨?_, ?_, ?_, ?_, fun h => ⟨?_, ?_, ?_, ?_⟩⟩
          · rw [hall, if_neg (by omega), if_neg (by omega)]; exact r0
          · rw [hall, if_neg (by omega), if_neg (by omega)]; exact r1
          · rw [hall, if_neg (by omega), if_neg (by omega)]; exact r6
          · rw [hall, if_neg (by omega), if_neg (by omega)]; exact r7
          · rw [hall, if_neg (by omega), if_pos ⟨rfl, rfl⟩, e2]; rfl
          · rw [hall, if_pos ⟨rfl, rfl⟩, e3]; rfl
          · rw [hall, if_neg (by omega), if_neg (by omega)]; exact e4
          · rw [hall, if_neg (by omega), if_neg (by omega)]; exact e5
      · intro j hj
        rw [hall, if_neg (by omega), if_neg (by omega)]
      · intro a j hn
        unfold t1 at hn
        rw [hall, if_neg (by omega), if_neg (by omega)]
  refine ⟨e - k + 1, key (e - k) k S (by omega) (Nat.le_refl _) (by rw [mp_nil]; exact hR) Fq.rf⟩
theorem paint_ok {post : Mem → Prop} {S : Mem} {D : List Ob} (hR : RD S D) (hl : D.length ≤ 13) (hc : ∀ o ∈ D, o.fm = 3 → o.c = -1) {k e : Nat} (hke : k ≤ e) (he : e ≤ D.length) {b : Int32} (hp : ∀ S', RD S' (mp D k e (pnt b)) → Fq t1 S S' → post S') : ∃ n, r_act_L155 post n S (nI k) b (nI e) := by
  have key : ∀ (m i : Nat) (S1 : Mem), i + m = e → k ≤ i → RD S1 (mp D k i (pnt b)) → Fq t1 S S1 → r_act_L155 post (m + 1) S1 (nI i) b (nI e) := by
    intro m
    induction m with
    | zero =>
      intro i S1 hi hki hR1 hF
      have : i = e := by omega
      subst this
      unfold r_act_L155
      exact ⟨fun _ => hp S1 hR1 hF, fun h => absurd (Int32.le_refl _) h⟩
    | succ m ih =>
      intro i S1 hi hki hR1 hF
      obtain ⟨o, ho⟩ := at_some (D := D) (i := i) (by omega)
      have hr : Rw 154 S1 i o := hR1.2 i o (by rw [mp_at, ho, Option.map_some, if_neg (by omega)])
      unfold r_act_L155
      rw [q_le (by omega) (by omega), ix1 (by omega), ix6 (by omega), hr.2.1, q_1]
      refine ⟨fun h => absurd h (by omega), fun _ => ⟨vi1 (by omega), vi6 (by omega), fun S2 h2 => ?_⟩⟩
      refine ih (i + 1) S2 (by omega) (by omega) (rd_step hR1 ho hki ?_ ?_ ?_) (hF.tr (h2 ▸ fq_up (Or.inl rfl)))
      · rw [h2, up_at, if_neg (by omega)]
      · obtain ⟨r0, r1, r6, r7, rb⟩ := hr
        unfold pnt
        split
        · rename_i h3'
          rw [if_pos h3'] at h2
          refine ⟨?_, ?_, ?_, ?_, fun h => absurd h3' h⟩
          · rw [h2, up_at, if_neg (by omega)]; exact r0
          · rw [h2, up_at, if_neg (by omega)]; exact r1
          · rw [h2, up_at, if_pos ⟨rfl, rfl⟩]; exact (hc o (at_mem ho) h3').symm
          · rw [h2, up_at, if_neg (by omega)]; exact r7
        · rename_i h3'
          rw [if_neg h3'] at h2
          obtain ⟨e2, e3, e4, e5⟩ := rb h3'
          refine ⟨?_, ?_, ?_, ?_, fun h => ⟨?_, ?_, ?_, ?_⟩⟩
          · rw [h2, up_at, if_neg (by omega)]; exact r0
          · rw [h2, up_at, if_neg (by omega)]; exact r1
          · rw [h2, up_at, if_pos ⟨rfl, rfl⟩]; rfl
          · rw [h2, up_at, if_neg (by omega)]; exact r7
          · rw [h2, up_at, if_neg (by omega)]; exact e2
          · rw [h2, up_at, if_neg (by omega)]; exact e3
          · rw [h2, up_at, if_neg (by omega)]; exact e4
          · rw [h2, up_at, if_neg (by omega)]; exact e5
      · intro j hj
        rw [h2, up_at, if_neg (by omega)]
  exact ⟨e - k + 1, key (e - k) k S (by omega) (Nat.le_refl _) (by rw [mp_nil]; exact hR) Fq.rf⟩
theorem scale_ok {post : Mem → Prop} {S : Mem} {D : List Ob} (hR : RD S D) (hl : D.length ≤ 13) {k e : Nat} (hke : k ≤ e) (he : e ≤ D.length) {p q : Int32} (hq : ¬ q = 0) (hp : ∀ S', RD S' (mp D k e (scl (lo (seg D k e) Ob.l 100000) (lo (seg D k e) Ob.t 100000) p q)) → Fq tAc S S' → post S') : r_scale post S (nI k) (nI e) p q := by
  refine findBox_ok hR hl hke he (fun S0' hF0 g12 g13 _ _ => ?_)
  have key : ∀ (m i : Nat) (S1 : Mem), i + m = e → k ≤ i → RD S1 (mp D k i (scl (lo (seg D k e) Ob.l 100000) (lo (seg D k e) Ob.t 100000) p q)) → Fq t1 S0' S1 → r_scale_L9 post (m + 1) S1 (nI e) p q (nI i) := by
    intro m
    induction m with
    | zero =>
      intro i S1 hi hki hR1 hF
      have : i = e := by omega
      subst this
      unfold r_scale_L9
      exact ⟨fun _ => hp S1 hR1 ((hF0.mono t3_Ac).tr (hF.mono t1_Ac)), fun h => absurd (Int32.le_refl _) h⟩
    | succ m ih =>
      intro i S1 hi hki hR1 hF
      obtain ⟨o, ho⟩ := at_some (D := D) (i := i) (by omega)
      have hr : Rw 154 S1 i o := hR1.2 i o (by rw [mp_at, ho, Option.map_some, if_neg (by omega)])
      have k12 : S1 148 12 = lo (seg D k e) Ob.l 100000 := (hF 148 12 (by unfold t1; omega)).trans g12
      have k13 : S1 148 13 = lo (seg D k e) Ob.t 100000 := (hF 148 13 (by unfold t1; omega)).trans g13
      obtain ⟨r0, r1, r6, r7, rb⟩ := hr
      unfold r_scale_L9
      rw [q_le (by omega) (by omega), ix1 (by omega), ix2 (by omega), ix3 (by omega), ix4 (by omega), ix5 (by omega), r1, q_1]
      refine ⟨fun h => absurd h (by omega), fun _ => ⟨vi1 (by omega), fun h3 => ?_, fun h3 => ?_⟩⟩
      · refine ih (i + 1) S1 (by omega) (by omega) (rd_step hR1 ho hki rfl ?_ (fun _ _ => rfl)) hF
        unfold scl
        rw [if_pos h3]
        exact ⟨r0, r1, r6, r7, rb⟩
      · obtain ⟨e2, e3, e4, e5⟩ := rb h3
        refine ⟨vi4 (by omega), hq, vi5 (by omega), hq, vi2 (by omega), hq, vi2 (by omega), fun S2 h2 => ⟨vi3 (by omega), hq, vi3 (by omega), fun S3 h3' => ⟨vi4 (by omega), fun S4 h4 => ⟨vi5 (by omega), fun S5 h5 => ?_⟩⟩⟩⟩
        have hall : ∀ a j, S5 a j = if a = 154 ∧ j = 8 * i + 5 then mx1 ((o.h * p) / q) else if a = 154 ∧ j = 8 * i + 4 then mx1 ((o.w * p) / q) else if a = 154 ∧ j = 8 * i + 3 then lo (seg D k e) Ob.t 100000 + ((o.t - lo (seg D k e) Ob.t 100000) * p) / q else if a = 154 ∧ j = 8 * i + 2 then lo (seg D k e) Ob.l 100000 + ((o.l - lo (seg D k e) Ob.l 100000) * p) / q else S1 a j := by
          intro a j
          have m2 : S2 148 13 = lo (seg D k e) Ob.t 100000 := by rw [h2, up_at, if_neg (by omega)]; exact k13
          have m3 : S2 154 (8 * i + 3) = o.t := by rw [h2, up_at, if_neg (by omega)]; exact e3
          rw [h5, up_at, h4, up_at, h3', up_at, m2, m3, h2, up_at, k12, e2, e4, e5]
          rfl
        refine ih (i + 1) S5 (by omega) (by omega) (rd_step hR1 ho hki ?_ ?_ ?_) (hF.tr ?_)
        · rw [hall, if_neg (by omega), if_neg (by omega), if_neg (by omega), if_neg (by omega)]
        · unfold scl
          rw [if_neg h3]
          refine ⟨?_, ?_, ?_, ?_, fun h => ⟨?_, ?_, ?_, ?_⟩⟩
          · rw [hall, if_neg (by omega), if_neg (by omega), if_neg (by omega), if_neg (by omega)]; exact r0
          · rw [hall, if_neg (by omega), if_neg (by omega), if_neg (by omega), if_neg (by omega)]; exact r1
          · rw [hall, if_neg (by omega), if_neg (by omega), if_neg (by omega), if_neg (by omega)]; exact r6
          · rw [hall, if_neg (by omega), if_neg (by omega), if_neg (by omega), if_neg (by omega)]; exact r7
          · rw [hall, if_neg (by omega), if_neg (by omega), if_neg (by omega), if_pos ⟨rfl, rfl⟩]; rfl
          · rw [hall, if_neg (by omega), if_neg (by omega), if_pos ⟨rfl, rfl⟩]; rfl
          · rw [hall, if_neg (by omega), if_pos ⟨rfl, rfl⟩]; rfl
          · rw [hall, if_pos ⟨rfl, rfl⟩]; rfl
        · intro j hj
          rw [hall, if_neg (by omega), if_neg (by omega), if_neg (by omega), if_neg (by omega)]
        · intro a j hn
          unfold t1 at hn
          rw [hall, if_neg (by omega), if_neg (by omega), if_neg (by omega), if_neg (by omega)]
  exact ⟨e - k + 1, key (e - k) k S0' (by omega) (Nat.le_refl _) (by rw [mp_nil]; exact rd_fq3 hR hF0) Fq.rf⟩
/-- within the limits -/
def okO (o : Ob) : Prop := o.fm = 3 ∨ (¬ o.l < -200 ∧ ¬ o.t < -200 ∧ ¬ 200 < o.l + o.w ∧ ¬ 200 < o.t + o.h)
def Lim (D : List Ob) : Prop := D.length ≤ 12 ∧ ∀ (i : Nat) (o : Ob), D[i]? = some o → okO o
theorem hold_yes {post : Int32 → Mem → Prop} {S : Mem} {D : List Ob} (hR : RD S D) (hL : Lim D) (hp : post 1 S) : r_holdLimits post S := by
  have hl := hL.1
  have key : ∀ (m i : Nat), i + m = D.length → r_holdLimits_L17 post (m + 1) S 1 (nI i) := by
    intro m
    induction m with
    | zero =>
      intro i hi
      unfold r_holdLimits_L17
      rw [hR.1, q_le (by omega) (by omega)]
      exact ⟨fun _ => ⟨nar1, hp⟩, fun h => absurd (show D.length ≤ i by omega) h⟩
    | succ m ih =>
      intro i hi
      obtain ⟨o, ho⟩ := at_some (D := D) (i := i) (by omega)
      obtain ⟨r0, r1, r6, r7, rb⟩ := rd_at hR ho
      unfold r_holdLimits_L17
      rw [hR.1, q_le (by omega) (by omega), ix1 (by omega), ix2 (by omega), ix3 (by omega), ix4 (by omega), ix5 (by omega), r1, q_1]
      refine ⟨fun h => absurd h (by omega), fun _ => ⟨vi1 (by omega), fun h3 => ih (i + 1) (by omega), fun h3 => ?_⟩⟩
      obtain ⟨e2, e3, e4, e5⟩ := rb h3
      obtain ⟨c1, c2, c3, c4⟩ := (hL.2 i o ho).resolve_left h3
      refine ⟨fun _ => ⟨vi2 (by omega), fun _ => ⟨vi3 (by omega), fun _ => ⟨vi2 (by omega), vi4 (by omega), fun _ => ⟨vi3 (by omega), vi5 (by omega)⟩⟩⟩⟩, ?_⟩
      rw [e2, e3, e4, e5, if_neg (show ¬ (1 : Int32) = 0 by decide), if_neg c1, if_neg c2, if_neg c3, if_neg c4]
      exact ih (i + 1) (by omega)
  refine ⟨D.length + 1, ?_⟩
  rw [hR.1, if_neg (by rw [show (12 : Int32) = nI 12 from rfl, q_lt (by omega) (by omega)]; omega)]
  exact key D.length 0 (by omega)
theorem hold_no {post : Int32 → Mem → Prop} {S : Mem} {D : List Ob} (hR : RD S D) (hl : D.length ≤ 13) (hL : ¬ Lim D) (hp : post 0 S) : r_holdLimits post S := by
  have key : ∀ (m i : Nat) (g : Int32), i + m = D.length → (g = 0 ∨ (g = 1 ∧ ∃ (j : Nat) (o : Ob), i ≤ j ∧ D[j]? = some o ∧ ¬ okO o)) → r_holdLimits_L17 post (m + 1) S g (nI i) := by
    intro m
    induction m with
    | zero =>
      intro i g hi hg
      have hg0 : g = 0 := by
        rcases hg with h | ⟨-, j, o, h1, h2, -⟩
        · exact h
        · exact absurd (at_lt h2) (by omega)
      subst hg0
      unfold r_holdLimits_L17
      rw [hR.1, q_le (by omega) (by omega)]
      exact ⟨fun _ => ⟨nar0, hp⟩, fun h => absurd (show D.length ≤ i by omega) h⟩
    | succ m ih =>
      intro i g hi hg
      obtain ⟨o, ho⟩ := at_some (D := D) (i := i) (by omega)
      obtain ⟨r0, r1, r6, r7, rb⟩ := rd_at hR ho
      unfold r_holdLimits_L17
      rw [hR.1, q_le (by omega) (by omega), ix1 (by omega), ix2 (by omega), ix3 (by omega), ix4 (by omega), ix5 (by omega), r1, q_1]
      refine ⟨fun h => absurd h (by omega), fun _ => ⟨vi1 (by omega), fun h3 => ih (i + 1) g (by omega) ?_, fun h3 => ⟨fun _ => ⟨vi2 (by omega), fun _ => ⟨vi3 (by omega), fun _ => ⟨vi2 (by omega), vi4 (by omega), fun _ => ⟨vi3 (by omega), vi5 (by omega)⟩⟩⟩⟩, ?_⟩⟩⟩
      · rcases hg with h | ⟨h, j, x, h1, h2, h4⟩
        · exact Or.inl h
        · refine Or.inr ⟨h, j, x, ?_, h2, h4⟩
          rcases Nat.lt_or_ge i j with h5 | h5
          · omega
          · have : j = i := by omega
            subst this
            rw [Option.some.inj (h2.symm.trans ho)] at h4
            exact absurd (Or.inl h3) h4
      · obtain ⟨e2, e3, e4, e5⟩ := rb h3
        rw [e2, e3, e4, e5]
        refine ih (i + 1) _ (by omega) ?_
        rcases hg with h | ⟨h, j, x, h1, h2, h4⟩
        · exact Or.inl (if_pos h)
        · by_cases hok : okO o
          · obtain ⟨c1, c2, c3, c4⟩ := hok.resolve_left h3
            rw [if_neg (show ¬ g = 0 by rw [h]; decide), if_neg c1, if_neg c2, if_neg c3, if_neg c4]
            refine Or.inr ⟨rfl, j, x, ?_, h2, h4⟩
            rcases Nat.lt_or_ge i j with h5 | h5
            · omega
            · have : j = i := by omega
              subst this
              rw [Option.some.inj (h2.symm.trans ho)] at h4
              exact absurd hok h4
          · left
            rw [if_neg (show ¬ g = 0 by rw [h]; decide)]
            by_cases c1 : o.l < -200
            · exact if_pos c1
            rw [if_neg c1]
            by_cases c2 : o.t < -200
            · exact if_pos c2
            rw [if_neg c2]
            by_cases c3 : 200 < o.l + o.w
            · exact if_pos c3
            rw [if_neg c3]
            by_cases c4 : 200 < o.t + o.h
            · exact if_pos c4
            exact absurd (Or.inr ⟨c1, c2, c3, c4⟩) hok
  refine ⟨D.length + 1, ?_⟩
  rw [hR.1]
  refine key D.length 0 _ (by omega) ?_
  have h12' : (12 : Int32) < nI D.length ↔ 12 < D.length := by rw [show (12 : Int32) = nI 12 from rfl, q_lt (by omega) (by omega)]
  by_cases h12 : 12 < D.length
  · exact Or.inl (if_pos (h12'.mpr h12))
  · rw [if_neg (fun h => h12 (h12'.mp h))]
    refine Or.inr ⟨rfl, ?_⟩
    apply Classical.byContradiction
    intro hno
    refine hL ⟨by omega, fun i o ho => ?_⟩
    apply Classical.byContradiction
    intro hk
    exact hno ⟨i, o, by omega, ho, hk⟩
