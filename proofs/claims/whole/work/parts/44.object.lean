theorem lo_one {o : Ob} {f : Ob → Int32} (h3 : o.fm ≠ 3) (h : (f o).toInt < 100000) : lo [o] f 100000 = f o := by
  show (if o.fm = 3 then (100000 : Int32) else if (100000 : Int32) ≤ f o then 100000 else f o) = f o
  rw [if_neg h3, if_neg (by rw [Int32.le_iff_toInt_le, cK]; omega)]
theorem hi_one {o : Ob} {f : Ob → Int32} (h3 : o.fm ≠ 3) (h : -100000 < (f o).toInt) : hi [o] f (-100000) = f o := by
  show (if o.fm = 3 then (-100000 : Int32) else if f o ≤ (-100000 : Int32) then -100000 else f o) = f o
  rw [if_neg h3, if_neg (by rw [Int32.le_iff_toInt_le, cmK]; omega)]
theorem box_one {D : List Ob} {k e : Nat} {o : Ob} (hw : wfO o) (h3 : o.fm ≠ 3) (hs : seg D k e = [o]) : lo (seg D k e) Ob.l 100000 = o.l ∧ lo (seg D k e) Ob.t 100000 = o.t ∧ hi (seg D k e) (fun o => o.l + o.w) (-100000) - lo (seg D k e) Ob.l 100000 = o.w ∧ hi (seg D k e) (fun o => o.t + o.h) (-100000) - lo (seg D k e) Ob.t 100000 = o.h := by
  obtain ⟨-, h1, h2, h4, h5, h6, h7⟩ := wf_sh hw h3
  obtain ⟨s1, s2⟩ := wf_sums hw h3
  have a1 : lo (seg D k e) Ob.l 100000 = o.l := by rw [hs]; exact lo_one h3 (by omega)
  have a2 : lo (seg D k e) Ob.t 100000 = o.t := by rw [hs]; exact lo_one h3 (by omega)
  have a3 : hi (seg D k e) (fun o => o.l + o.w) (-100000) = o.l + o.w := by rw [hs]; exact hi_one (f := fun o => o.l + o.w) h3 (by omega)
  have a4 : hi (seg D k e) (fun o => o.t + o.h) (-100000) = o.t + o.h := by rw [hs]; exact hi_one (f := fun o => o.t + o.h) h3 (by omega)
  refine ⟨a1, a2, ?_, ?_⟩
  · rw [a1, a3, Int32.add_comm, Int32.add_sub_cancel]
  · rw [a2, a4, Int32.add_comm, Int32.add_sub_cancel]
theorem obj_seg {D : List Ob} {n : Nat} (hW : WF D n) {k : Nat} {o : Ob} (hk : D[k]? = some o) : ∃ e, Blk D k e ∧ (∃ m ∈ seg D k e, m.fm ≠ 3) ∧ (∀ m ∈ seg D k e, wfO m) ∧ (o.fm ≠ 3 → seg D k e = [o]) := by
  obtain ⟨u1, s1, z, sub, s2, u2, hD, hn, co, f1, f2, bl⟩ := sp_of hW ⟨o, at_mem hk, rfl⟩
  have hz : z ∈ D := by rw [hD]; simp
  have hob : z = o := gd_mem hW.2.1 hz (at_mem hk) hn
  subst hob
  subst hD
  obtain ⟨hB, hko, hseg, hmp, hat⟩ := ctx hW co f1 f2 bl
  have hkk := hW.2.1.1 _ _ _ _ hk hko rfl
  subst hkk
  refine ⟨_, hB, ?_, ?_, fun h3 => ?_⟩
  · rw [hseg]; exact bl_shape bl
  · rw [hseg]
    intro m hm
    obtain ⟨i, -, -, hi⟩ := hat m hm
    exact (hW.2.2.2 m (at_mem hi)).2
  · rw [hseg]
    rcases bl with ⟨-, h⟩ | ⟨h, -⟩
    · rw [h]
    · exact absurd h h3
theorem ctell_0 {post : Int32 → Mem → Prop} {S : Mem} {d : Nat} {D : List Ob} {n : Nat} (hC : CD S d D) (hW : WF D n) {k e : Nat} {o : Ob} (hk : D[k]? = some o) (hB : Blk D k e) (hsh : ∃ m ∈ seg D k e, m.fm ≠ 3) (hwf : ∀ m ∈ seg D k e, wfO m) (hp : post (nI o.nm) S) : cw_tell post S d (nI o.nm) 0 := by
  have hG := hW.2.1
  have hU := up_of hW.1
  have hl := hW.2.2.1
  have hno := hG.2.2 _ _ hk
  obtain ⟨e1, e2, e3, e4⟩ := box_eq hsh hwf
  unfold cw_tell
  refine ⟨q_in (by omega) (by omega), fun _ => ?_, fun h => absurd h (by decide), fun h => absurd h (by decide), fun h => absurd h (by decide), fun h => absurd h (by decide), fun h => absurd h (by decide), fun h => absurd h (by decide), fun h => absurd h (by decide)⟩
  exact hp
theorem robj_0 {post : Int32 → Mem → Prop} {S : Mem} {D : List Ob} {n : Nat} (hR : RD S D) (hW : WF D n) {k e : Nat} {o : Ob} (hk : D[k]? = some o) (hB : Blk D k e) (hs1 : o.fm ≠ 3 → seg D k e = [o]) (hp : ∀ S', Fq t3 S S' → post (nI o.nm) S') : (vp_in ((8 * nI k) + 1) 112) ∧ (((S 154 ((8 * nI k) + 1).toNatClampNeg) = 3) → r_behind (fun r1 S2 => r_findBox (fun S3 => ((0 : Int32) = 2 → post (S3 148 12) S3) ∧ ((0 : Int32) = 3 → post (S3 148 13) S3) ∧ ((0 : Int32) = 4 → post ((S3 148 14) - (S3 148 12)) S3) ∧ ((0 : Int32) = 5 → post ((S3 148 15) - (S3 148 13)) S3) ∧ ((0 : Int32) = 6 → post (-1) S3) ∧ (((0 : Int32).toInt < 2 ∨ 6 < (0 : Int32).toInt) → (vp_in ((8 * nI k) + 0) 112) ∧ post (S3 154 ((8 * nI k) + 0).toNatClampNeg) S3)) S2 (nI k) r1) S (nI k)) ∧ ((¬ (S 154 ((8 * nI k) + 1).toNatClampNeg) = 3) → (vp_in ((8 * nI k) + 0) 112) ∧ post (S 154 ((8 * nI k) + 0).toNatClampNeg) S) := by
  have hG := hW.2.1
  have hU := up_of hW.1
  have hl := hW.2.2.1
  have hkl := at_lt hk
  obtain ⟨r0, r1, r6, r7, rb⟩ := rd_at hR hk
  rw [ix1 (by omega), r1]
  refine ⟨vi1 (by omega), fun h3 => behind_ok hR hG hU hB hk (findBox_ok hR (by omega) (Nat.le_of_lt hB.1) hB.2.1 (fun S3 hF g12 g13 g14 g15 => ⟨fun h => absurd h (by decide), fun h => absurd h (by decide), fun h => absurd h (by decide), fun h => absurd h (by decide), fun h => absurd h (by decide), fun _ => ⟨vi0 (by omega), ?_⟩⟩)), fun h3 => ⟨vi0 (by omega), ?_⟩⟩
  · rw [ix0 (by omega), (rd_at (rd_fq3 hR hF) hk).1]
    exact hp S3 hF
  · obtain ⟨b2, b3, b4, b5⟩ := rb h3
    obtain ⟨m1, m2, m3, m4⟩ := box_one (hW.2.2.2 o (at_mem hk)).2 h3 (hs1 h3)
    have := hp S Fq.rf
    rw [ix0 (by omega)]
    rw [r0]
    exact this
theorem ctell_1 {post : Int32 → Mem → Prop} {S : Mem} {d : Nat} {D : List Ob} {n : Nat} (hC : CD S d D) (hW : WF D n) {k e : Nat} {o : Ob} (hk : D[k]? = some o) (hB : Blk D k e) (hsh : ∃ m ∈ seg D k e, m.fm ≠ 3) (hwf : ∀ m ∈ seg D k e, wfO m) (hp : post (o.fm) S) : cw_tell post S d (nI o.nm) 1 := by
  have hG := hW.2.1
  have hU := up_of hW.1
  have hl := hW.2.2.1
  have hno := hG.2.2 _ _ hk
  obtain ⟨e1, e2, e3, e4⟩ := box_eq hsh hwf
  unfold cw_tell
  refine ⟨q_in (by omega) (by omega), fun h => absurd h (by decide), fun _ => ?_, fun h => absurd h (by decide), fun h => absurd h (by decide), fun h => absurd h (by decide), fun h => absurd h (by decide), fun h => absurd h (by decide), fun h => absurd h (by decide)⟩
  rw [nI_clamp (by omega), (hC.2.1 o (at_mem hk)).1]
  exact hp
theorem robj_1 {post : Int32 → Mem → Prop} {S : Mem} {D : List Ob} {n : Nat} (hR : RD S D) (hW : WF D n) {k e : Nat} {o : Ob} (hk : D[k]? = some o) (hB : Blk D k e) (hs1 : o.fm ≠ 3 → seg D k e = [o]) (hp : ∀ S', Fq t3 S S' → post (o.fm) S') : (vp_in ((8 * nI k) + 1) 112) ∧ (((S 154 ((8 * nI k) + 1).toNatClampNeg) = 3) → r_behind (fun r1 S2 => r_findBox (fun S3 => ((1 : Int32) = 2 → post (S3 148 12) S3) ∧ ((1 : Int32) = 3 → post (S3 148 13) S3) ∧ ((1 : Int32) = 4 → post ((S3 148 14) - (S3 148 12)) S3) ∧ ((1 : Int32) = 5 → post ((S3 148 15) - (S3 148 13)) S3) ∧ ((1 : Int32) = 6 → post (-1) S3) ∧ (((1 : Int32).toInt < 2 ∨ 6 < (1 : Int32).toInt) → (vp_in ((8 * nI k) + 1) 112) ∧ post (S3 154 ((8 * nI k) + 1).toNatClampNeg) S3)) S2 (nI k) r1) S (nI k)) ∧ ((¬ (S 154 ((8 * nI k) + 1).toNatClampNeg) = 3) → (vp_in ((8 * nI k) + 1) 112) ∧ post (S 154 ((8 * nI k) + 1).toNatClampNeg) S) := by
  have hG := hW.2.1
  have hU := up_of hW.1
  have hl := hW.2.2.1
  have hkl := at_lt hk
  obtain ⟨r0, r1, r6, r7, rb⟩ := rd_at hR hk
  rw [ix1 (by omega), r1]
  refine ⟨vi1 (by omega), fun h3 => behind_ok hR hG hU hB hk (findBox_ok hR (by omega) (Nat.le_of_lt hB.1) hB.2.1 (fun S3 hF g12 g13 g14 g15 => ⟨fun h => absurd h (by decide), fun h => absurd h (by decide), fun h => absurd h (by decide), fun h => absurd h (by decide), fun h => absurd h (by decide), fun _ => ⟨vi1 (by omega), ?_⟩⟩)), fun h3 => ⟨vi1 (by omega), ?_⟩⟩
  · rw [(rd_at (rd_fq3 hR hF) hk).2.1]
    exact hp S3 hF
  · obtain ⟨b2, b3, b4, b5⟩ := rb h3
    obtain ⟨m1, m2, m3, m4⟩ := box_one (hW.2.2.2 o (at_mem hk)).2 h3 (hs1 h3)
    have := hp S Fq.rf
    skip
    exact this
theorem ctell_2 {post : Int32 → Mem → Prop} {S : Mem} {d : Nat} {D : List Ob} {n : Nat} (hC : CD S d D) (hW : WF D n) {k e : Nat} {o : Ob} (hk : D[k]? = some o) (hB : Blk D k e) (hsh : ∃ m ∈ seg D k e, m.fm ≠ 3) (hwf : ∀ m ∈ seg D k e, wfO m) (hp : post (lo (seg D k e) Ob.l 100000) S) : cw_tell post S d (nI o.nm) 2 := by
  have hG := hW.2.1
  have hU := up_of hW.1
  have hl := hW.2.2.1
  have hno := hG.2.2 _ _ hk
  obtain ⟨e1, e2, e3, e4⟩ := box_eq hsh hwf
  unfold cw_tell
  refine ⟨q_in (by omega) (by omega), fun h => absurd h (by decide), fun h => absurd h (by decide), fun _ => ?_, fun h => absurd h (by decide), fun h => absurd h (by decide), fun h => absurd h (by decide), fun h => absurd h (by decide), fun h => absurd h (by decide)⟩
  exact edge_0 hC.1 hC.2.1 hG hU hl hB hk (by rw [← e1]; exact hp)
theorem robj_2 {post : Int32 → Mem → Prop} {S : Mem} {D : List Ob} {n : Nat} (hR : RD S D) (hW : WF D n) {k e : Nat} {o : Ob} (hk : D[k]? = some o) (hB : Blk D k e) (hs1 : o.fm ≠ 3 → seg D k e = [o]) (hp : ∀ S', Fq t3 S S' → post (lo (seg D k e) Ob.l 100000) S') : (vp_in ((8 * nI k) + 1) 112) ∧ (((S 154 ((8 * nI k) + 1).toNatClampNeg) = 3) → r_behind (fun r1 S2 => r_findBox (fun S3 => ((2 : Int32) = 2 → post (S3 148 12) S3) ∧ ((2 : Int32) = 3 → post (S3 148 13) S3) ∧ ((2 : Int32) = 4 → post ((S3 148 14) - (S3 148 12)) S3) ∧ ((2 : Int32) = 5 → post ((S3 148 15) - (S3 148 13)) S3) ∧ ((2 : Int32) = 6 → post (-1) S3) ∧ (((2 : Int32).toInt < 2 ∨ 6 < (2 : Int32).toInt) → (vp_in ((8 * nI k) + 2) 112) ∧ post (S3 154 ((8 * nI k) + 2).toNatClampNeg) S3)) S2 (nI k) r1) S (nI k)) ∧ ((¬ (S 154 ((8 * nI k) + 1).toNatClampNeg) = 3) → (vp_in ((8 * nI k) + 2) 112) ∧ post (S 154 ((8 * nI k) + 2).toNatClampNeg) S) := by
  have hG := hW.2.1
  have hU := up_of hW.1
  have hl := hW.2.2.1
  have hkl := at_lt hk
  obtain ⟨r0, r1, r6, r7, rb⟩ := rd_at hR hk
  rw [ix1 (by omega), r1]
  refine ⟨vi1 (by omega), fun h3 => behind_ok hR hG hU hB hk (findBox_ok hR (by omega) (Nat.le_of_lt hB.1) hB.2.1 (fun S3 hF g12 g13 g14 g15 => ⟨fun _ => ?_, fun h => absurd h (by decide), fun h => absurd h (by decide), fun h => absurd h (by decide), fun h => absurd h (by decide), fun h => absurd h (by decide)⟩)), fun h3 => ⟨vi2 (by omega), ?_⟩⟩
  · rw [g12]; exact hp S3 hF
  · obtain ⟨b2, b3, b4, b5⟩ := rb h3
    obtain ⟨m1, m2, m3, m4⟩ := box_one (hW.2.2.2 o (at_mem hk)).2 h3 (hs1 h3)
    have := hp S Fq.rf
    rw [ix2 (by omega)]
    rw [b2, ← m1]
    exact this
theorem ctell_3 {post : Int32 → Mem → Prop} {S : Mem} {d : Nat} {D : List Ob} {n : Nat} (hC : CD S d D) (hW : WF D n) {k e : Nat} {o : Ob} (hk : D[k]? = some o) (hB : Blk D k e) (hsh : ∃ m ∈ seg D k e, m.fm ≠ 3) (hwf : ∀ m ∈ seg D k e, wfO m) (hp : post (lo (seg D k e) Ob.t 100000) S) : cw_tell post S d (nI o.nm) 3 := by
  have hG := hW.2.1
  have hU := up_of hW.1
  have hl := hW.2.2.1
  have hno := hG.2.2 _ _ hk
  obtain ⟨e1, e2, e3, e4⟩ := box_eq hsh hwf
  unfold cw_tell
  refine ⟨q_in (by omega) (by omega), fun h => absurd h (by decide), fun h => absurd h (by decide), fun h => absurd h (by decide), fun _ => ?_, fun h => absurd h (by decide), fun h => absurd h (by decide), fun h => absurd h (by decide), fun h => absurd h (by decide)⟩
  exact edge_1 hC.1 hC.2.1 hG hU hl hB hk (by rw [← e2]; exact hp)
theorem robj_3 {post : Int32 → Mem → Prop} {S : Mem} {D : List Ob} {n : Nat} (hR : RD S D) (hW : WF D n) {k e : Nat} {o : Ob} (hk : D[k]? = some o) (hB : Blk D k e) (hs1 : o.fm ≠ 3 → seg D k e = [o]) (hp : ∀ S', Fq t3 S S' → post (lo (seg D k e) Ob.t 100000) S') : (vp_in ((8 * nI k) + 1) 112) ∧ (((S 154 ((8 * nI k) + 1).toNatClampNeg) = 3) → r_behind (fun r1 S2 => r_findBox (fun S3 => ((3 : Int32) = 2 → post (S3 148 12) S3) ∧ ((3 : Int32) = 3 → post (S3 148 13) S3) ∧ ((3 : Int32) = 4 → post ((S3 148 14) - (S3 148 12)) S3) ∧ ((3 : Int32) = 5 → post ((S3 148 15) - (S3 148 13)) S3) ∧ ((3 : Int32) = 6 → post (-1) S3) ∧ (((3 : Int32).toInt < 2 ∨ 6 < (3 : Int32).toInt) → (vp_in ((8 * nI k) + 3) 112) ∧ post (S3 154 ((8 * nI k) + 3).toNatClampNeg) S3)) S2 (nI k) r1) S (nI k)) ∧ ((¬ (S 154 ((8 * nI k) + 1).toNatClampNeg) = 3) → (vp_in ((8 * nI k) + 3) 112) ∧ post (S 154 ((8 * nI k) + 3).toNatClampNeg) S) := by
  have hG := hW.2.1
  have hU := up_of hW.1
  have hl := hW.2.2.1
  have hkl := at_lt hk
  obtain ⟨r0, r1, r6, r7, rb⟩ := rd_at hR hk
  rw [ix1 (by omega), r1]
  refine ⟨vi1 (by omega), fun h3 => behind_ok hR hG hU hB hk (findBox_ok hR (by omega) (Nat.le_of_lt hB.1) hB.2.1 (fun S3 hF g12 g13 g14 g15 => ⟨fun h => absurd h (by decide), fun _ => ?_, fun h => absurd h (by decide), fun h => absurd h (by decide), fun h => absurd h (by decide), fun h => absurd h (by decide)⟩)), fun h3 => ⟨vi3 (by omega), ?_⟩⟩
  · rw [g13]; exact hp S3 hF
  · obtain ⟨b2, b3, b4, b5⟩ := rb h3
    obtain ⟨m1, m2, m3, m4⟩ := box_one (hW.2.2.2 o (at_mem hk)).2 h3 (hs1 h3)
    have := hp S Fq.rf
    rw [ix3 (by omega)]
    rw [b3, ← m2]
    exact this
theorem ctell_4 {post : Int32 → Mem → Prop} {S : Mem} {d : Nat} {D : List Ob} {n : Nat} (hC : CD S d D) (hW : WF D n) {k e : Nat} {o : Ob} (hk : D[k]? = some o) (hB : Blk D k e) (hsh : ∃ m ∈ seg D k e, m.fm ≠ 3) (hwf : ∀ m ∈ seg D k e, wfO m) (hp : post (hi (seg D k e) (fun o => o.l + o.w) (-100000) - lo (seg D k e) Ob.l 100000) S) : cw_tell post S d (nI o.nm) 4 := by
  have hG := hW.2.1
  have hU := up_of hW.1
  have hl := hW.2.2.1
  have hno := hG.2.2 _ _ hk
  obtain ⟨e1, e2, e3, e4⟩ := box_eq hsh hwf
  unfold cw_tell
  refine ⟨q_in (by omega) (by omega), fun h => absurd h (by decide), fun h => absurd h (by decide), fun h => absurd h (by decide), fun h => absurd h (by decide), fun _ => ?_, fun h => absurd h (by decide), fun h => absurd h (by decide), fun h => absurd h (by decide)⟩
  exact edge_2 hC.1 hC.2.1 hG hU hl hB hk (edge_0 hC.1 hC.2.1 hG hU hl hB hk (by rw [← e1, ← e3]; exact hp))
theorem robj_4 {post : Int32 → Mem → Prop} {S : Mem} {D : List Ob} {n : Nat} (hR : RD S D) (hW : WF D n) {k e : Nat} {o : Ob} (hk : D[k]? = some o) (hB : Blk D k e) (hs1 : o.fm ≠ 3 → seg D k e = [o]) (hp : ∀ S', Fq t3 S S' → post (hi (seg D k e) (fun o => o.l + o.w) (-100000) - lo (seg D k e) Ob.l 100000) S') : (vp_in ((8 * nI k) + 1) 112) ∧ (((S 154 ((8 * nI k) + 1).toNatClampNeg) = 3) → r_behind (fun r1 S2 => r_findBox (fun S3 => ((4 : Int32) = 2 → post (S3 148 12) S3) ∧ ((4 : Int32) = 3 → post (S3 148 13) S3) ∧ ((4 : Int32) = 4 → post ((S3 148 14) - (S3 148 12)) S3) ∧ ((4 : Int32) = 5 → post ((S3 148 15) - (S3 148 13)) S3) ∧ ((4 : Int32) = 6 → post (-1) S3) ∧ (((4 : Int32).toInt < 2 ∨ 6 < (4 : Int32).toInt) → (vp_in ((8 * nI k) + 4) 112) ∧ post (S3 154 ((8 * nI k) + 4).toNatClampNeg) S3)) S2 (nI k) r1) S (nI k)) ∧ ((¬ (S 154 ((8 * nI k) + 1).toNatClampNeg) = 3) → (vp_in ((8 * nI k) + 4) 112) ∧ post (S 154 ((8 * nI k) + 4).toNatClampNeg) S) := by
  have hG := hW.2.1
  have hU := up_of hW.1
  have hl := hW.2.2.1
  have hkl := at_lt hk
  obtain ⟨r0, r1, r6, r7, rb⟩ := rd_at hR hk
  rw [ix1 (by omega), r1]
  refine ⟨vi1 (by omega), fun h3 => behind_ok hR hG hU hB hk (findBox_ok hR (by omega) (Nat.le_of_lt hB.1) hB.2.1 (fun S3 hF g12 g13 g14 g15 => ⟨fun h => absurd h (by decide), fun h => absurd h (by decide), fun _ => ?_, fun h => absurd h (by decide), fun h => absurd h (by decide), fun h => absurd h (by decide)⟩)), fun h3 => ⟨vi4 (by omega), ?_⟩⟩
  · rw [g12, g14]; exact hp S3 hF
  · obtain ⟨b2, b3, b4, b5⟩ := rb h3
    obtain ⟨m1, m2, m3, m4⟩ := box_one (hW.2.2.2 o (at_mem hk)).2 h3 (hs1 h3)
    have := hp S Fq.rf
    rw [ix4 (by omega)]
    rw [b4, ← m3]
    exact this
theorem ctell_5 {post : Int32 → Mem → Prop} {S : Mem} {d : Nat} {D : List Ob} {n : Nat} (hC : CD S d D) (hW : WF D n) {k e : Nat} {o : Ob} (hk : D[k]? = some o) (hB : Blk D k e) (hsh : ∃ m ∈ seg D k e, m.fm ≠ 3) (hwf : ∀ m ∈ seg D k e, wfO m) (hp : post (hi (seg D k e) (fun o => o.t + o.h) (-100000) - lo (seg D k e) Ob.t 100000) S) : cw_tell post S d (nI o.nm) 5 := by
  have hG := hW.2.1
  have hU := up_of hW.1
  have hl := hW.2.2.1
  have hno := hG.2.2 _ _ hk
  obtain ⟨e1, e2, e3, e4⟩ := box_eq hsh hwf
  unfold cw_tell
  refine ⟨q_in (by omega) (by omega), fun h => absurd h (by decide), fun h => absurd h (by decide), fun h => absurd h (by decide), fun h => absurd h (by decide), fun h => absurd h (by decide), fun _ => ?_, fun h => absurd h (by decide), fun h => absurd h (by decide)⟩
  exact edge_3 hC.1 hC.2.1 hG hU hl hB hk (edge_1 hC.1 hC.2.1 hG hU hl hB hk (by rw [← e2, ← e4]; exact hp))
theorem robj_5 {post : Int32 → Mem → Prop} {S : Mem} {D : List Ob} {n : Nat} (hR : RD S D) (hW : WF D n) {k e : Nat} {o : Ob} (hk : D[k]? = some o) (hB : Blk D k e) (hs1 : o.fm ≠ 3 → seg D k e = [o]) (hp : ∀ S', Fq t3 S S' → post (hi (seg D k e) (fun o => o.t + o.h) (-100000) - lo (seg D k e) Ob.t 100000) S') : (vp_in ((8 * nI k) + 1) 112) ∧ (((S 154 ((8 * nI k) + 1).toNatClampNeg) = 3) → r_behind (fun r1 S2 => r_findBox (fun S3 => ((5 : Int32) = 2 → post (S3 148 12) S3) ∧ ((5 : Int32) = 3 → post (S3 148 13) S3) ∧ ((5 : Int32) = 4 → post ((S3 148 14) - (S3 148 12)) S3) ∧ ((5 : Int32) = 5 → post ((S3 148 15) - (S3 148 13)) S3) ∧ ((5 : Int32) = 6 → post (-1) S3) ∧ (((5 : Int32).toInt < 2 ∨ 6 < (5 : Int32).toInt) → (vp_in ((8 * nI k) + 5) 112) ∧ post (S3 154 ((8 * nI k) + 5).toNatClampNeg) S3)) S2 (nI k) r1) S (nI k)) ∧ ((¬ (S 154 ((8 * nI k) + 1).toNatClampNeg) = 3) → (vp_in ((8 * nI k) + 5) 112) ∧ post (S 154 ((8 * nI k) + 5).toNatClampNeg) S) := by
  have hG := hW.2.1
  have hU := up_of hW.1
  have hl := hW.2.2.1
  have hkl := at_lt hk
  obtain ⟨r0, r1, r6, r7, rb⟩ := rd_at hR hk
  rw [ix1 (by omega), r1]
  refine ⟨vi1 (by omega), fun h3 => behind_ok hR hG hU hB hk (findBox_ok hR (by omega) (Nat.le_of_lt hB.1) hB.2.1 (fun S3 hF g12 g13 g14 g15 => ⟨fun h => absurd h (by decide), fun h => absurd h (by decide), fun h => absurd h (by decide), fun _ => ?_, fun h => absurd h (by decide), fun h => absurd h (by decide)⟩)), fun h3 => ⟨vi5 (by omega), ?_⟩⟩
  · rw [g13, g15]; exact hp S3 hF
  · obtain ⟨b2, b3, b4, b5⟩ := rb h3
    obtain ⟨m1, m2, m3, m4⟩ := box_one (hW.2.2.2 o (at_mem hk)).2 h3 (hs1 h3)
    have := hp S Fq.rf
    rw [ix5 (by omega)]
    rw [b5, ← m4]
    exact this
theorem ctell_6 {post : Int32 → Mem → Prop} {S : Mem} {d : Nat} {D : List Ob} {n : Nat} (hC : CD S d D) (hW : WF D n) {k e : Nat} {o : Ob} (hk : D[k]? = some o) (hB : Blk D k e) (hsh : ∃ m ∈ seg D k e, m.fm ≠ 3) (hwf : ∀ m ∈ seg D k e, wfO m) (hp : post (o.c) S) : cw_tell post S d (nI o.nm) 6 := by
  have hG := hW.2.1
  have hU := up_of hW.1
  have hl := hW.2.2.1
  have hno := hG.2.2 _ _ hk
  obtain ⟨e1, e2, e3, e4⟩ := box_eq hsh hwf
  unfold cw_tell
  refine ⟨q_in (by omega) (by omega), fun h => absurd h (by decide), fun h => absurd h (by decide), fun h => absurd h (by decide), fun h => absurd h (by decide), fun h => absurd h (by decide), fun h => absurd h (by decide), fun _ => ?_, fun h => absurd h (by decide)⟩
  rw [nI_clamp (by omega), (hC.2.1 o (at_mem hk)).2.1]
  exact hp
theorem robj_6 {post : Int32 → Mem → Prop} {S : Mem} {D : List Ob} {n : Nat} (hR : RD S D) (hW : WF D n) {k e : Nat} {o : Ob} (hk : D[k]? = some o) (hB : Blk D k e) (hs1 : o.fm ≠ 3 → seg D k e = [o]) (hp : ∀ S', Fq t3 S S' → post (o.c) S') : (vp_in ((8 * nI k) + 1) 112) ∧ (((S 154 ((8 * nI k) + 1).toNatClampNeg) = 3) → r_behind (fun r1 S2 => r_findBox (fun S3 => ((6 : Int32) = 2 → post (S3 148 12) S3) ∧ ((6 : Int32) = 3 → post (S3 148 13) S3) ∧ ((6 : Int32) = 4 → post ((S3 148 14) - (S3 148 12)) S3) ∧ ((6 : Int32) = 5 → post ((S3 148 15) - (S3 148 13)) S3) ∧ ((6 : Int32) = 6 → post (-1) S3) ∧ (((6 : Int32).toInt < 2 ∨ 6 < (6 : Int32).toInt) → (vp_in ((8 * nI k) + 6) 112) ∧ post (S3 154 ((8 * nI k) + 6).toNatClampNeg) S3)) S2 (nI k) r1) S (nI k)) ∧ ((¬ (S 154 ((8 * nI k) + 1).toNatClampNeg) = 3) → (vp_in ((8 * nI k) + 6) 112) ∧ post (S 154 ((8 * nI k) + 6).toNatClampNeg) S) := by
  have hG := hW.2.1
  have hU := up_of hW.1
  have hl := hW.2.2.1
  have hkl := at_lt hk
  obtain ⟨r0, r1, r6, r7, rb⟩ := rd_at hR hk
  rw [ix1 (by omega), r1]
  refine ⟨vi1 (by omega), fun h3 => behind_ok hR hG hU hB hk (findBox_ok hR (by omega) (Nat.le_of_lt hB.1) hB.2.1 (fun S3 hF g12 g13 g14 g15 => ⟨fun h => absurd h (by decide), fun h => absurd h (by decide), fun h => absurd h (by decide), fun h => absurd h (by decide), fun _ => ?_, fun h => absurd h (by decide)⟩)), fun h3 => ⟨vi6 (by omega), ?_⟩⟩
  · rw [← wf_c hW o (at_mem hk) h3]; exact hp S3 hF
  · obtain ⟨b2, b3, b4, b5⟩ := rb h3
    obtain ⟨m1, m2, m3, m4⟩ := box_one (hW.2.2.2 o (at_mem hk)).2 h3 (hs1 h3)
    have := hp S Fq.rf
    rw [ix6 (by omega)]
    rw [r6]
    exact this
theorem ctell_7 {post : Int32 → Mem → Prop} {S : Mem} {d : Nat} {D : List Ob} {n : Nat} (hC : CD S d D) (hW : WF D n) {k e : Nat} {o : Ob} (hk : D[k]? = some o) (hB : Blk D k e) (hsh : ∃ m ∈ seg D k e, m.fm ≠ 3) (hwf : ∀ m ∈ seg D k e, wfO m) (hp : post (pI o.p) S) : cw_tell post S d (nI o.nm) 7 := by
  have hG := hW.2.1
  have hU := up_of hW.1
  have hl := hW.2.2.1
  have hno := hG.2.2 _ _ hk
  obtain ⟨e1, e2, e3, e4⟩ := box_eq hsh hwf
  unfold cw_tell
  refine ⟨q_in (by omega) (by omega), fun h => absurd h (by decide), fun h => absurd h (by decide), fun h => absurd h (by decide), fun h => absurd h (by decide), fun h => absurd h (by decide), fun h => absurd h (by decide), fun h => absurd h (by decide), fun _ => ?_⟩
  rw [nI_clamp (by omega), (hC.2.1 o (at_mem hk)).2.2.1]
  exact hp
theorem robj_7 {post : Int32 → Mem → Prop} {S : Mem} {D : List Ob} {n : Nat} (hR : RD S D) (hW : WF D n) {k e : Nat} {o : Ob} (hk : D[k]? = some o) (hB : Blk D k e) (hs1 : o.fm ≠ 3 → seg D k e = [o]) (hp : ∀ S', Fq t3 S S' → post (pI o.p) S') : (vp_in ((8 * nI k) + 1) 112) ∧ (((S 154 ((8 * nI k) + 1).toNatClampNeg) = 3) → r_behind (fun r1 S2 => r_findBox (fun S3 => ((7 : Int32) = 2 → post (S3 148 12) S3) ∧ ((7 : Int32) = 3 → post (S3 148 13) S3) ∧ ((7 : Int32) = 4 → post ((S3 148 14) - (S3 148 12)) S3) ∧ ((7 : Int32) = 5 → post ((S3 148 15) - (S3 148 13)) S3) ∧ ((7 : Int32) = 6 → post (-1) S3) ∧ (((7 : Int32).toInt < 2 ∨ 6 < (7 : Int32).toInt) → (vp_in ((8 * nI k) + 7) 112) ∧ post (S3 154 ((8 * nI k) + 7).toNatClampNeg) S3)) S2 (nI k) r1) S (nI k)) ∧ ((¬ (S 154 ((8 * nI k) + 1).toNatClampNeg) = 3) → (vp_in ((8 * nI k) + 7) 112) ∧ post (S 154 ((8 * nI k) + 7).toNatClampNeg) S) := by
  have hG := hW.2.1
  have hU := up_of hW.1
  have hl := hW.2.2.1
  have hkl := at_lt hk
  obtain ⟨r0, r1, r6, r7, rb⟩ := rd_at hR hk
  rw [ix1 (by omega), r1]
  refine ⟨vi1 (by omega), fun h3 => behind_ok hR hG hU hB hk (findBox_ok hR (by omega) (Nat.le_of_lt hB.1) hB.2.1 (fun S3 hF g12 g13 g14 g15 => ⟨fun h => absurd h (by decide), fun h => absurd h (by decide), fun h => absurd h (by decide), fun h => absurd h (by decide), fun h => absurd h (by decide), fun _ => ⟨vi7 (by omega), ?_⟩⟩)), fun h3 => ⟨vi7 (by omega), ?_⟩⟩
  · rw [ix7 (by omega), (rd_at (rd_fq3 hR hF) hk).2.2.2.1]
    exact hp S3 hF
  · obtain ⟨b2, b3, b4, b5⟩ := rb h3
    obtain ⟨m1, m2, m3, m4⟩ := box_one (hW.2.2.2 o (at_mem hk)).2 h3 (hs1 h3)
    have := hp S Fq.rf
    rw [ix7 (by omega)]
    rw [r7]
    exact this
