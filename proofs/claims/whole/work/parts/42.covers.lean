theorem cmp_pos {x y : Int64} : 0 < lg_cmp x y ↔ y.toInt < x.toInt := by
  unfold lg_cmp
  by_cases h : x > y
  · rw [if_pos h]
    exact ⟨fun _ => Int64.lt_iff_toInt_lt.mp h, fun _ => by decide⟩
  · have h' : ¬ y.toInt < x.toInt := fun q => h (Int64.lt_iff_toInt_lt.mpr q)
    rw [if_neg h]
    by_cases h2 : x = y
    · rw [if_pos h2]
      exact ⟨fun q => absurd q (by decide), fun q => absurd q h'⟩
    · rw [if_neg h2]
      exact ⟨fun q => absurd q (by decide), fun q => absurd q h'⟩
theorem cmp_ge {x y : Int64} : 0 ≤ lg_cmp x y ↔ y.toInt ≤ x.toInt := by
  unfold lg_cmp
  by_cases h : x > y
  · rw [if_pos h]
    exact ⟨fun _ => Int.le_of_lt (Int64.lt_iff_toInt_lt.mp h), fun _ => by decide⟩
  · have h' : ¬ y.toInt < x.toInt := fun q => h (Int64.lt_iff_toInt_lt.mpr q)
    rw [if_neg h]
    by_cases h2 : x = y
    · rw [if_pos h2]
      exact ⟨fun _ => by rw [h2]; exact Int.le_refl _, fun _ => by decide⟩
    · rw [if_neg h2]
      exact ⟨fun q => absurd q (by decide), fun q => absurd (Int64.toInt_inj.mp (by omega)) h2⟩
theorem cmp_neg {x y : Int64} : lg_cmp x y < 0 ↔ x.toInt < y.toInt := by
  unfold lg_cmp
  by_cases h : x > y
  · have h' := Int64.lt_iff_toInt_lt.mp h
    rw [if_pos h]
    exact ⟨fun q => absurd q (by decide), fun q => by omega⟩
  · have h' : ¬ y.toInt < x.toInt := fun q => h (Int64.lt_iff_toInt_lt.mpr q)
    rw [if_neg h]
    by_cases h2 : x = y
    · rw [if_pos h2]
      exact ⟨fun q => absurd q (by decide), fun q => by rw [h2] at q; omega⟩
    · rw [if_neg h2]
      refine ⟨fun _ => ?_, fun _ => by decide⟩
      have : x.toInt ≠ y.toInt := fun q => h2 (Int64.toInt_inj.mp q)
      omega
theorem ladd {a b : Int64} (h1 : -4611686018427387904 ≤ a.toInt + b.toInt) (h2 : a.toInt + b.toInt < 4611686018427387904) : (a + b).toInt = a.toInt + b.toInt := by
  rw [Int64.toInt_add]
  simp only [Int.bmod]
  omega
theorem lsub {a b : Int64} (h1 : -4611686018427387904 ≤ a.toInt - b.toInt) (h2 : a.toInt - b.toInt < 4611686018427387904) : (a - b).toInt = a.toInt - b.toInt := by
  rw [Int64.toInt_sub]
  simp only [Int.bmod]
  omega
theorem lmul {a b : Int64} {c : Int} (hc : a.toInt * b.toInt = c) (h1 : -4611686018427387904 ≤ c) (h2 : c < 4611686018427387904) : (a * b).toInt = c := by
  rw [Int64.toInt_mul, hc]
  simp only [Int.bmod]
  omega
theorem w64 (x : Int32) : x.toInt64.toInt = x.toInt := Int32.toInt_toInt64 x
theorem u32 {x l w : Int32} (h1 : -200 ≤ l.toInt) (h2 : l.toInt ≤ x.toInt) (h3 : x.toInt < l.toInt + w.toInt) (h4 : l.toInt + w.toInt ≤ 200) : (((2 * (x - l)) + 1) - w).toInt = 2 * (x.toInt - l.toInt) + 1 - w.toInt := by
  have a1 : (x - l).toInt = x.toInt - l.toInt := sub_toInt (by omega) (by omega)
  have a2 : (2 * (x - l)).toInt = 2 * (x.toInt - l.toInt) := mul_toInt (by rw [a1, show (2 : Int32).toInt = 2 by decide]) (by omega) (by omega)
  have c1 : (1 : Int32).toInt = 1 := by decide
  have a3 : ((2 * (x - l)) + 1).toInt = 2 * (x.toInt - l.toInt) + 1 := by rw [add_toInt (by omega) (by omega), a2, c1]
  rw [sub_toInt (by omega) (by omega), a3]
theorem u64 {x l w : Int32} (h1 : -200 ≤ l.toInt) (h2 : l.toInt ≤ x.toInt) (h3 : x.toInt < l.toInt + w.toInt) (h4 : l.toInt + w.toInt ≤ 200) : ((2 * (x - l).toInt64) + 1) - w.toInt64 = (((2 * (x - l)) + 1) - w).toInt64 := by
  apply Int64.toInt_inj.mp
  have a1 : (x - l).toInt = x.toInt - l.toInt := sub_toInt (by omega) (by omega)
  have c1 : (1 : Int64).toInt = 1 := by decide
  have a2 : (2 * (x - l).toInt64).toInt = 2 * (x.toInt - l.toInt) := lmul (by rw [w64, a1, show (2 : Int64).toInt = 2 by decide]) (by omega) (by omega)
  have a3 : ((2 * (x - l).toInt64) + 1).toInt = 2 * (x.toInt - l.toInt) + 1 := by rw [ladd (by omega) (by omega), a2, c1]
  rw [w64, u32 h1 h2 h3 h4, lsub (by rw [a3, w64]; omega) (by rw [a3, w64]; omega), a3, w64]
def iabs (z : Int) : Int := if 0 ≤ z then z else -z
theorem abs32 {u : Int32} (h1 : -1000 ≤ u.toInt) (h2 : u.toInt ≤ 1000) : (if 0 ≤ u then u else 0 - u : Int32).toInt = iabs u.toInt := by
  have c0 : (0 : Int32).toInt = 0 := by decide
  unfold iabs
  by_cases h : 0 ≤ u
  · have h' := h
    rw [Int32.le_iff_toInt_le, c0] at h'
    rw [if_pos h, if_pos h']
  · have h' := h
    rw [Int32.le_iff_toInt_le, c0] at h'
    rw [if_neg h, if_neg h', sub_toInt (by omega) (by omega), c0]
    omega
theorem abs64 {u : Int64} (h1 : -1000 ≤ u.toInt) (h2 : u.toInt ≤ 1000) : (if 0 ≤ (lg_cmp u 0) then u else (-u) : Int64).toInt = iabs u.toInt := by
  have c0 : (0 : Int64).toInt = 0 := by decide
  unfold iabs
  by_cases h : 0 ≤ lg_cmp u 0
  · have h' := cmp_ge.mp h
    rw [c0] at h'
    rw [if_pos h, if_pos h']
  · have h' : ¬ 0 ≤ u.toInt := fun q => h (cmp_ge.mpr (by rw [c0]; exact q))
    rw [if_neg h, if_neg h', Int64.toInt_neg]
    simp only [Int.bmod]
    omega
/-- the place lies in the box -/
def inb (o : Ob) (x y : Int32) : Prop := o.l.toInt ≤ x.toInt ∧ x.toInt < o.l.toInt + o.w.toInt ∧ o.t.toInt ≤ y.toInt ∧ y.toInt < o.t.toInt + o.h.toInt
def ellN (o : Ob) (x y : Int32) : Prop := 0 < lg_cmp ((((((2 * (x - o.l)) + 1) - o.w).toInt64 * (((2 * (x - o.l)) + 1) - o.w).toInt64) * (o.h.toInt64 * o.h.toInt64)) + (((((2 * (y - o.t)) + 1) - o.h).toInt64 * (((2 * (y - o.t)) + 1) - o.h).toInt64) * (o.w.toInt64 * o.w.toInt64))) ((o.w.toInt64 * o.w.toInt64) * (o.h.toInt64 * o.h.toInt64))
def diaN (o : Ob) (x y : Int32) : Prop := o.w.toInt * o.h.toInt < iabs (2 * (x.toInt - o.l.toInt) + 1 - o.w.toInt) * o.h.toInt + iabs (2 * (y.toInt - o.t.toInt) + 1 - o.h.toInt) * o.w.toInt
/-- the shape covers the place -/
def cov (o : Ob) (x y : Int32) : Prop := o.fm ≠ 3 ∧ inb o x y ∧ (o.fm = 1 → ¬ ellN o x y) ∧ (o.fm = 2 → ¬ diaN o x y)
theorem iabs_in {z : Int} (h1 : -1000 ≤ z) (h2 : z ≤ 1000) : 0 ≤ iabs z ∧ iabs z ≤ 1000 := by
  unfold iabs
  split <;> omega
theorem prod_in {a b : Int} (h0 : 0 ≤ a) (h1 : a ≤ 1000) (h2 : 0 ≤ b) (h3 : b ≤ 1000) : 0 ≤ a * b ∧ a * b ≤ 1000000 := by
  refine ⟨Int.mul_nonneg h0 h2, ?_⟩
  have := Int.mul_le_mul h1 h3 h2 (by omega)
  omega
theorem dia32 {o : Ob} {x y : Int32} (hw : wfO o) (h3 : o.fm ≠ 3) (hb : inb o x y) : (o.w * o.h < (if 0 ≤ (((2 * (x - o.l)) + 1) - o.w) then (((2 * (x - o.l)) + 1) - o.w) else 0 - (((2 * (x - o.l)) + 1) - o.w) : Int32) * o.h + (if 0 ≤ (((2 * (y - o.t)) + 1) - o.h) then (((2 * (y - o.t)) + 1) - o.h) else 0 - (((2 * (y - o.t)) + 1) - o.h) : Int32) * o.w) ↔ diaN o x y := by
  obtain ⟨-, h1, h2, h4, h5, h6, h7⟩ := wf_sh hw h3
  obtain ⟨b1, b2, b3, b4⟩ := hb
  have eu := u32 h1 b1 b2 h6
  have ev := u32 h2 b3 b4 h7
  have au := abs32 (u := ((2 * (x - o.l)) + 1) - o.w) (by rw [eu]; omega) (by rw [eu]; omega)
  have av := abs32 (u := ((2 * (y - o.t)) + 1) - o.h) (by rw [ev]; omega) (by rw [ev]; omega)
  rw [eu] at au
  rw [ev] at av
  have iu := iabs_in (z := 2 * (x.toInt - o.l.toInt) + 1 - o.w.toInt) (by omega) (by omega)
  have iv := iabs_in (z := 2 * (y.toInt - o.t.toInt) + 1 - o.h.toInt) (by omega) (by omega)
  have p1 := prod_in (a := iabs (2 * (x.toInt - o.l.toInt) + 1 - o.w.toInt)) (b := o.h.toInt) iu.1 iu.2 (by omega) (by omega)
  have p2 := prod_in (a := iabs (2 * (y.toInt - o.t.toInt) + 1 - o.h.toInt)) (b := o.w.toInt) iv.1 iv.2 (by omega) (by omega)
  have p3 := prod_in (a := o.w.toInt) (b := o.h.toInt) (by omega) (by omega) (by omega) (by omega)
  have m1 := mul_toInt (a := (if 0 ≤ (((2 * (x - o.l)) + 1) - o.w) then (((2 * (x - o.l)) + 1) - o.w) else 0 - (((2 * (x - o.l)) + 1) - o.w) : Int32)) (b := o.h) (by rw [au]) (by omega) (by omega)
  have m2 := mul_toInt (a := (if 0 ≤ (((2 * (y - o.t)) + 1) - o.h) then (((2 * (y - o.t)) + 1) - o.h) else 0 - (((2 * (y - o.t)) + 1) - o.h) : Int32)) (b := o.w) (by rw [av]) (by omega) (by omega)
  have m3 := mul_toInt (a := o.w) (b := o.h) rfl (by omega) (by omega)
  unfold diaN
  rw [Int32.lt_iff_toInt_lt, m3, add_toInt (by rw [m1, m2]; omega) (by rw [m1, m2]; omega), m1, m2]
theorem dia64 {o : Ob} {x y : Int32} (hw : wfO o) (h3 : o.fm ≠ 3) (hb : inb o x y) {r1 r2 : Int64} (hr1 : r1 = (if 0 ≤ (lg_cmp (((2 * (x - o.l).toInt64) + 1) - o.w.toInt64) 0) then (((2 * (x - o.l).toInt64) + 1) - o.w.toInt64) else (-(((2 * (x - o.l).toInt64) + 1) - o.w.toInt64)) : Int64)) (hr2 : r2 = (if 0 ≤ (lg_cmp (((2 * (y - o.t).toInt64) + 1) - o.h.toInt64) 0) then (((2 * (y - o.t).toInt64) + 1) - o.h.toInt64) else (-(((2 * (y - o.t).toInt64) + 1) - o.h.toInt64)) : Int64)) : (0 < lg_cmp ((r1 * o.h.toInt64) + (r2 * o.w.toInt64)) (o.w.toInt64 * o.h.toInt64)) ↔ diaN o x y := by
  obtain ⟨-, h1, h2, h4, h5, h6, h7⟩ := wf_sh hw h3
  obtain ⟨b1, b2, b3, b4⟩ := hb
  have eu : ((((2 * (x - o.l).toInt64) + 1) - o.w.toInt64) : Int64).toInt = 2 * (x.toInt - o.l.toInt) + 1 - o.w.toInt := by rw [u64 h1 b1 b2 h6, w64, u32 h1 b1 b2 h6]
  have ev : ((((2 * (y - o.t).toInt64) + 1) - o.h.toInt64) : Int64).toInt = 2 * (y.toInt - o.t.toInt) + 1 - o.h.toInt := by rw [u64 h2 b3 b4 h7, w64, u32 h2 b3 b4 h7]
  have au := abs64 (u := ((2 * (x - o.l).toInt64) + 1) - o.w.toInt64) (by rw [eu]; omega) (by rw [eu]; omega)
  have av := abs64 (u := ((2 * (y - o.t).toInt64) + 1) - o.h.toInt64) (by rw [ev]; omega) (by rw [ev]; omega)
  rw [eu, ← hr1] at au
  rw [ev, ← hr2] at av
  have iu := iabs_in (z := 2 * (x.toInt - o.l.toInt) + 1 - o.w.toInt) (by omega) (by omega)
  have iv := iabs_in (z := 2 * (y.toInt - o.t.toInt) + 1 - o.h.toInt) (by omega) (by omega)
  have p1 := prod_in (a := iabs (2 * (x.toInt - o.l.toInt) + 1 - o.w.toInt)) (b := o.h.toInt) iu.1 iu.2 (by omega) (by omega)
  have p2 := prod_in (a := iabs (2 * (y.toInt - o.t.toInt) + 1 - o.h.toInt)) (b := o.w.toInt) iv.1 iv.2 (by omega) (by omega)
  have p3 := prod_in (a := o.w.toInt) (b := o.h.toInt) (by omega) (by omega) (by omega) (by omega)
  have m1 := lmul (a := r1) (b := o.h.toInt64) (by rw [au, w64]) (by omega) (by omega)
  have m2 := lmul (a := r2) (b := o.w.toInt64) (by rw [av, w64]) (by omega) (by omega)
  have m3 := lmul (a := o.w.toInt64) (b := o.h.toInt64) (by rw [w64, w64]) (by omega) (by omega)
  unfold diaN
  rw [cmp_pos, m3, ladd (by rw [m1, m2]; omega) (by rw [m1, m2]; omega), m1, m2]
theorem ccov {post : Int32 → Mem → Prop} {S : Mem} {q : Nat} {o : Ob} {x y : Int32} (hI : It S q o) (hw : wfO o) (hy : cov o x y → post 1 S) (hn : ¬ cov o x y → post 0 S) : ci_covers post S q x y := by
  unfold ci_covers ci_isShape
  dsimp only
  rw [hI.1]
  by_cases h3 : o.fm = 3
  · rw [if_pos h3]
    exact ⟨nar0, fun _ => hn (fun c => c.1 h3), fun h => absurd rfl h⟩
  · obtain ⟨e2, e3, e4, e5⟩ := hI.2.2.2 h3
    obtain ⟨hfm, h1, h2, h4, h5, h6, h7⟩ := wf_sh hw h3
    obtain ⟨s1, s2⟩ := wf_sums hw h3
    rw [if_neg h3, e2, e3, e4, e5]
    refine ⟨nar1, fun h => absurd h (by decide), fun _ => ⟨fun c1 => hn (fun c => ?_), fun c1 => ⟨fun c2 => hn (fun c => ?_), fun c2 => ⟨fun c3 => hn (fun c => ?_), fun c3 => ⟨fun c4 => ?_, fun c4 => hn (fun c => ?_)⟩⟩⟩⟩⟩
    · rw [Int32.lt_iff_toInt_lt] at c1
      have := c.2.1.1
      omega
    · rw [Int32.le_iff_toInt_le, s1] at c2
      have := c.2.1.2.1
      omega
    · rw [Int32.lt_iff_toInt_lt] at c3
      have := c.2.1.2.2.1
      omega
    · rw [Int32.lt_iff_toInt_lt] at c1 c3
      rw [Int32.le_iff_toInt_le, s1] at c2
      rw [Int32.lt_iff_toInt_lt, s2] at c4
      have hb : inb o x y := ⟨by omega, by omega, by omega, by omega⟩
      refine ⟨fun f1 => ?_, fun f2 => ?_, fun f12 => hy ⟨h3, hb, fun f => absurd f f12.1, fun f => absurd f f12.2⟩⟩
      · unfold ci_ellipseReaches
        rw [e4, e5]
        by_cases he : ellN o x y
        · have he' := he
          unfold ellN at he'
          rw [if_pos he']
          exact ⟨nar0, nar0, hn (fun c => c.2.2.1 f1 he)⟩
        · have he' := he
          unfold ellN at he'
          rw [if_neg he']
          exact ⟨nar1, nar1, hy ⟨h3, hb, fun _ => he, fun f => absurd (f1.symm.trans f) (by decide)⟩⟩
      · have hd := dia32 hw h3 hb
        by_cases he : diaN o x y
        · rw [if_pos (hd.mpr he)]
          exact ⟨nar0, hn (fun c => c.2.2.2 f2 he)⟩
        · rw [if_neg (fun q => he (hd.mp q))]
          exact ⟨nar1, hy ⟨h3, hb, fun f => absurd (f2.symm.trans f) (by decide), fun _ => he⟩⟩
    · rw [Int32.lt_iff_toInt_lt, s2] at c4
      have := c.2.1.2.2.2
      omega
theorem rcov {post : Int32 → Mem → Prop} {S : Mem} {k : Nat} {o : Ob} {x y : Int32} (hk : k < 14) (hR : Rw 154 S k o) (hw : wfO o) (hy : cov o x y → post 1 S) (hn : ¬ cov o x y → post 0 S) : r_covers post S (nI k) x y := by
  unfold r_covers
  rw [ix1 hk, ix2 hk, ix3 hk, ix4 hk, ix5 hk, hR.2.1]
  refine ⟨vi4 hk, vi5 hk, vi1 hk, fun h3 => hn (fun c => c.1 h3), fun h3 => ?_⟩
  obtain ⟨e2, e3, e4, e5⟩ := hR.2.2.2.2 h3
  obtain ⟨hfm, h1, h2, h4, h5, h6, h7⟩ := wf_sh hw h3
  rw [e2, e3, e4, e5, cmp_ge, cmp_neg, w64, w64, ladd (by rw [w64, w64]; omega) (by rw [w64, w64]; omega), ladd (by rw [w64, w64]; omega) (by rw [w64, w64]; omega), w64, w64, w64, w64]
  refine ⟨vi2 hk, fun c1 => hn (fun c => ?_), fun c1 => ⟨vi2 hk, fun c2 => hn (fun c => ?_), fun c2 => ⟨vi3 hk, fun c3 => hn (fun c => ?_), fun c3 => ⟨vi3 hk, fun c4 => ⟨vi2 hk, vi3 hk, vi1 hk, fun f0 => ?_, fun f0 => ⟨vi1 hk, fun f1 => ?_, fun f1 => ?_⟩⟩, fun c4 => hn (fun c => ?_)⟩⟩⟩⟩
  · rw [Int32.lt_iff_toInt_lt] at c1
    have := c.2.1.1
    omega
  · have := c.2.1.2.1
    omega
  · rw [Int32.lt_iff_toInt_lt] at c3
    have := c.2.1.2.2.1
    omega
  · rw [Int32.lt_iff_toInt_lt] at c1 c3
    refine hy ⟨h3, ⟨by omega, by omega, by omega, by omega⟩, fun f => absurd (f0.symm.trans f) (by decide), fun f => absurd (f0.symm.trans f) (by decide)⟩
  · rw [Int32.lt_iff_toInt_lt] at c1 c3
    have hb : inb o x y := ⟨by omega, by omega, by omega, by omega⟩
    have f2 : o.fm = 2 := (hfm.resolve_left f0).resolve_left f1
    have hd := dia64 hw h3 hb rfl rfl
    unfold r_size
    refine ⟨fun c => hn (fun q => q.2.2.2 f2 (hd.mp c)), fun c => hy ⟨h3, hb, fun f => absurd f f1, fun _ q => c (hd.mpr q)⟩⟩
  · rw [Int32.lt_iff_toInt_lt] at c1 c3
    have hb : inb o x y := ⟨by omega, by omega, by omega, by omega⟩
    obtain ⟨b1, b2, b3, b4⟩ := hb
    have eu := u64 h1 b1 b2 h6
    have ev := u64 h2 b3 b4 h7
    rw [eu, ev, Int64.mul_assoc (_ * _) o.h.toInt64, Int64.mul_assoc (_ * _) o.w.toInt64, Int64.mul_assoc (o.w.toInt64 * o.w.toInt64)]
    refine ⟨fun c => hn (fun q => q.2.2.1 f1 c), fun c => hy ⟨h3, ⟨b1, b2, b3, b4⟩, fun _ => c, fun f => absurd (f1.symm.trans f) (by decide)⟩⟩
  · have := c.2.1.2.2.2
    omega
