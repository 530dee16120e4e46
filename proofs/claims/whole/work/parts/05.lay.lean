/-! The lay of the cells that the law makes: the class's object at 0 (148 cells), the reference's at 148 (10 cells), the law's own array at 158 -/
def isI (G : Gp) (k : Nat) : Prop := G.2.2.1[k]? = some (0, 5)
def isE (G : Gp) (k : Nat) : Prop := G.2.2.1[k]? = some (0, 2)
def isA (G : Gp) (k : Nat) : Prop := G.2.2.1[k]? = some (0, 1) ∧ G.2.1 k 2 = some (k + 1) ∧ G.2.2.1[k + 1]? = some (1, 4)
def isIs (G : Gp) (k : Nat) : Prop := G.2.2.1[k]? = some (6, 24) ∧ ∀ j, j < 24 → G.2.1 k j = some (k + 1 + j) ∧ isI G (k + 1 + j)
def isRow (G : Gp) (k : Nat) : Prop := G.2.2.1[k]? = some (4, 24) ∧ ∀ j, j < 24 → G.2.1 k j = some (k + 1 + 2 * j) ∧ isA G (k + 1 + 2 * j)
def isRing (G : Gp) (k : Nat) : Prop := G.2.2.1[k]? = some (5, 32) ∧ ∀ j, j < 32 → G.2.1 k j = some (k + 1 + j) ∧ isE G (k + 1 + j)
def isH (G : Gp) (k : Nat) : Prop := G.2.2.1[k]? = some (0, 3) ∧ G.2.1 k 0 = some (k + 1) ∧ isRing G (k + 1)
def isW (G : Gp) (k : Nat) : Prop := G.2.2.1[k]? = some (0, 6) ∧ G.2.1 k 0 = some (k + 1) ∧ isIs G (k + 1) ∧ G.2.1 k 1 = some (k + 26) ∧ G.2.2.1[k + 26]? = some (1, 12) ∧ G.2.1 k 3 = some (k + 27) ∧ G.2.2.1[k + 27]? = some (1, 12)
def isO (G : Gp) (k : Nat) : Prop := G.2.2.1[k]? = some (0, 4) ∧ G.2.1 k 0 = some (k + 1) ∧ isW G (k + 1) ∧ G.2.1 k 1 = some (k + 29) ∧ G.2.2.1[k + 29]? = some (1, 24) ∧ G.2.1 k 2 = some (k + 30) ∧ G.2.2.1[k + 30]? = some (1, 24)
def isD (G : Gp) : Prop := G.2.2.1[0]? = some (0, 0) ∧ G.2.1 0 0 = some 1 ∧ isRow G 1 ∧ G.2.1 0 1 = some 50 ∧ isA G 50 ∧ G.2.1 0 2 = some 52 ∧ isH G 52 ∧ G.2.1 0 3 = some 86 ∧ isO G 86 ∧ G.2.1 0 4 = some 117 ∧ isO G 117
def isR (G : Gp) : Prop := G.2.2.1[148]? = some (0, 7) ∧ G.2.1 148 2 = some 149 ∧ G.2.2.1[149]? = some (1, 24) ∧ G.2.1 148 3 = some 150 ∧ G.2.2.1[150]? = some (1, 96) ∧ G.2.1 148 4 = some 151 ∧ G.2.2.1[151]? = some (2, 24) ∧ G.2.1 148 5 = some 152 ∧ G.2.2.1[152]? = some (1, 24) ∧ G.2.1 148 6 = some 153 ∧ G.2.2.1[153]? = some (1, 24) ∧ G.2.1 148 8 = some 154 ∧ G.2.2.1[154]? = some (1, 112) ∧ G.2.1 148 10 = some 155 ∧ G.2.2.1[155]? = some (1, 112) ∧ G.2.1 148 11 = some 156 ∧ G.2.2.1[156]? = some (1, 112) ∧ G.2.1 148 16 = some 157 ∧ G.2.2.1[157]? = some (1, 160)
theorem vlt {i : Int32} {n : Nat} (h : vp_in i n) : i.toNatClampNeg < n := Nat.lt_of_not_le fun q => h (Or.inr q)
theorem nar_of {x : Int32} (h : vp_nar .boolean x = x) : narrow .boolean (.int x) = .int x := by
  have h1 : narrow .boolean (.int x) = .int (vp_nar .boolean x) := rfl
  rw [h1, h]
theorem sw_out {d lo hi : Int} {offs : Array Int} {pc t : Nat} {x : Int32} (h : x.toInt < lo ∨ hi < x.toInt) (ht : (pc : Int) + d = (t : Int)) : swT (.tableswitch d lo hi offs) pc x = (t : Int) := by
  simp only [swT, if_pos h, ht]
theorem i32_of {x y : Int32} {n : Int} (h : x.toInt = n) (hy : y.toInt = n) : x = y := Int32.toInt_inj.mp (h.trans hy.symm)
theorem sw_eq {i : Instr} {pc : Nat} {x v : Int32} {t : Int} (h : x = v) (hs : swT i pc v = t) : swT i pc x = t := by
  rw [h]; exact hs
theorem lk_eq {d : Int} {ps : List (Int × Int)} {pc : Nat} {x v : Int32} {t : Int} (h : x = v) (hs : (pc : Int) + Op.lookupswitch.offset ps d v.toInt = t) : (pc : Int) + Op.lookupswitch.offset ps d x.toInt = t := by
  rw [h]; exact hs
theorem i32_ne {x y : Int32} (h : ¬ x = y) : ¬ y.toInt = x.toInt := fun q => h (Int32.toInt_inj.mp q.symm)
theorem lk_out2 {d a1 o1 a2 o2 : Int} {pc t : Nat} {x v1 v2 : Int32} (h1 : ¬ x = v1) (h2 : ¬ x = v2) (e1 : v1.toInt = a1) (e2 : v2.toInt = a2) (ht : (pc : Int) + d = (t : Int)) : (pc : Int) + Op.lookupswitch.offset [(a1, o1), (a2, o2)] d x.toInt = (t : Int) := by
  rw [Op.lookupswitch.offset_cons, if_neg (by rw [← e1]; exact i32_ne h1), Op.lookupswitch.offset_cons, if_neg (by rw [← e2]; exact i32_ne h2), Op.lookupswitch.offset_nil, ht]
theorem sw_0_2 {x : Int32} (h : ¬ (x.toInt < 0 ∨ 2 < x.toInt)) : x = 0 ∨ x = 1 ∨ x = 2 := by
  have h1 : x.toInt = 0 ∨ x.toInt = 1 ∨ x.toInt = 2 := by omega
  rcases h1 with h1 | h1 | h1
  · exact Or.inl (i32_of h1 (by decide))
  · exact Or.inr (Or.inl (i32_of h1 (by decide)))
  · exact Or.inr (Or.inr ((i32_of h1 (by decide))))
theorem sw_0_6 {x : Int32} (h : ¬ (x.toInt < 0 ∨ 6 < x.toInt)) : x = 0 ∨ x = 1 ∨ x = 2 ∨ x = 3 ∨ x = 4 ∨ x = 5 ∨ x = 6 := by
  have h1 : x.toInt = 0 ∨ x.toInt = 1 ∨ x.toInt = 2 ∨ x.toInt = 3 ∨ x.toInt = 4 ∨ x.toInt = 5 ∨ x.toInt = 6 := by omega
  rcases h1 with h1 | h1 | h1 | h1 | h1 | h1 | h1
  · exact Or.inl (i32_of h1 (by decide))
  · exact Or.inr (Or.inl (i32_of h1 (by decide)))
  · exact Or.inr (Or.inr (Or.inl (i32_of h1 (by decide))))
  · exact Or.inr (Or.inr (Or.inr (Or.inl (i32_of h1 (by decide)))))
  · exact Or.inr (Or.inr (Or.inr (Or.inr (Or.inl (i32_of h1 (by decide))))))
  · exact Or.inr (Or.inr (Or.inr (Or.inr (Or.inr (Or.inl (i32_of h1 (by decide)))))))
  · exact Or.inr (Or.inr (Or.inr (Or.inr (Or.inr (Or.inr ((i32_of h1 (by decide))))))))
theorem sw_0_8 {x : Int32} (h : ¬ (x.toInt < 0 ∨ 8 < x.toInt)) : x = 0 ∨ x = 1 ∨ x = 2 ∨ x = 3 ∨ x = 4 ∨ x = 5 ∨ x = 6 ∨ x = 7 ∨ x = 8 := by
  have h1 : x.toInt = 0 ∨ x.toInt = 1 ∨ x.toInt = 2 ∨ x.toInt = 3 ∨ x.toInt = 4 ∨ x.toInt = 5 ∨ x.toInt = 6 ∨ x.toInt = 7 ∨ x.toInt = 8 := by omega
  rcases h1 with h1 | h1 | h1 | h1 | h1 | h1 | h1 | h1 | h1
  · exact Or.inl (i32_of h1 (by decide))
  · exact Or.inr (Or.inl (i32_of h1 (by decide)))
  · exact Or.inr (Or.inr (Or.inl (i32_of h1 (by decide))))
  · exact Or.inr (Or.inr (Or.inr (Or.inl (i32_of h1 (by decide)))))
  · exact Or.inr (Or.inr (Or.inr (Or.inr (Or.inl (i32_of h1 (by decide))))))
  · exact Or.inr (Or.inr (Or.inr (Or.inr (Or.inr (Or.inl (i32_of h1 (by decide)))))))
  · exact Or.inr (Or.inr (Or.inr (Or.inr (Or.inr (Or.inr (Or.inl (i32_of h1 (by decide))))))))
  · exact Or.inr (Or.inr (Or.inr (Or.inr (Or.inr (Or.inr (Or.inr (Or.inl (i32_of h1 (by decide)))))))))
  · exact Or.inr (Or.inr (Or.inr (Or.inr (Or.inr (Or.inr (Or.inr (Or.inr ((i32_of h1 (by decide))))))))))
theorem sw_1_8 {x : Int32} (h : ¬ (x.toInt < 1 ∨ 8 < x.toInt)) : x = 1 ∨ x = 2 ∨ x = 3 ∨ x = 4 ∨ x = 5 ∨ x = 6 ∨ x = 7 ∨ x = 8 := by
  have h1 : x.toInt = 1 ∨ x.toInt = 2 ∨ x.toInt = 3 ∨ x.toInt = 4 ∨ x.toInt = 5 ∨ x.toInt = 6 ∨ x.toInt = 7 ∨ x.toInt = 8 := by omega
  rcases h1 with h1 | h1 | h1 | h1 | h1 | h1 | h1 | h1
  · exact Or.inl (i32_of h1 (by decide))
  · exact Or.inr (Or.inl (i32_of h1 (by decide)))
  · exact Or.inr (Or.inr (Or.inl (i32_of h1 (by decide))))
  · exact Or.inr (Or.inr (Or.inr (Or.inl (i32_of h1 (by decide)))))
  · exact Or.inr (Or.inr (Or.inr (Or.inr (Or.inl (i32_of h1 (by decide))))))
  · exact Or.inr (Or.inr (Or.inr (Or.inr (Or.inr (Or.inl (i32_of h1 (by decide)))))))
  · exact Or.inr (Or.inr (Or.inr (Or.inr (Or.inr (Or.inr (Or.inl (i32_of h1 (by decide))))))))
  · exact Or.inr (Or.inr (Or.inr (Or.inr (Or.inr (Or.inr (Or.inr ((i32_of h1 (by decide)))))))))
theorem sw_1_9 {x : Int32} (h : ¬ (x.toInt < 1 ∨ 9 < x.toInt)) : x = 1 ∨ x = 2 ∨ x = 3 ∨ x = 4 ∨ x = 5 ∨ x = 6 ∨ x = 7 ∨ x = 8 ∨ x = 9 := by
  have h1 : x.toInt = 1 ∨ x.toInt = 2 ∨ x.toInt = 3 ∨ x.toInt = 4 ∨ x.toInt = 5 ∨ x.toInt = 6 ∨ x.toInt = 7 ∨ x.toInt = 8 ∨ x.toInt = 9 := by omega
  rcases h1 with h1 | h1 | h1 | h1 | h1 | h1 | h1 | h1 | h1
  · exact Or.inl (i32_of h1 (by decide))
  · exact Or.inr (Or.inl (i32_of h1 (by decide)))
  · exact Or.inr (Or.inr (Or.inl (i32_of h1 (by decide))))
  · exact Or.inr (Or.inr (Or.inr (Or.inl (i32_of h1 (by decide)))))
  · exact Or.inr (Or.inr (Or.inr (Or.inr (Or.inl (i32_of h1 (by decide))))))
  · exact Or.inr (Or.inr (Or.inr (Or.inr (Or.inr (Or.inl (i32_of h1 (by decide)))))))
  · exact Or.inr (Or.inr (Or.inr (Or.inr (Or.inr (Or.inr (Or.inl (i32_of h1 (by decide))))))))
  · exact Or.inr (Or.inr (Or.inr (Or.inr (Or.inr (Or.inr (Or.inr (Or.inl (i32_of h1 (by decide)))))))))
  · exact Or.inr (Or.inr (Or.inr (Or.inr (Or.inr (Or.inr (Or.inr (Or.inr ((i32_of h1 (by decide))))))))))
theorem sw_2_6 {x : Int32} (h : ¬ (x.toInt < 2 ∨ 6 < x.toInt)) : x = 2 ∨ x = 3 ∨ x = 4 ∨ x = 5 ∨ x = 6 := by
  have h1 : x.toInt = 2 ∨ x.toInt = 3 ∨ x.toInt = 4 ∨ x.toInt = 5 ∨ x.toInt = 6 := by omega
  rcases h1 with h1 | h1 | h1 | h1 | h1
  · exact Or.inl (i32_of h1 (by decide))
  · exact Or.inr (Or.inl (i32_of h1 (by decide)))
  · exact Or.inr (Or.inr (Or.inl (i32_of h1 (by decide))))
  · exact Or.inr (Or.inr (Or.inr (Or.inl (i32_of h1 (by decide)))))
  · exact Or.inr (Or.inr (Or.inr (Or.inr ((i32_of h1 (by decide))))))
theorem sw_3_9 {x : Int32} (h : ¬ (x.toInt < 3 ∨ 9 < x.toInt)) : x = 3 ∨ x = 4 ∨ x = 5 ∨ x = 6 ∨ x = 7 ∨ x = 8 ∨ x = 9 := by
  have h1 : x.toInt = 3 ∨ x.toInt = 4 ∨ x.toInt = 5 ∨ x.toInt = 6 ∨ x.toInt = 7 ∨ x.toInt = 8 ∨ x.toInt = 9 := by omega
  rcases h1 with h1 | h1 | h1 | h1 | h1 | h1 | h1
  · exact Or.inl (i32_of h1 (by decide))
  · exact Or.inr (Or.inl (i32_of h1 (by decide)))
  · exact Or.inr (Or.inr (Or.inl (i32_of h1 (by decide))))
  · exact Or.inr (Or.inr (Or.inr (Or.inl (i32_of h1 (by decide)))))
  · exact Or.inr (Or.inr (Or.inr (Or.inr (Or.inl (i32_of h1 (by decide))))))
  · exact Or.inr (Or.inr (Or.inr (Or.inr (Or.inr (Or.inl (i32_of h1 (by decide)))))))
  · exact Or.inr (Or.inr (Or.inr (Or.inr (Or.inr (Or.inr ((i32_of h1 (by decide))))))))
