set_option maxRecDepth 20000 in
theorem w_199 : (Jvm.Cond.methodLink "AmendedDrawingLaw" (90 : Nat) ({ cls := "AmendedDrawing", name := "actions", desc := "()I" } : Jvm.MethodName)) ∈ TT := tt_mem 199 rfl rfl
set_option maxRecDepth 20000 in
theorem w_203 : (Jvm.Cond.methodLink "AmendedDrawingLaw" (107 : Nat) ({ cls := "AmendedDrawing", name := "objects", desc := "()I" } : Jvm.MethodName)) ∈ TT := tt_mem 203 rfl rfl
set_option maxRecDepth 20000 in
theorem w_207 : (Jvm.Cond.methodLink "AmendedDrawingLaw" (114 : Nat) ({ cls := "AmendedDrawing", name := "hit", desc := "(II)I" } : Jvm.MethodName)) ∈ TT := tt_mem 207 rfl rfl
set_option maxRecDepth 20000 in
theorem w_230 : (Jvm.Cond.methodLink "AmendedDrawingLaw" (122 : Nat) ({ cls := "AmendedDrawing", name := "inside", desc := "(IIIII)I" } : Jvm.MethodName)) ∈ TT := tt_mem 230 rfl rfl
set_option maxRecDepth 20000 in
theorem w_238 : (Jvm.Cond.methodLink "AmendedDrawingLaw" (63 : Nat) ({ cls := "AmendedDrawingLaw", name := "commit", desc := "(LAmendedDrawing;IIIII[J)I" } : Jvm.MethodName)) ∈ TT := tt_mem 238 rfl rfl
set_option maxRecDepth 20000 in
theorem w_503 : (Jvm.Cond.methodLink "AmendedDrawingLaw" (72 : Nat) ({ cls := "AmendedDrawingLaw", name := "withdraw", desc := "(LAmendedDrawing;I[J)I" } : Jvm.MethodName)) ∈ TT := tt_mem 503 rfl rfl
set_option maxRecDepth 20000 in
theorem w_544 : (Jvm.Cond.methodLink "AmendedDrawingLaw" (76 : Nat) ({ cls := "AmendedDrawingLaw", name := "reinstate", desc := "(LAmendedDrawing;I[J)I" } : Jvm.MethodName)) ∈ TT := tt_mem 544 rfl rfl
set_option maxRecDepth 20000 in
theorem w_551 : (Jvm.Cond.methodLink "AmendedDrawingLaw" (79 : Nat) ({ cls := "AmendedDrawingLaw", name := "amend", desc := "(LAmendedDrawing;III[J)I" } : Jvm.MethodName)) ∈ TT := tt_mem 551 rfl rfl
set_option maxRecDepth 20000 in
theorem w_559 : (Jvm.Cond.methodLink "AmendedDrawingLaw" (83 : Nat) ({ cls := "AmendedDrawingLaw", name := "undo", desc := "(LAmendedDrawing;[J)I" } : Jvm.MethodName)) ∈ TT := tt_mem 559 rfl rfl
set_option maxRecDepth 20000 in
theorem w_590 : (Jvm.Cond.methodLink "AmendedDrawingLaw" (87 : Nat) ({ cls := "AmendedDrawingLaw", name := "redo", desc := "(LAmendedDrawing;[J)I" } : Jvm.MethodName)) ∈ TT := tt_mem 590 rfl rfl
set_option maxRecDepth 20000 in
theorem w_601 : (Jvm.Cond.methodLink "AmendedDrawingLaw" (94 : Nat) ({ cls := "AmendedDrawingLaw", name := "argument", desc := "(LAmendedDrawing;II[J)I" } : Jvm.MethodName)) ∈ TT := tt_mem 601 rfl rfl
set_option maxRecDepth 20000 in
theorem w_608 : (Jvm.Cond.methodLink "AmendedDrawingLaw" (98 : Nat) ({ cls := "AmendedDrawingLaw", name := "effect", desc := "(LAmendedDrawing;I[J)I" } : Jvm.MethodName)) ∈ TT := tt_mem 608 rfl rfl
set_option maxRecDepth 20000 in
theorem w_615 : (Jvm.Cond.methodLink "AmendedDrawingLaw" (101 : Nat) ({ cls := "AmendedDrawingLaw", name := "needed", desc := "(LAmendedDrawing;II[J)I" } : Jvm.MethodName)) ∈ TT := tt_mem 615 rfl rfl
set_option maxRecDepth 20000 in
theorem w_622 : (Jvm.Cond.methodLink "AmendedDrawingLaw" (104 : Nat) ({ cls := "AmendedDrawingLaw", name := "needs", desc := "(LAmendedDrawing;II[J)I" } : Jvm.MethodName)) ∈ TT := tt_mem 622 rfl rfl
set_option maxRecDepth 20000 in
theorem w_629 : (Jvm.Cond.methodLink "AmendedDrawingLaw" (111 : Nat) ({ cls := "AmendedDrawingLaw", name := "object", desc := "(LAmendedDrawing;II[J)I" } : Jvm.MethodName)) ∈ TT := tt_mem 629 rfl rfl
set_option maxRecDepth 20000 in
theorem w_640 : (Jvm.Cond.methodLink "AmendedDrawingLaw" (118 : Nat) ({ cls := "AmendedDrawingLaw", name := "shown", desc := "(LAmendedDrawing;IIII[J)I" } : Jvm.MethodName)) ∈ TT := tt_mem 640 rfl rfl
set_option maxRecDepth 20000 in
theorem w_717 : (Jvm.Cond.methodLink "AmendedDrawingLaw" (69 : Nat) ({ cls := "AmendedDrawingModel", name := "thrown", desc := "()I" } : Jvm.MethodName)) ∈ TT := tt_mem 717 rfl rfl
set_option maxRecDepth 20000 in
theorem w_721 : (Jvm.Cond.methodLink "AmendedDrawingLaw" (68 : Nat) ({ cls := "AmendedDrawingModel", name := "commit", desc := "(IIIII)I" } : Jvm.MethodName)) ∈ TT := tt_mem 721 rfl rfl
set_option maxRecDepth 20000 in
theorem w_851 : (Jvm.Cond.methodLink "AmendedDrawingLaw" (75 : Nat) ({ cls := "AmendedDrawingModel", name := "withdraw", desc := "(I)I" } : Jvm.MethodName)) ∈ TT := tt_mem 851 rfl rfl
set_option maxRecDepth 20000 in
theorem w_871 : (Jvm.Cond.methodLink "AmendedDrawingLaw" (78 : Nat) ({ cls := "AmendedDrawingModel", name := "reinstate", desc := "(I)I" } : Jvm.MethodName)) ∈ TT := tt_mem 871 rfl rfl
set_option maxRecDepth 20000 in
theorem w_875 : (Jvm.Cond.methodLink "AmendedDrawingLaw" (82 : Nat) ({ cls := "AmendedDrawingModel", name := "amend", desc := "(III)I" } : Jvm.MethodName)) ∈ TT := tt_mem 875 rfl rfl
set_option maxRecDepth 20000 in
theorem w_879 : (Jvm.Cond.methodLink "AmendedDrawingLaw" (86 : Nat) ({ cls := "AmendedDrawingModel", name := "undo", desc := "()I" } : Jvm.MethodName)) ∈ TT := tt_mem 879 rfl rfl
set_option maxRecDepth 20000 in
theorem w_887 : (Jvm.Cond.methodLink "AmendedDrawingLaw" (89 : Nat) ({ cls := "AmendedDrawingModel", name := "redo", desc := "()I" } : Jvm.MethodName)) ∈ TT := tt_mem 887 rfl rfl
set_option maxRecDepth 20000 in
theorem w_891 : (Jvm.Cond.methodLink "AmendedDrawingLaw" (93 : Nat) ({ cls := "AmendedDrawingModel", name := "actions", desc := "()I" } : Jvm.MethodName)) ∈ TT := tt_mem 891 rfl rfl
set_option maxRecDepth 20000 in
theorem w_895 : (Jvm.Cond.methodLink "AmendedDrawingLaw" (97 : Nat) ({ cls := "AmendedDrawingModel", name := "argument", desc := "(II)I" } : Jvm.MethodName)) ∈ TT := tt_mem 895 rfl rfl
set_option maxRecDepth 20000 in
theorem w_899 : (Jvm.Cond.methodLink "AmendedDrawingLaw" (100 : Nat) ({ cls := "AmendedDrawingModel", name := "effect", desc := "(I)I" } : Jvm.MethodName)) ∈ TT := tt_mem 899 rfl rfl
set_option maxRecDepth 20000 in
theorem w_903 : (Jvm.Cond.methodLink "AmendedDrawingLaw" (103 : Nat) ({ cls := "AmendedDrawingModel", name := "needed", desc := "(II)I" } : Jvm.MethodName)) ∈ TT := tt_mem 903 rfl rfl
set_option maxRecDepth 20000 in
theorem w_907 : (Jvm.Cond.methodLink "AmendedDrawingLaw" (106 : Nat) ({ cls := "AmendedDrawingModel", name := "needs", desc := "(II)I" } : Jvm.MethodName)) ∈ TT := tt_mem 907 rfl rfl
set_option maxRecDepth 20000 in
theorem w_911 : (Jvm.Cond.methodLink "AmendedDrawingLaw" (110 : Nat) ({ cls := "AmendedDrawingModel", name := "objects", desc := "()I" } : Jvm.MethodName)) ∈ TT := tt_mem 911 rfl rfl
set_option maxRecDepth 20000 in
theorem w_915 : (Jvm.Cond.methodLink "AmendedDrawingLaw" (113 : Nat) ({ cls := "AmendedDrawingModel", name := "object", desc := "(II)I" } : Jvm.MethodName)) ∈ TT := tt_mem 915 rfl rfl
set_option maxRecDepth 20000 in
theorem w_919 : (Jvm.Cond.methodLink "AmendedDrawingLaw" (117 : Nat) ({ cls := "AmendedDrawingModel", name := "hit", desc := "(II)I" } : Jvm.MethodName)) ∈ TT := tt_mem 919 rfl rfl
set_option maxRecDepth 20000 in
theorem w_935 : (Jvm.Cond.methodLink "AmendedDrawingLaw" (121 : Nat) ({ cls := "AmendedDrawingModel", name := "shown", desc := "(IIII)I" } : Jvm.MethodName)) ∈ TT := tt_mem 935 rfl rfl
set_option maxRecDepth 20000 in
theorem w_939 : (Jvm.Cond.methodLink "AmendedDrawingLaw" (125 : Nat) ({ cls := "AmendedDrawingModel", name := "inside", desc := "(IIIII)I" } : Jvm.MethodName)) ∈ TT := tt_mem 939 rfl rfl
theorem sw_0_15 {x : Int32} (h : ¬ (x.toInt < 0 ∨ 15 < x.toInt)) : x = 0 ∨ x = 1 ∨ x = 2 ∨ x = 3 ∨ x = 4 ∨ x = 5 ∨ x = 6 ∨ x = 7 ∨ x = 8 ∨ x = 9 ∨ x = 10 ∨ x = 11 ∨ x = 12 ∨ x = 13 ∨ x = 14 ∨ x = 15 := by
  have h1 : x.toInt = 0 ∨ x.toInt = 1 ∨ x.toInt = 2 ∨ x.toInt = 3 ∨ x.toInt = 4 ∨ x.toInt = 5 ∨ x.toInt = 6 ∨ x.toInt = 7 ∨ x.toInt = 8 ∨ x.toInt = 9 ∨ x.toInt = 10 ∨ x.toInt = 11 ∨ x.toInt = 12 ∨ x.toInt = 13 ∨ x.toInt = 14 ∨ x.toInt = 15 := by omega
  rcases h1 with h1 | h1 | h1 | h1 | h1 | h1 | h1 | h1 | h1 | h1 | h1 | h1 | h1 | h1 | h1 | h1
  · exact Or.inl (i32_of h1 (by decide))
  · exact Or.inr (Or.inl (i32_of h1 (by decide)))
  · exact Or.inr (Or.inr (Or.inl (i32_of h1 (by decide))))
  · exact Or.inr (Or.inr (Or.inr (Or.inl (i32_of h1 (by decide)))))
  · exact Or.inr (Or.inr (Or.inr (Or.inr (Or.inl (i32_of h1 (by decide))))))
  · exact Or.inr (Or.inr (Or.inr (Or.inr (Or.inr (Or.inl (i32_of h1 (by decide)))))))
  · exact Or.inr (Or.inr (Or.inr (Or.inr (Or.inr (Or.inr (Or.inl (i32_of h1 (by decide))))))))
  · exact Or.inr (Or.inr (Or.inr (Or.inr (Or.inr (Or.inr (Or.inr (Or.inl (i32_of h1 (by decide)))))))))
  · exact Or.inr (Or.inr (Or.inr (Or.inr (Or.inr (Or.inr (Or.inr (Or.inr (Or.inl (i32_of h1 (by decide))))))))))
  · exact Or.inr (Or.inr (Or.inr (Or.inr (Or.inr (Or.inr (Or.inr (Or.inr (Or.inr (Or.inl (i32_of h1 (by decide)))))))))))
  · exact Or.inr (Or.inr (Or.inr (Or.inr (Or.inr (Or.inr (Or.inr (Or.inr (Or.inr (Or.inr (Or.inl (i32_of h1 (by decide))))))))))))
  · exact Or.inr (Or.inr (Or.inr (Or.inr (Or.inr (Or.inr (Or.inr (Or.inr (Or.inr (Or.inr (Or.inr (Or.inl (i32_of h1 (by decide)))))))))))))
  · exact Or.inr (Or.inr (Or.inr (Or.inr (Or.inr (Or.inr (Or.inr (Or.inr (Or.inr (Or.inr (Or.inr (Or.inr (Or.inl (i32_of h1 (by decide))))))))))))))
  · exact Or.inr (Or.inr (Or.inr (Or.inr (Or.inr (Or.inr (Or.inr (Or.inr (Or.inr (Or.inr (Or.inr (Or.inr (Or.inr (Or.inl (i32_of h1 (by decide)))))))))))))))
  · exact Or.inr (Or.inr (Or.inr (Or.inr (Or.inr (Or.inr (Or.inr (Or.inr (Or.inr (Or.inr (Or.inr (Or.inr (Or.inr (Or.inr (Or.inl (i32_of h1 (by decide))))))))))))))))
  · exact Or.inr (Or.inr (Or.inr (Or.inr (Or.inr (Or.inr (Or.inr (Or.inr (Or.inr (Or.inr (Or.inr (Or.inr (Or.inr (Or.inr (Or.inr ((i32_of h1 (by decide)))))))))))))))))
theorem al2 {a b : List Row} {f : Row → Bool} (ha : a.all f = true) (hb : b.all f = true) : (a ++ b).all f = true := by rw [List.all_append, ha, hb]; rfl
def T_l_law : List Row := T_l_law_0 ++ (T_l_law_1 ++ (T_l_law_2 ++ (T_l_law_3 ++ (T_l_law_4 ++ (T_l_law_5 ++ (T_l_law_6 ++ (T_l_law_7 ++ (T_l_law_8 ++ (T_l_law_9 ++ (T_l_law_10 ++ (T_l_law_11 ++ (T_l_law_12 ++ (T_l_law_13 ++ (T_l_law_14 ++ (T_l_law_15 ++ (T_l_law_16 ++ (T_l_law_17 ++ (T_l_law_18 ++ (T_l_law_19 ++ (T_l_law_20 ++ (T_l_law_21 ++ (T_l_law_22 ++ (T_l_law_23 ++ (T_l_law_24 ++ (T_l_law_25 ++ (T_l_law_26 ++ (T_l_law_27 ++ (T_l_law_28 ++ (T_l_law_29 ++ (T_l_law_30 ++ (T_l_law_31 ++ (T_l_law_32))))))))))))))))))))))))))))))))
abbrev M_l_law : MI := (⟨"AmendedDrawingLaw", "law", "([I)Z"⟩, code, 7, some .boolean, room_1, [], T_l_law)
theorem ok_l_law : okM M_l_law := (al2 ok_l_law_0 (al2 ok_l_law_1 (al2 ok_l_law_2 (al2 ok_l_law_3 (al2 ok_l_law_4 (al2 ok_l_law_5 (al2 ok_l_law_6 (al2 ok_l_law_7 (al2 ok_l_law_8 (al2 ok_l_law_9 (al2 ok_l_law_10 (al2 ok_l_law_11 (al2 ok_l_law_12 (al2 ok_l_law_13 (al2 ok_l_law_14 (al2 ok_l_law_15 (al2 ok_l_law_16 (al2 ok_l_law_17 (al2 ok_l_law_18 (al2 ok_l_law_19 (al2 ok_l_law_20 (al2 ok_l_law_21 (al2 ok_l_law_22 (al2 ok_l_law_23 (al2 ok_l_law_24 (al2 ok_l_law_25 (al2 ok_l_law_26 (al2 ok_l_law_27 (al2 ok_l_law_28 (al2 ok_l_law_29 (al2 ok_l_law_30 (al2 ok_l_law_31 ok_l_law_32))))))))))))))))))))))))))))))))
theorem rmL {M' : MI} {c sl : Nat} (h1 : Nat.ble ((mM M').frames + 1) 11 = true) (h2 : Nat.ble (8 + (mL M' + 11) + (mM M').locals) 426 = true) (h3 : Nat.ble (mM M').cells 1000 = true) (h4 : Nat.ble (mM M').slots 10000 = true) (hc : c ≤ 5000) (hs : sl ≤ 20000) : rmOk M_l_law M' c sl = true := by
  have q3 := Nat.le_of_ble_eq_true h3
  have q4 := Nat.le_of_ble_eq_true h4
  simp only [rmOk, Bool.and_eq_true]
  exact ⟨h1, h2, bleo (show c + (mM M').cells ≤ 630482 by omega), bleo (show sl + (mM M').slots ≤ 7204658 by omega)⟩
theorem nI_pls (a b : Nat) : nI a + nI b = nI (a + b) := (Int32.ofNat_add a b).symm
theorem vin {a L : Nat} (j : Nat) (h : a + j < L) (hL : L < 2 ^ 31) : vp_in (nI a + nI j) L := by
  rw [nI_pls]; exact nI_in h hL
theorem lenB {a L : Nat} (ha : a ≤ 4000) (hL : L ≤ 3072) (h : ¬ (Int32.ofNat L - 6 < nI a)) : a + 6 ≤ L := by
  have h1 : (Int32.ofNat L).toInt = (L : Int) := toInt_of rfl (by omega)
  have h2 : (nI a).toInt = (a : Int) := nI_toInt (by omega)
  have h3 : (Int32.ofNat L - 6).toInt = (L : Int) - 6 := by
    rw [Int32.toInt_sub, h1]
    have h6 : (6 : Int32).toInt = 6 := by decide
    rw [h6]
    simp only [Int.bmod]
    omega
  rw [Int32.lt_iff_toInt_lt, h2, h3] at h
  omega
def RC_commit (Inv : Mem → Prop) (a1 a2 a3 a4 a5 : Int32) (k : Int32) (S1 : Mem) (J1 : Nat → Nat → Int64) : Prop := r_commit (fun b S2 => S2 148 0 = k ∧ (k = 0 → J1 158 0 = b.toInt64) ∧ Inv S2) S1 a1 a2 a3 a4 a5
def OK_commit (Inv : Mem → Prop) : Prop := ∀ (S : Mem) (J : Nat → Nat → Int64) (a1 a2 a3 a4 a5 : Int32), Inv S → cd_commit (fun r S' => RC_commit Inv a1 a2 a3 a4 a5 0 S' (up2 J 158 0 r.toInt64)) (fun n S' => (n = 1 ∧ RC_commit Inv a1 a2 a3 a4 a5 1 S' J) ∨ (n = 2 ∧ RC_commit Inv a1 a2 a3 a4 a5 2 S' J)) S a1 a2 a3 a4 a5
def RC_withdraw (Inv : Mem → Prop) (a1 : Int32) (k : Int32) (S1 : Mem) (J1 : Nat → Nat → Int64) : Prop := r_withdraw (fun b S2 => S2 148 0 = k ∧ (k = 0 → J1 158 0 = b.toInt64) ∧ Inv S2) S1 a1
def OK_withdraw (Inv : Mem → Prop) : Prop := ∀ (S : Mem) (J : Nat → Nat → Int64) (a1 : Int32), Inv S → cd_withdraw (fun r S' => RC_withdraw Inv a1 0 S' (up2 J 158 0 r.toInt64)) (fun n S' => (n = 3 ∧ RC_withdraw Inv a1 1 S' J) ∨ (n = 2 ∧ RC_withdraw Inv a1 2 S' J)) S a1
def RC_reinstate (Inv : Mem → Prop) (a1 : Int32) (k : Int32) (S1 : Mem) (J1 : Nat → Nat → Int64) : Prop := r_reinstate (fun b S2 => S2 148 0 = k ∧ (k = 0 → J1 158 0 = b.toInt64) ∧ Inv S2) S1 a1
def OK_reinstate (Inv : Mem → Prop) : Prop := ∀ (S : Mem) (J : Nat → Nat → Int64) (a1 : Int32), Inv S → cd_reinstate (fun r S' => RC_reinstate Inv a1 0 S' (up2 J 158 0 r.toInt64)) (fun n S' => (n = 3 ∧ RC_reinstate Inv a1 1 S' J) ∨ (n = 2 ∧ RC_reinstate Inv a1 2 S' J)) S a1
def RC_amend (Inv : Mem → Prop) (a1 a2 a3 : Int32) (k : Int32) (S1 : Mem) (J1 : Nat → Nat → Int64) : Prop := r_amend (fun b S2 => S2 148 0 = k ∧ (k = 0 → J1 158 0 = b.toInt64) ∧ Inv S2) S1 a1 a2 a3
def OK_amend (Inv : Mem → Prop) : Prop := ∀ (S : Mem) (J : Nat → Nat → Int64) (a1 a2 a3 : Int32), Inv S → cd_amend (fun r S' => RC_amend Inv a1 a2 a3 0 S' (up2 J 158 0 r.toInt64)) (fun n S' => (n = 3 ∧ RC_amend Inv a1 a2 a3 1 S' J) ∨ (n = 1 ∧ RC_amend Inv a1 a2 a3 2 S' J)) S a1 a2 a3
def RC_undo (Inv : Mem → Prop) (k : Int32) (S1 : Mem) (J1 : Nat → Nat → Int64) : Prop := r_undo (fun b S2 => S2 148 0 = k ∧ (k = 0 → J1 158 0 = b.toInt64) ∧ Inv S2) S1 
def OK_undo (Inv : Mem → Prop) : Prop := ∀ (S : Mem) (J : Nat → Nat → Int64), Inv S → cd_undo (fun r S' => RC_undo Inv  0 S' (up2 J 158 0 r.toInt64)) (fun n S' => (n = 4 ∧ RC_undo Inv 1 S' J)) S 
def RC_redo (Inv : Mem → Prop) (k : Int32) (S1 : Mem) (J1 : Nat → Nat → Int64) : Prop := r_redo (fun b S2 => S2 148 0 = k ∧ (k = 0 → J1 158 0 = b.toInt64) ∧ Inv S2) S1 
def OK_redo (Inv : Mem → Prop) : Prop := ∀ (S : Mem) (J : Nat → Nat → Int64), Inv S → cd_redo (fun r S' => RC_redo Inv  0 S' (up2 J 158 0 r.toInt64)) (fun n S' => (n = 4 ∧ RC_redo Inv 1 S' J)) S 
def OK_actions (Inv : Mem → Prop) : Prop := ∀ (S : Mem), Inv S → cd_actions (fun r S1 => r_actions (fun b S2 => r = b ∧ Inv S2) S1 ) S 
def RC_argument (Inv : Mem → Prop) (a1 a2 : Int32) (k : Int32) (S1 : Mem) (J1 : Nat → Nat → Int64) : Prop := r_argument (fun b S2 => S2 148 0 = k ∧ (k = 0 → J1 158 0 = b.toInt64) ∧ Inv S2) S1 a1 a2
def OK_argument (Inv : Mem → Prop) : Prop := ∀ (S : Mem) (J : Nat → Nat → Int64) (a1 a2 : Int32), Inv S → cd_argument (fun r S' => RC_argument Inv a1 a2 0 S' (up2 J 158 0 r.toInt64)) (fun n S' => (n = 3 ∧ RC_argument Inv a1 a2 1 S' J)) S a1 a2
def RC_effect (Inv : Mem → Prop) (a1 : Int32) (k : Int32) (S1 : Mem) (J1 : Nat → Nat → Int64) : Prop := r_effect (fun b S2 => S2 148 0 = k ∧ (k = 0 → J1 158 0 = b.toInt64) ∧ Inv S2) S1 a1
def OK_effect (Inv : Mem → Prop) : Prop := ∀ (S : Mem) (J : Nat → Nat → Int64) (a1 : Int32), Inv S → cd_effect (fun r S' => RC_effect Inv a1 0 S' (up2 J 158 0 r.toInt64)) (fun n S' => (n = 3 ∧ RC_effect Inv a1 1 S' J)) S a1
def RC_needed (Inv : Mem → Prop) (a1 a2 : Int32) (k : Int32) (S1 : Mem) (J1 : Nat → Nat → Int64) : Prop := r_needed (fun b S2 => S2 148 0 = k ∧ (k = 0 → J1 158 0 = b.toInt64) ∧ Inv S2) S1 a1 a2
def OK_needed (Inv : Mem → Prop) : Prop := ∀ (S : Mem) (J : Nat → Nat → Int64) (a1 a2 : Int32), Inv S → cd_needed (fun r S' => RC_needed Inv a1 a2 0 S' (up2 J 158 0 r.toInt64)) (fun n S' => (n = 3 ∧ RC_needed Inv a1 a2 1 S' J)) S a1 a2
def RC_needs (Inv : Mem → Prop) (a1 a2 : Int32) (k : Int32) (S1 : Mem) (J1 : Nat → Nat → Int64) : Prop := r_needs (fun b S2 => S2 148 0 = k ∧ (k = 0 → J1 158 0 = b.toInt64) ∧ Inv S2) S1 a1 a2
def OK_needs (Inv : Mem → Prop) : Prop := ∀ (S : Mem) (J : Nat → Nat → Int64) (a1 a2 : Int32), Inv S → cd_needs (fun r S' => RC_needs Inv a1 a2 0 S' (up2 J 158 0 r.toInt64)) (fun n S' => (n = 3 ∧ RC_needs Inv a1 a2 1 S' J)) S a1 a2
def OK_objects (Inv : Mem → Prop) : Prop := ∀ (S : Mem), Inv S → cd_objects (fun r S1 => r_objects (fun b S2 => r = b ∧ Inv S2) S1 ) S 
def RC_object (Inv : Mem → Prop) (a1 a2 : Int32) (k : Int32) (S1 : Mem) (J1 : Nat → Nat → Int64) : Prop := r_object (fun b S2 => S2 148 0 = k ∧ (k = 0 → J1 158 0 = b.toInt64) ∧ Inv S2) S1 a1 a2
def OK_object (Inv : Mem → Prop) : Prop := ∀ (S : Mem) (J : Nat → Nat → Int64) (a1 a2 : Int32), Inv S → cd_object (fun r S' => RC_object Inv a1 a2 0 S' (up2 J 158 0 r.toInt64)) (fun n S' => (n = 3 ∧ RC_object Inv a1 a2 1 S' J)) S a1 a2
def OK_hit (Inv : Mem → Prop) : Prop := ∀ (S : Mem) (a1 a2 : Int32), Inv S → cd_hit (fun r S1 => r_hit (fun b S2 => r = b ∧ Inv S2) S1 a1 a2) S a1 a2
def RC_shown (Inv : Mem → Prop) (a1 a2 a3 a4 : Int32) (k : Int32) (S1 : Mem) (J1 : Nat → Nat → Int64) : Prop := r_shown (fun b S2 => S2 148 0 = k ∧ (k = 0 → J1 158 0 = b.toInt64) ∧ Inv S2) S1 a1 a2 a3 a4
def OK_shown (Inv : Mem → Prop) : Prop := ∀ (S : Mem) (J : Nat → Nat → Int64) (a1 a2 a3 a4 : Int32), Inv S → cd_shown (fun r S' => RC_shown Inv a1 a2 a3 a4 0 S' (up2 J 158 0 r.toInt64)) (fun n S' => (n = 1 ∧ RC_shown Inv a1 a2 a3 a4 1 S' J)) S a1 a2 a3 a4
def OK_inside (Inv : Mem → Prop) : Prop := ∀ (S : Mem) (a1 a2 a3 a4 a5 : Int32), Inv S → cd_inside (fun r S1 => r_inside (fun b S2 => r = b ∧ Inv S2) S1 a1 a2 a3 a4 a5) S a1 a2 a3 a4 a5
theorem cmp_eq {x y : Int64} (h : x = y) : lg_cmp x y = 0 := by
  subst h
  have h1 : ¬ x > x := by simp
  simp [lg_cmp, h1]
set_option maxRecDepth 100000 in
set_option maxHeartbeats 4000000 in
theorem law_loop {g : Gm} (htr : ∀ e, (g_l g).admits e → e.platform.stackTraces = false) (hn : g_n g ≤ 3072) {Inv : Mem → Prop} (ok_commit : OK_commit Inv) (ok_withdraw : OK_withdraw Inv) (ok_reinstate : OK_reinstate Inv) (ok_amend : OK_amend Inv) (ok_undo : OK_undo Inv) (ok_redo : OK_redo Inv) (ok_actions : OK_actions Inv) (ok_argument : OK_argument Inv) (ok_effect : OK_effect Inv) (ok_needed : OK_needed Inv) (ok_needs : OK_needs Inv) (ok_objects : OK_objects Inv) (ok_object : OK_object Inv) (ok_hit : OK_hit Inv) (ok_shown : OK_shown Inv) (ok_inside : OK_inside Inv) :
    ∀ (r a c sl : Nat) (S : Mem) (J : Nat → Nat → Int64) (o5 o6 : Option Value), g_n g < a + r → a ≤ g_n g + 6 → c ≤ 159 + a → sl ≤ 1700 + 2 * a → Inv S →
      Z g M_l_law c sl 23 [some (.retAddr 1), some (.ref 0), some (.ref 148), some (.ref 158), some (.int (nI a)), o5, o6] [] (S, GJ J) (fun r _ => r = .inl (some (.int 1))) := by
  intro r
  induction r with
  | zero =>
    intro a c sl S J o5 o6 h1 h2 hc hs hI
    refine z_iload rfl rfl ?_
    refine z_aload_ns rfl rfl ?_
    refine z_alenS rfl ?_
    refine z_bipush 6 rfl rfl ?_
    refine z_isub rfl ?_
    refine z_icmp_gt rfl (fun _ => ?_) (fun hq => absurd (lenB (by omega) hn hq) (by omega))
    refine z_iconst 1 rfl rfl ?_
    exact z_zret rfl rfl (by decide) (bleo (show c ≤ 630482 by omega)) (bleo (show sl ≤ 7204658 by omega)) rfl
  | succ r ih =>
    intro a c sl S J o5 o6 h1 h2 hc hs hI
    have hnext : ∀ (S1 : Mem) (J1 : Nat → Nat → Int64) (c1 sl1 : Nat) (o5 o6 : Option Value), a + 6 ≤ g_n g → c1 ≤ c + 6 → sl1 ≤ sl + 12 → Inv S1 → Z g M_l_law c1 sl1 1060 [some (.retAddr 1), some (.ref 0), some (.ref 148), some (.ref 158), some (.int (nI a)), o5, o6] [] (S1, GJ J1) (fun r _ => r = .inl (some (.int 1))) := by
      intro S1 J1 c1 sl1 o5 o6 hL h3 h4 hI1
      refine z_iinc 6 [some (.retAddr 1), some (.ref 0), some (.ref 148), some (.ref 158), some (.int (nI (a + 6))), o5, o6] rfl rfl rfl (by rw [← nI_pls]; rfl) ?_
      refine z_goto rfl ?_
      exact ih (a + 6) c1 sl1 S1 J1 o5 o6 (by omega) (by omega) (by omega) (by omega) hI1
    refine z_iload rfl rfl ?_
    refine z_aload_ns rfl rfl ?_
    refine z_alenS rfl ?_
    refine z_bipush 6 rfl rfl ?_
    refine z_isub rfl ?_
    refine z_icmp_gt rfl (fun _ => ?_) (fun hq => ?_)
    · refine z_iconst 1 rfl rfl ?_
      exact z_zret rfl rfl (by decide) (bleo (show c ≤ 630482 by omega)) (bleo (show sl ≤ 7204658 by omega)) rfl
    have hL := lenB (by omega) hn hq
    have hL31 : g_n g < 2 ^ 31 := by omega
    have hGD : isD (GJ J) := lay_D J false
    refine z_aload_ns rfl rfl ?_
    refine z_iload rfl rfl ?_
    refine z_ialdS rfl (nI_in (show a < g_n g by omega) hL31) ?_
    refine z_bipush 15 rfl rfl ?_
    refine z_iand rfl ?_
    by_cases hr : (g_x g (nI a).toNatClampNeg &&& 15).toInt < 0 ∨ 15 < (g_x g (nI a).toNatClampNeg &&& 15).toInt
    · refine z_switch 1060 rfl (sw_out hr rfl) ?_
      exact hnext S J c sl o5 o6 hL (by omega) (by omega) hI
    rcases sw_0_15 hr with hq | hq | hq | hq | hq | hq | hq | hq | hq | hq | hq | hq | hq | hq | hq | hq
    · refine z_switch 120 rfl (sw_eq hq rfl) ?_
      have e1 : (mM M_l_commit).cells ≤ 2 := by decide
      have e2 : (mM M_l_commit).slots ≤ 12 := by decide
      have e3 : (mM M_r_commit).cells = 0 := rfl
      have e4 : (mM M_r_commit).slots = 0 := rfl
      have e5 : (mM M_r_thrown).cells = 0 := rfl
      have e6 : (mM M_r_thrown).slots = 0 := rfl
      refine z_aload_n rfl rfl ?_
      refine z_aload_ns rfl rfl ?_
      refine z_iload rfl rfl ?_
      refine z_iconst 1 rfl rfl ?_
      refine z_iadd rfl ?_
      refine z_ialdS rfl (vin 1 (show a + 1 < g_n g by omega) hL31) ?_
      refine z_aload_ns rfl rfl ?_
      refine z_iload rfl rfl ?_
      refine z_iconst 2 rfl rfl ?_
      refine z_iadd rfl ?_
      refine z_ialdS rfl (vin 2 (show a + 2 < g_n g by omega) hL31) ?_
      refine z_aload_ns rfl rfl ?_
      refine z_iload rfl rfl ?_
      refine z_iconst 3 rfl rfl ?_
      refine z_iadd rfl ?_
      refine z_ialdS rfl (vin 3 (show a + 3 < g_n g by omega) hL31) ?_
      refine z_aload_ns rfl rfl ?_
      refine z_iload rfl rfl ?_
      refine z_iconst 4 rfl rfl ?_
      refine z_iadd rfl ?_
      refine z_ialdS rfl (vin 4 (show a + 4 < g_n g by omega) hL31) ?_
      refine z_aload_ns rfl rfl ?_
      refine z_iload rfl rfl ?_
      refine z_iconst 5 rfl rfl ?_
      refine z_iadd rfl ?_
      refine z_ialdS rfl (vin 5 (show a + 5 < g_n g by omega) hL31) ?_
      refine z_aload_n rfl rfl ?_
      refine z_csW (M' := M_l_commit) [.ref 0, .int (g_x g (nI a + 1).toNatClampNeg), .int (g_x g (nI a + 2).toNatClampNeg), .int (g_x g (nI a + 3).toNatClampNeg), .int (g_x g (nI a + 4).toNatClampNeg), .int (g_x g (nI a + 5).toNatClampNeg), .ref 158] rfl w_238 cow_l_commit cst_l_commit np_l_commit rfl (rmL rfl rfl rfl rfl (by omega) (by omega)) rfl (zl_commit (P := RC_commit Inv (g_x g (nI a + 1).toNatClampNeg) (g_x g (nI a + 2).toNatClampNeg) (g_x g (nI a + 3).toNatClampNeg) (g_x g (nI a + 4).toNatClampNeg) (g_x g (nI a + 5).toNatClampNeg)) htr (ok_commit S J (g_x g (nI a + 1).toNatClampNeg) (g_x g (nI a + 2).toNatClampNeg) (g_x g (nI a + 3).toNatClampNeg) (g_x g (nI a + 4).toNatClampNeg) (g_x g (nI a + 5).toNatClampNeg) hI)) ?_ ?_ ?_
      · rintro r h' ⟨k, S1, J1, -, rfl, -⟩ hq0; cases hq0
      rotate_left
      · rintro n h' ⟨k, S1, J1, hv, -, -⟩; cases hv
      rintro v h' ⟨k, S1, J1, hv, rfl, hp⟩
      cases hv
      have hGR : isR (GJ J1) := lay_R J1 false
      refine z_istore [some (.retAddr 1), some (.ref 0), some (.ref 148), some (.ref 158), some (.int (nI a)), some (.int k), o6] rfl rfl rfl ?_
      refine z_aload_n rfl rfl ?_
      refine z_aload_ns rfl rfl ?_
      refine z_iload rfl rfl ?_
      refine z_iconst 1 rfl rfl ?_
      refine z_iadd rfl ?_
      refine z_ialdS rfl (vin 1 (show a + 1 < g_n g by omega) hL31) ?_
      refine z_aload_ns rfl rfl ?_
      refine z_iload rfl rfl ?_
      refine z_iconst 2 rfl rfl ?_
      refine z_iadd rfl ?_
      refine z_ialdS rfl (vin 2 (show a + 2 < g_n g by omega) hL31) ?_
      refine z_aload_ns rfl rfl ?_
      refine z_iload rfl rfl ?_
      refine z_iconst 3 rfl rfl ?_
      refine z_iadd rfl ?_
      refine z_ialdS rfl (vin 3 (show a + 3 < g_n g by omega) hL31) ?_
      refine z_aload_ns rfl rfl ?_
      refine z_iload rfl rfl ?_
      refine z_iconst 4 rfl rfl ?_
      refine z_iadd rfl ?_
      refine z_ialdS rfl (vin 4 (show a + 4 < g_n g by omega) hL31) ?_
      refine z_aload_ns rfl rfl ?_
      refine z_iload rfl rfl ?_
      refine z_iconst 5 rfl rfl ?_
      refine z_iadd rfl ?_
      refine z_ialdS rfl (vin 5 (show a + 5 < g_n g by omega) hL31) ?_
      refine z_cvi (M' := M_r_commit) [.int (g_x g (nI a + 1).toNatClampNeg), .int (g_x g (nI a + 2).toNatClampNeg), .int (g_x g (nI a + 3).toNatClampNeg), .int (g_x g (nI a + 4).toNatClampNeg), .int (g_x g (nI a + 5).toNatClampNeg)] rfl rfl w_721 cv_r_commit hGR.1 (by decide) rfl rfl (rmL rfl rfl rfl rfl (by omega) (by omega)) rfl (zr_commit rfl hGR hp) ?_ (fun _ _ hf => hf.elim)
      clear hp
      rintro b S2 ⟨hp1, hp2, hI2⟩
      refine z_istore [some (.retAddr 1), some (.ref 0), some (.ref 148), some (.ref 158), some (.int (nI a)), some (.int k), some (.int b)] rfl rfl rfl ?_
      refine z_aload_n rfl rfl ?_
      refine z_cvi (M' := M_r_thrown) (post := fun v S' => S2 148 0 = v ∧ S2 = S') [] rfl rfl w_717 cv_r_thrown hGR.1 (by decide) rfl rfl (rmL rfl rfl rfl rfl (by omega) (by omega)) rfl (zr_thrown rfl hGR ⟨rfl, rfl⟩) ?_ (fun _ _ hf => hf.elim)
      rintro v S' ⟨rfl, rfl⟩
      refine z_iload rfl rfl ?_
      refine z_icmp_eq rfl (fun _ => ?_) (fun hne => absurd hp1 hne)
      refine z_iload rfl rfl ?_
      refine z_if_ne rfl (fun hk0 => ?_) (fun hk0 => ?_)
      · refine z_goto rfl ?_
        exact hnext S2 J1 _ _ _ _ hL (by omega) (by omega) hI2
      refine z_aload_n rfl rfl ?_
      refine z_iconst 0 rfl rfl ?_
      refine z_lald (n := 1) rfl t158 (vp_lit rfl) ?_
      refine z_iload rfl rfl ?_
      refine z_i2l rfl ?_
      refine z_lcmp rfl ?_
      refine z_if_eq rfl (fun _ => ?_) (fun hne => absurd (cmp_eq (hp2 hk0)) hne)
      refine z_goto rfl ?_
      exact hnext S2 J1 _ _ _ _ hL (by omega) (by omega) hI2
    · refine z_switch 224 rfl (sw_eq hq rfl) ?_
      have e1 : (mM M_l_withdraw).cells ≤ 2 := by decide
      have e2 : (mM M_l_withdraw).slots ≤ 12 := by decide
      have e3 : (mM M_r_withdraw).cells = 0 := rfl
      have e4 : (mM M_r_withdraw).slots = 0 := rfl
      have e5 : (mM M_r_thrown).cells = 0 := rfl
      have e6 : (mM M_r_thrown).slots = 0 := rfl
      refine z_aload_n rfl rfl ?_
      refine z_aload_ns rfl rfl ?_
      refine z_iload rfl rfl ?_
      refine z_iconst 1 rfl rfl ?_
      refine z_iadd rfl ?_
      refine z_ialdS rfl (vin 1 (show a + 1 < g_n g by omega) hL31) ?_
      refine z_aload_n rfl rfl ?_
      refine z_csW (M' := M_l_withdraw) [.ref 0, .int (g_x g (nI a + 1).toNatClampNeg), .ref 158] rfl w_503 cow_l_withdraw cst_l_withdraw np_l_withdraw rfl (rmL rfl rfl rfl rfl (by omega) (by omega)) rfl (zl_withdraw (P := RC_withdraw Inv (g_x g (nI a + 1).toNatClampNeg)) htr (ok_withdraw S J (g_x g (nI a + 1).toNatClampNeg) hI)) ?_ ?_ ?_
      · rintro r h' ⟨k, S1, J1, -, rfl, -⟩ hq0; cases hq0
      rotate_left
      · rintro n h' ⟨k, S1, J1, hv, -, -⟩; cases hv
      rintro v h' ⟨k, S1, J1, hv, rfl, hp⟩
      cases hv
      have hGR : isR (GJ J1) := lay_R J1 false
      refine z_istore [some (.retAddr 1), some (.ref 0), some (.ref 148), some (.ref 158), some (.int (nI a)), some (.int k), o6] rfl rfl rfl ?_
      refine z_aload_n rfl rfl ?_
      refine z_aload_ns rfl rfl ?_
      refine z_iload rfl rfl ?_
      refine z_iconst 1 rfl rfl ?_
      refine z_iadd rfl ?_
      refine z_ialdS rfl (vin 1 (show a + 1 < g_n g by omega) hL31) ?_
      refine z_cvi (M' := M_r_withdraw) [.int (g_x g (nI a + 1).toNatClampNeg)] rfl rfl w_851 cv_r_withdraw hGR.1 (by decide) rfl rfl (rmL rfl rfl rfl rfl (by omega) (by omega)) rfl (zr_withdraw rfl hGR hp) ?_ (fun _ _ hf => hf.elim)
      clear hp
      rintro b S2 ⟨hp1, hp2, hI2⟩
      refine z_istore [some (.retAddr 1), some (.ref 0), some (.ref 148), some (.ref 158), some (.int (nI a)), some (.int k), some (.int b)] rfl rfl rfl ?_
      refine z_aload_n rfl rfl ?_
      refine z_cvi (M' := M_r_thrown) (post := fun v S' => S2 148 0 = v ∧ S2 = S') [] rfl rfl w_717 cv_r_thrown hGR.1 (by decide) rfl rfl (rmL rfl rfl rfl rfl (by omega) (by omega)) rfl (zr_thrown rfl hGR ⟨rfl, rfl⟩) ?_ (fun _ _ hf => hf.elim)
      rintro v S' ⟨rfl, rfl⟩
      refine z_iload rfl rfl ?_
      refine z_icmp_eq rfl (fun _ => ?_) (fun hne => absurd hp1 hne)
      refine z_iload rfl rfl ?_
      refine z_if_ne rfl (fun hk0 => ?_) (fun hk0 => ?_)
      · refine z_goto rfl ?_
        exact hnext S2 J1 _ _ _ _ hL (by omega) (by omega) hI2
      refine z_aload_n rfl rfl ?_
      refine z_iconst 0 rfl rfl ?_
      refine z_lald (n := 1) rfl t158 (vp_lit rfl) ?_
      refine z_iload rfl rfl ?_
      refine z_i2l rfl ?_
      refine z_lcmp rfl ?_
      refine z_if_eq rfl (fun _ => ?_) (fun hne => absurd (cmp_eq (hp2 hk0)) hne)
      refine z_goto rfl ?_
      exact hnext S2 J1 _ _ _ _ hL (by omega) (by omega) hI2
    · refine z_switch 280 rfl (sw_eq hq rfl) ?_
      have e1 : (mM M_l_reinstate).cells ≤ 2 := by decide
      have e2 : (mM M_l_reinstate).slots ≤ 12 := by decide
      have e3 : (mM M_r_reinstate).cells = 0 := rfl
      have e4 : (mM M_r_reinstate).slots = 0 := rfl
      have e5 : (mM M_r_thrown).cells = 0 := rfl
      have e6 : (mM M_r_thrown).slots = 0 := rfl
      refine z_aload_n rfl rfl ?_
      refine z_aload_ns rfl rfl ?_
      refine z_iload rfl rfl ?_
      refine z_iconst 1 rfl rfl ?_
      refine z_iadd rfl ?_
      refine z_ialdS rfl (vin 1 (show a + 1 < g_n g by omega) hL31) ?_
      refine z_aload_n rfl rfl ?_
      refine z_csW (M' := M_l_reinstate) [.ref 0, .int (g_x g (nI a + 1).toNatClampNeg), .ref 158] rfl w_544 cow_l_reinstate cst_l_reinstate np_l_reinstate rfl (rmL rfl rfl rfl rfl (by omega) (by omega)) rfl (zl_reinstate (P := RC_reinstate Inv (g_x g (nI a + 1).toNatClampNeg)) htr (ok_reinstate S J (g_x g (nI a + 1).toNatClampNeg) hI)) ?_ ?_ ?_
      · rintro r h' ⟨k, S1, J1, -, rfl, -⟩ hq0; cases hq0
      rotate_left
      · rintro n h' ⟨k, S1, J1, hv, -, -⟩; cases hv
      rintro v h' ⟨k, S1, J1, hv, rfl, hp⟩
      cases hv
      have hGR : isR (GJ J1) := lay_R J1 false
      refine z_istore [some (.retAddr 1), some (.ref 0), some (.ref 148), some (.ref 158), some (.int (nI a)), some (.int k), o6] rfl rfl rfl ?_
      refine z_aload_n rfl rfl ?_
      refine z_aload_ns rfl rfl ?_
      refine z_iload rfl rfl ?_
      refine z_iconst 1 rfl rfl ?_
      refine z_iadd rfl ?_
      refine z_ialdS rfl (vin 1 (show a + 1 < g_n g by omega) hL31) ?_
      refine z_cvi (M' := M_r_reinstate) [.int (g_x g (nI a + 1).toNatClampNeg)] rfl rfl w_871 cv_r_reinstate hGR.1 (by decide) rfl rfl (rmL rfl rfl rfl rfl (by omega) (by omega)) rfl (zr_reinstate rfl hGR hp) ?_ (fun _ _ hf => hf.elim)
      clear hp
      rintro b S2 ⟨hp1, hp2, hI2⟩
      refine z_istore [some (.retAddr 1), some (.ref 0), some (.ref 148), some (.ref 158), some (.int (nI a)), some (.int k), some (.int b)] rfl rfl rfl ?_
      refine z_aload_n rfl rfl ?_
      refine z_cvi (M' := M_r_thrown) (post := fun v S' => S2 148 0 = v ∧ S2 = S') [] rfl rfl w_717 cv_r_thrown hGR.1 (by decide) rfl rfl (rmL rfl rfl rfl rfl (by omega) (by omega)) rfl (zr_thrown rfl hGR ⟨rfl, rfl⟩) ?_ (fun _ _ hf => hf.elim)
      rintro v S' ⟨rfl, rfl⟩
      refine z_iload rfl rfl ?_
      refine z_icmp_eq rfl (fun _ => ?_) (fun hne => absurd hp1 hne)
      refine z_iload rfl rfl ?_
      refine z_if_ne rfl (fun hk0 => ?_) (fun hk0 => ?_)
      · refine z_goto rfl ?_
        exact hnext S2 J1 _ _ _ _ hL (by omega) (by omega) hI2
      refine z_aload_n rfl rfl ?_
      refine z_iconst 0 rfl rfl ?_
      refine z_lald (n := 1) rfl t158 (vp_lit rfl) ?_
      refine z_iload rfl rfl ?_
      refine z_i2l rfl ?_
      refine z_lcmp rfl ?_
      refine z_if_eq rfl (fun _ => ?_) (fun hne => absurd (cmp_eq (hp2 hk0)) hne)
      refine z_goto rfl ?_
      exact hnext S2 J1 _ _ _ _ hL (by omega) (by omega) hI2
    · refine z_switch 336 rfl (sw_eq hq rfl) ?_
      have e1 : (mM M_l_amend).cells ≤ 2 := by decide
      have e2 : (mM M_l_amend).slots ≤ 12 := by decide
      have e3 : (mM M_r_amend).cells = 0 := rfl
      have e4 : (mM M_r_amend).slots = 0 := rfl
      have e5 : (mM M_r_thrown).cells = 0 := rfl
      have e6 : (mM M_r_thrown).slots = 0 := rfl
      refine z_aload_n rfl rfl ?_
      refine z_aload_ns rfl rfl ?_
      refine z_iload rfl rfl ?_
      refine z_iconst 1 rfl rfl ?_
      refine z_iadd rfl ?_
      refine z_ialdS rfl (vin 1 (show a + 1 < g_n g by omega) hL31) ?_
      refine z_aload_ns rfl rfl ?_
      refine z_iload rfl rfl ?_
      refine z_iconst 2 rfl rfl ?_
      refine z_iadd rfl ?_
      refine z_ialdS rfl (vin 2 (show a + 2 < g_n g by omega) hL31) ?_
      refine z_aload_ns rfl rfl ?_
      refine z_iload rfl rfl ?_
      refine z_iconst 3 rfl rfl ?_
      refine z_iadd rfl ?_
      refine z_ialdS rfl (vin 3 (show a + 3 < g_n g by omega) hL31) ?_
      refine z_aload_n rfl rfl ?_
      refine z_csW (M' := M_l_amend) [.ref 0, .int (g_x g (nI a + 1).toNatClampNeg), .int (g_x g (nI a + 2).toNatClampNeg), .int (g_x g (nI a + 3).toNatClampNeg), .ref 158] rfl w_551 cow_l_amend cst_l_amend np_l_amend rfl (rmL rfl rfl rfl rfl (by omega) (by omega)) rfl (zl_amend (P := RC_amend Inv (g_x g (nI a + 1).toNatClampNeg) (g_x g (nI a + 2).toNatClampNeg) (g_x g (nI a + 3).toNatClampNeg)) htr (ok_amend S J (g_x g (nI a + 1).toNatClampNeg) (g_x g (nI a + 2).toNatClampNeg) (g_x g (nI a + 3).toNatClampNeg) hI)) ?_ ?_ ?_
      · rintro r h' ⟨k, S1, J1, -, rfl, -⟩ hq0; cases hq0
      rotate_left
      · rintro n h' ⟨k, S1, J1, hv, -, -⟩; cases hv
      rintro v h' ⟨k, S1, J1, hv, rfl, hp⟩
      cases hv
      have hGR : isR (GJ J1) := lay_R J1 false
      refine z_istore [some (.retAddr 1), some (.ref 0), some (.ref 148), some (.ref 158), some (.int (nI a)), some (.int k), o6] rfl rfl rfl ?_
      refine z_aload_n rfl rfl ?_
      refine z_aload_ns rfl rfl ?_
      refine z_iload rfl rfl ?_
      refine z_iconst 1 rfl rfl ?_
      refine z_iadd rfl ?_
      refine z_ialdS rfl (vin 1 (show a + 1 < g_n g by omega) hL31) ?_
      refine z_aload_ns rfl rfl ?_
      refine z_iload rfl rfl ?_
      refine z_iconst 2 rfl rfl ?_
      refine z_iadd rfl ?_
      refine z_ialdS rfl (vin 2 (show a + 2 < g_n g by omega) hL31) ?_
      refine z_aload_ns rfl rfl ?_
      refine z_iload rfl rfl ?_
      refine z_iconst 3 rfl rfl ?_
      refine z_iadd rfl ?_
      refine z_ialdS rfl (vin 3 (show a + 3 < g_n g by omega) hL31) ?_
      refine z_cvi (M' := M_r_amend) [.int (g_x g (nI a + 1).toNatClampNeg), .int (g_x g (nI a + 2).toNatClampNeg), .int (g_x g (nI a + 3).toNatClampNeg)] rfl rfl w_875 cv_r_amend hGR.1 (by decide) rfl rfl (rmL rfl rfl rfl rfl (by omega) (by omega)) rfl (zr_amend rfl hGR hp) ?_ (fun _ _ hf => hf.elim)
      clear hp
      rintro b S2 ⟨hp1, hp2, hI2⟩
      refine z_istore [some (.retAddr 1), some (.ref 0), some (.ref 148), some (.ref 158), some (.int (nI a)), some (.int k), some (.int b)] rfl rfl rfl ?_
      refine z_aload_n rfl rfl ?_
      refine z_cvi (M' := M_r_thrown) (post := fun v S' => S2 148 0 = v ∧ S2 = S') [] rfl rfl w_717 cv_r_thrown hGR.1 (by decide) rfl rfl (rmL rfl rfl rfl rfl (by omega) (by omega)) rfl (zr_thrown rfl hGR ⟨rfl, rfl⟩) ?_ (fun _ _ hf => hf.elim)
      rintro v S' ⟨rfl, rfl⟩
      refine z_iload rfl rfl ?_
      refine z_icmp_eq rfl (fun _ => ?_) (fun hne => absurd hp1 hne)
      refine z_iload rfl rfl ?_
      refine z_if_ne rfl (fun hk0 => ?_) (fun hk0 => ?_)
      · refine z_goto rfl ?_
        exact hnext S2 J1 _ _ _ _ hL (by omega) (by omega) hI2
      refine z_aload_n rfl rfl ?_
      refine z_iconst 0 rfl rfl ?_
      refine z_lald (n := 1) rfl t158 (vp_lit rfl) ?_
      refine z_iload rfl rfl ?_
      refine z_i2l rfl ?_
      refine z_lcmp rfl ?_
      refine z_if_eq rfl (fun _ => ?_) (fun hne => absurd (cmp_eq (hp2 hk0)) hne)
      refine z_goto rfl ?_
      exact hnext S2 J1 _ _ _ _ hL (by omega) (by omega) hI2
    · refine z_switch 416 rfl (sw_eq hq rfl) ?_
      have e1 : (mM M_l_undo).cells ≤ 2 := by decide
      have e2 : (mM M_l_undo).slots ≤ 12 := by decide
      have e3 : (mM M_r_undo).cells = 0 := rfl
      have e4 : (mM M_r_undo).slots = 0 := rfl
      have e5 : (mM M_r_thrown).cells = 0 := rfl
      have e6 : (mM M_r_thrown).slots = 0 := rfl
      refine z_aload_n rfl rfl ?_
      refine z_aload_n rfl rfl ?_
      refine z_csW (M' := M_l_undo) [.ref 0, .ref 158] rfl w_559 cow_l_undo cst_l_undo np_l_undo rfl (rmL rfl rfl rfl rfl (by omega) (by omega)) rfl (zl_undo (P := RC_undo Inv ) htr (ok_undo S J hI)) ?_ ?_ ?_
      · rintro r h' ⟨k, S1, J1, -, rfl, -⟩ hq0; cases hq0
      rotate_left
      · rintro n h' ⟨k, S1, J1, hv, -, -⟩; cases hv
      rintro v h' ⟨k, S1, J1, hv, rfl, hp⟩
      cases hv
      have hGR : isR (GJ J1) := lay_R J1 false
      refine z_istore [some (.retAddr 1), some (.ref 0), some (.ref 148), some (.ref 158), some (.int (nI a)), some (.int k), o6] rfl rfl rfl ?_
      refine z_aload_n rfl rfl ?_
      refine z_cvi (M' := M_r_undo) [] rfl rfl w_879 cv_r_undo hGR.1 (by decide) rfl rfl (rmL rfl rfl rfl rfl (by omega) (by omega)) rfl (zr_undo rfl hGR hp) ?_ (fun _ _ hf => hf.elim)
      clear hp
      rintro b S2 ⟨hp1, hp2, hI2⟩
      refine z_istore [some (.retAddr 1), some (.ref 0), some (.ref 148), some (.ref 158), some (.int (nI a)), some (.int k), some (.int b)] rfl rfl rfl ?_
      refine z_aload_n rfl rfl ?_
      refine z_cvi (M' := M_r_thrown) (post := fun v S' => S2 148 0 = v ∧ S2 = S') [] rfl rfl w_717 cv_r_thrown hGR.1 (by decide) rfl rfl (rmL rfl rfl rfl rfl (by omega) (by omega)) rfl (zr_thrown rfl hGR ⟨rfl, rfl⟩) ?_ (fun _ _ hf => hf.elim)
      rintro v S' ⟨rfl, rfl⟩
      refine z_iload rfl rfl ?_
      refine z_icmp_eq rfl (fun _ => ?_) (fun hne => absurd hp1 hne)
      refine z_iload rfl rfl ?_
      refine z_if_ne rfl (fun hk0 => ?_) (fun hk0 => ?_)
      · refine z_goto rfl ?_
        exact hnext S2 J1 _ _ _ _ hL (by omega) (by omega) hI2
      refine z_aload_n rfl rfl ?_
      refine z_iconst 0 rfl rfl ?_
      refine z_lald (n := 1) rfl t158 (vp_lit rfl) ?_
      refine z_iload rfl rfl ?_
      refine z_i2l rfl ?_
      refine z_lcmp rfl ?_
      refine z_if_eq rfl (fun _ => ?_) (fun hne => absurd (cmp_eq (hp2 hk0)) hne)
      refine z_goto rfl ?_
      exact hnext S2 J1 _ _ _ _ hL (by omega) (by omega) hI2
    · refine z_switch 460 rfl (sw_eq hq rfl) ?_
      have e1 : (mM M_l_redo).cells ≤ 2 := by decide
      have e2 : (mM M_l_redo).slots ≤ 12 := by decide
      have e3 : (mM M_r_redo).cells = 0 := rfl
      have e4 : (mM M_r_redo).slots = 0 := rfl
      have e5 : (mM M_r_thrown).cells = 0 := rfl
      have e6 : (mM M_r_thrown).slots = 0 := rfl
      refine z_aload_n rfl rfl ?_
      refine z_aload_n rfl rfl ?_
      refine z_csW (M' := M_l_redo) [.ref 0, .ref 158] rfl w_590 cow_l_redo cst_l_redo np_l_redo rfl (rmL rfl rfl rfl rfl (by omega) (by omega)) rfl (zl_redo (P := RC_redo Inv ) htr (ok_redo S J hI)) ?_ ?_ ?_
      · rintro r h' ⟨k, S1, J1, -, rfl, -⟩ hq0; cases hq0
      rotate_left
      · rintro n h' ⟨k, S1, J1, hv, -, -⟩; cases hv
      rintro v h' ⟨k, S1, J1, hv, rfl, hp⟩
      cases hv
      have hGR : isR (GJ J1) := lay_R J1 false
      refine z_istore [some (.retAddr 1), some (.ref 0), some (.ref 148), some (.ref 158), some (.int (nI a)), some (.int k), o6] rfl rfl rfl ?_
      refine z_aload_n rfl rfl ?_
      refine z_cvi (M' := M_r_redo) [] rfl rfl w_887 cv_r_redo hGR.1 (by decide) rfl rfl (rmL rfl rfl rfl rfl (by omega) (by omega)) rfl (zr_redo rfl hGR hp) ?_ (fun _ _ hf => hf.elim)
      clear hp
      rintro b S2 ⟨hp1, hp2, hI2⟩
      refine z_istore [some (.retAddr 1), some (.ref 0), some (.ref 148), some (.ref 158), some (.int (nI a)), some (.int k), some (.int b)] rfl rfl rfl ?_
      refine z_aload_n rfl rfl ?_
      refine z_cvi (M' := M_r_thrown) (post := fun v S' => S2 148 0 = v ∧ S2 = S') [] rfl rfl w_717 cv_r_thrown hGR.1 (by decide) rfl rfl (rmL rfl rfl rfl rfl (by omega) (by omega)) rfl (zr_thrown rfl hGR ⟨rfl, rfl⟩) ?_ (fun _ _ hf => hf.elim)
      rintro v S' ⟨rfl, rfl⟩
      refine z_iload rfl rfl ?_
      refine z_icmp_eq rfl (fun _ => ?_) (fun hne => absurd hp1 hne)
      refine z_iload rfl rfl ?_
      refine z_if_ne rfl (fun hk0 => ?_) (fun hk0 => ?_)
      · refine z_goto rfl ?_
        exact hnext S2 J1 _ _ _ _ hL (by omega) (by omega) hI2
      refine z_aload_n rfl rfl ?_
      refine z_iconst 0 rfl rfl ?_
      refine z_lald (n := 1) rfl t158 (vp_lit rfl) ?_
      refine z_iload rfl rfl ?_
      refine z_i2l rfl ?_
      refine z_lcmp rfl ?_
      refine z_if_eq rfl (fun _ => ?_) (fun hne => absurd (cmp_eq (hp2 hk0)) hne)
      refine z_goto rfl ?_
      exact hnext S2 J1 _ _ _ _ hL (by omega) (by omega) hI2
    · refine z_switch 504 rfl (sw_eq hq rfl) ?_
      have e1 : (mM M_d_actions).cells = 0 := rfl
      have e2 : (mM M_d_actions).slots = 0 := rfl
      have e3 : (mM M_r_actions).cells = 0 := rfl
      have e4 : (mM M_r_actions).slots = 0 := rfl
      have hGR : isR (GJ J) := lay_R J false
      refine z_aload_n rfl rfl ?_
      refine z_cvi (M' := M_d_actions) [] rfl rfl w_199 cv_d_actions hGD.1 (by decide) rfl rfl (rmL rfl rfl rfl rfl (by omega) (by omega)) rfl (zcd_actions rfl hGD (ok_actions S hI)) ?_ (fun _ _ hf => hf.elim)
      intro x S1 hp
      refine z_aload_n rfl rfl ?_
      refine z_cvi (M' := M_r_actions) [] rfl rfl w_891 cv_r_actions hGR.1 (by decide) rfl rfl (rmL rfl rfl rfl rfl (by omega) (by omega)) rfl (zr_actions rfl hGR hp) ?_ (fun _ _ hf => hf.elim)
      clear hp
      rintro b S2 ⟨hp1, hI2⟩
      refine z_icmp_eq rfl (fun _ => ?_) (fun hne => absurd hp1 hne)
      exact hnext S2 J _ _ _ _ hL (by omega) (by omega) hI2
    · refine z_switch 517 rfl (sw_eq hq rfl) ?_
      have e1 : (mM M_l_argument).cells ≤ 2 := by decide
      have e2 : (mM M_l_argument).slots ≤ 12 := by decide
      have e3 : (mM M_r_argument).cells = 0 := rfl
      have e4 : (mM M_r_argument).slots = 0 := rfl
      have e5 : (mM M_r_thrown).cells = 0 := rfl
      have e6 : (mM M_r_thrown).slots = 0 := rfl
      refine z_aload_n rfl rfl ?_
      refine z_aload_ns rfl rfl ?_
      refine z_iload rfl rfl ?_
      refine z_iconst 1 rfl rfl ?_
      refine z_iadd rfl ?_
      refine z_ialdS rfl (vin 1 (show a + 1 < g_n g by omega) hL31) ?_
      refine z_aload_ns rfl rfl ?_
      refine z_iload rfl rfl ?_
      refine z_iconst 2 rfl rfl ?_
      refine z_iadd rfl ?_
      refine z_ialdS rfl (vin 2 (show a + 2 < g_n g by omega) hL31) ?_
      refine z_aload_n rfl rfl ?_
      refine z_csW (M' := M_l_argument) [.ref 0, .int (g_x g (nI a + 1).toNatClampNeg), .int (g_x g (nI a + 2).toNatClampNeg), .ref 158] rfl w_601 cow_l_argument cst_l_argument np_l_argument rfl (rmL rfl rfl rfl rfl (by omega) (by omega)) rfl (zl_argument (P := RC_argument Inv (g_x g (nI a + 1).toNatClampNeg) (g_x g (nI a + 2).toNatClampNeg)) htr (ok_argument S J (g_x g (nI a + 1).toNatClampNeg) (g_x g (nI a + 2).toNatClampNeg) hI)) ?_ ?_ ?_
      · rintro r h' ⟨k, S1, J1, -, rfl, -⟩ hq0; cases hq0
      rotate_left
      · rintro n h' ⟨k, S1, J1, hv, -, -⟩; cases hv
      rintro v h' ⟨k, S1, J1, hv, rfl, hp⟩
      cases hv
      have hGR : isR (GJ J1) := lay_R J1 false
      refine z_istore [some (.retAddr 1), some (.ref 0), some (.ref 148), some (.ref 158), some (.int (nI a)), some (.int k), o6] rfl rfl rfl ?_
      refine z_aload_n rfl rfl ?_
      refine z_aload_ns rfl rfl ?_
      refine z_iload rfl rfl ?_
      refine z_iconst 1 rfl rfl ?_
      refine z_iadd rfl ?_
      refine z_ialdS rfl (vin 1 (show a + 1 < g_n g by omega) hL31) ?_
      refine z_aload_ns rfl rfl ?_
      refine z_iload rfl rfl ?_
      refine z_iconst 2 rfl rfl ?_
      refine z_iadd rfl ?_
      refine z_ialdS rfl (vin 2 (show a + 2 < g_n g by omega) hL31) ?_
      refine z_cvi (M' := M_r_argument) [.int (g_x g (nI a + 1).toNatClampNeg), .int (g_x g (nI a + 2).toNatClampNeg)] rfl rfl w_895 cv_r_argument hGR.1 (by decide) rfl rfl (rmL rfl rfl rfl rfl (by omega) (by omega)) rfl (zr_argument rfl hGR hp) ?_ (fun _ _ hf => hf.elim)
      clear hp
      rintro b S2 ⟨hp1, hp2, hI2⟩
      refine z_istore [some (.retAddr 1), some (.ref 0), some (.ref 148), some (.ref 158), some (.int (nI a)), some (.int k), some (.int b)] rfl rfl rfl ?_
      refine z_aload_n rfl rfl ?_
      refine z_cvi (M' := M_r_thrown) (post := fun v S' => S2 148 0 = v ∧ S2 = S') [] rfl rfl w_717 cv_r_thrown hGR.1 (by decide) rfl rfl (rmL rfl rfl rfl rfl (by omega) (by omega)) rfl (zr_thrown rfl hGR ⟨rfl, rfl⟩) ?_ (fun _ _ hf => hf.elim)
      rintro v S' ⟨rfl, rfl⟩
      refine z_iload rfl rfl ?_
      refine z_icmp_eq rfl (fun _ => ?_) (fun hne => absurd hp1 hne)
      refine z_iload rfl rfl ?_
      refine z_if_ne rfl (fun hk0 => ?_) (fun hk0 => ?_)
      · refine z_goto rfl ?_
        exact hnext S2 J1 _ _ _ _ hL (by omega) (by omega) hI2
      refine z_aload_n rfl rfl ?_
      refine z_iconst 0 rfl rfl ?_
      refine z_lald (n := 1) rfl t158 (vp_lit rfl) ?_
      refine z_iload rfl rfl ?_
      refine z_i2l rfl ?_
      refine z_lcmp rfl ?_
      refine z_if_eq rfl (fun _ => ?_) (fun hne => absurd (cmp_eq (hp2 hk0)) hne)
      refine z_goto rfl ?_
      exact hnext S2 J1 _ _ _ _ hL (by omega) (by omega) hI2
    · refine z_switch 585 rfl (sw_eq hq rfl) ?_
      have e1 : (mM M_l_effect).cells ≤ 2 := by decide
      have e2 : (mM M_l_effect).slots ≤ 12 := by decide
      have e3 : (mM M_r_effect).cells = 0 := rfl
      have e4 : (mM M_r_effect).slots = 0 := rfl
      have e5 : (mM M_r_thrown).cells = 0 := rfl
      have e6 : (mM M_r_thrown).slots = 0 := rfl
      refine z_aload_n rfl rfl ?_
      refine z_aload_ns rfl rfl ?_
      refine z_iload rfl rfl ?_
      refine z_iconst 1 rfl rfl ?_
      refine z_iadd rfl ?_
      refine z_ialdS rfl (vin 1 (show a + 1 < g_n g by omega) hL31) ?_
      refine z_aload_n rfl rfl ?_
      refine z_csW (M' := M_l_effect) [.ref 0, .int (g_x g (nI a + 1).toNatClampNeg), .ref 158] rfl w_608 cow_l_effect cst_l_effect np_l_effect rfl (rmL rfl rfl rfl rfl (by omega) (by omega)) rfl (zl_effect (P := RC_effect Inv (g_x g (nI a + 1).toNatClampNeg)) htr (ok_effect S J (g_x g (nI a + 1).toNatClampNeg) hI)) ?_ ?_ ?_
      · rintro r h' ⟨k, S1, J1, -, rfl, -⟩ hq0; cases hq0
      rotate_left
      · rintro n h' ⟨k, S1, J1, hv, -, -⟩; cases hv
      rintro v h' ⟨k, S1, J1, hv, rfl, hp⟩
      cases hv
      have hGR : isR (GJ J1) := lay_R J1 false
      refine z_istore [some (.retAddr 1), some (.ref 0), some (.ref 148), some (.ref 158), some (.int (nI a)), some (.int k), o6] rfl rfl rfl ?_
      refine z_aload_n rfl rfl ?_
      refine z_aload_ns rfl rfl ?_
      refine z_iload rfl rfl ?_
      refine z_iconst 1 rfl rfl ?_
      refine z_iadd rfl ?_
      refine z_ialdS rfl (vin 1 (show a + 1 < g_n g by omega) hL31) ?_
      refine z_cvi (M' := M_r_effect) [.int (g_x g (nI a + 1).toNatClampNeg)] rfl rfl w_899 cv_r_effect hGR.1 (by decide) rfl rfl (rmL rfl rfl rfl rfl (by omega) (by omega)) rfl (zr_effect rfl hGR hp) ?_ (fun _ _ hf => hf.elim)
      clear hp
      rintro b S2 ⟨hp1, hp2, hI2⟩
      refine z_istore [some (.retAddr 1), some (.ref 0), some (.ref 148), some (.ref 158), some (.int (nI a)), some (.int k), some (.int b)] rfl rfl rfl ?_
      refine z_aload_n rfl rfl ?_
      refine z_cvi (M' := M_r_thrown) (post := fun v S' => S2 148 0 = v ∧ S2 = S') [] rfl rfl w_717 cv_r_thrown hGR.1 (by decide) rfl rfl (rmL rfl rfl rfl rfl (by omega) (by omega)) rfl (zr_thrown rfl hGR ⟨rfl, rfl⟩) ?_ (fun _ _ hf => hf.elim)
      rintro v S' ⟨rfl, rfl⟩
      refine z_iload rfl rfl ?_
      refine z_icmp_eq rfl (fun _ => ?_) (fun hne => absurd hp1 hne)
      refine z_iload rfl rfl ?_
      refine z_if_ne rfl (fun hk0 => ?_) (fun hk0 => ?_)
      · refine z_goto rfl ?_
        exact hnext S2 J1 _ _ _ _ hL (by omega) (by omega) hI2
      refine z_aload_n rfl rfl ?_
      refine z_iconst 0 rfl rfl ?_
      refine z_lald (n := 1) rfl t158 (vp_lit rfl) ?_
      refine z_iload rfl rfl ?_
      refine z_i2l rfl ?_
      refine z_lcmp rfl ?_
      refine z_if_eq rfl (fun _ => ?_) (fun hne => absurd (cmp_eq (hp2 hk0)) hne)
      refine z_goto rfl ?_
      exact hnext S2 J1 _ _ _ _ hL (by omega) (by omega) hI2
    · refine z_switch 641 rfl (sw_eq hq rfl) ?_
      have e1 : (mM M_l_needed).cells ≤ 2 := by decide
      have e2 : (mM M_l_needed).slots ≤ 12 := by decide
      have e3 : (mM M_r_needed).cells = 0 := rfl
      have e4 : (mM M_r_needed).slots = 0 := rfl
      have e5 : (mM M_r_thrown).cells = 0 := rfl
      have e6 : (mM M_r_thrown).slots = 0 := rfl
      refine z_aload_n rfl rfl ?_
      refine z_aload_ns rfl rfl ?_
      refine z_iload rfl rfl ?_
      refine z_iconst 1 rfl rfl ?_
      refine z_iadd rfl ?_
      refine z_ialdS rfl (vin 1 (show a + 1 < g_n g by omega) hL31) ?_
      refine z_aload_ns rfl rfl ?_
      refine z_iload rfl rfl ?_
      refine z_iconst 2 rfl rfl ?_
      refine z_iadd rfl ?_
      refine z_ialdS rfl (vin 2 (show a + 2 < g_n g by omega) hL31) ?_
      refine z_aload_n rfl rfl ?_
      refine z_csW (M' := M_l_needed) [.ref 0, .int (g_x g (nI a + 1).toNatClampNeg), .int (g_x g (nI a + 2).toNatClampNeg), .ref 158] rfl w_615 cow_l_needed cst_l_needed np_l_needed rfl (rmL rfl rfl rfl rfl (by omega) (by omega)) rfl (zl_needed (P := RC_needed Inv (g_x g (nI a + 1).toNatClampNeg) (g_x g (nI a + 2).toNatClampNeg)) htr (ok_needed S J (g_x g (nI a + 1).toNatClampNeg) (g_x g (nI a + 2).toNatClampNeg) hI)) ?_ ?_ ?_
      · rintro r h' ⟨k, S1, J1, -, rfl, -⟩ hq0; cases hq0
      rotate_left
      · rintro n h' ⟨k, S1, J1, hv, -, -⟩; cases hv
      rintro v h' ⟨k, S1, J1, hv, rfl, hp⟩
      cases hv
      have hGR : isR (GJ J1) := lay_R J1 false
      refine z_istore [some (.retAddr 1), some (.ref 0), some (.ref 148), some (.ref 158), some (.int (nI a)), some (.int k), o6] rfl rfl rfl ?_
      refine z_aload_n rfl rfl ?_
      refine z_aload_ns rfl rfl ?_
      refine z_iload rfl rfl ?_
      refine z_iconst 1 rfl rfl ?_
      refine z_iadd rfl ?_
      refine z_ialdS rfl (vin 1 (show a + 1 < g_n g by omega) hL31) ?_
      refine z_aload_ns rfl rfl ?_
      refine z_iload rfl rfl ?_
      refine z_iconst 2 rfl rfl ?_
      refine z_iadd rfl ?_
      refine z_ialdS rfl (vin 2 (show a + 2 < g_n g by omega) hL31) ?_
      refine z_cvi (M' := M_r_needed) [.int (g_x g (nI a + 1).toNatClampNeg), .int (g_x g (nI a + 2).toNatClampNeg)] rfl rfl w_903 cv_r_needed hGR.1 (by decide) rfl rfl (rmL rfl rfl rfl rfl (by omega) (by omega)) rfl (zr_needed rfl hGR hp) ?_ (fun _ _ hf => hf.elim)
      clear hp
      rintro b S2 ⟨hp1, hp2, hI2⟩
      refine z_istore [some (.retAddr 1), some (.ref 0), some (.ref 148), some (.ref 158), some (.int (nI a)), some (.int k), some (.int b)] rfl rfl rfl ?_
      refine z_aload_n rfl rfl ?_
      refine z_cvi (M' := M_r_thrown) (post := fun v S' => S2 148 0 = v ∧ S2 = S') [] rfl rfl w_717 cv_r_thrown hGR.1 (by decide) rfl rfl (rmL rfl rfl rfl rfl (by omega) (by omega)) rfl (zr_thrown rfl hGR ⟨rfl, rfl⟩) ?_ (fun _ _ hf => hf.elim)
      rintro v S' ⟨rfl, rfl⟩
      refine z_iload rfl rfl ?_
      refine z_icmp_eq rfl (fun _ => ?_) (fun hne => absurd hp1 hne)
      refine z_iload rfl rfl ?_
      refine z_if_ne rfl (fun hk0 => ?_) (fun hk0 => ?_)
      · refine z_goto rfl ?_
        exact hnext S2 J1 _ _ _ _ hL (by omega) (by omega) hI2
      refine z_aload_n rfl rfl ?_
      refine z_iconst 0 rfl rfl ?_
      refine z_lald (n := 1) rfl t158 (vp_lit rfl) ?_
      refine z_iload rfl rfl ?_
      refine z_i2l rfl ?_
      refine z_lcmp rfl ?_
      refine z_if_eq rfl (fun _ => ?_) (fun hne => absurd (cmp_eq (hp2 hk0)) hne)
      refine z_goto rfl ?_
      exact hnext S2 J1 _ _ _ _ hL (by omega) (by omega) hI2
    · refine z_switch 709 rfl (sw_eq hq rfl) ?_
      have e1 : (mM M_l_needs).cells ≤ 2 := by decide
      have e2 : (mM M_l_needs).slots ≤ 12 := by decide
      have e3 : (mM M_r_needs).cells = 0 := rfl
      have e4 : (mM M_r_needs).slots = 0 := rfl
      have e5 : (mM M_r_thrown).cells = 0 := rfl
      have e6 : (mM M_r_thrown).slots = 0 := rfl
      refine z_aload_n rfl rfl ?_
      refine z_aload_ns rfl rfl ?_
      refine z_iload rfl rfl ?_
      refine z_iconst 1 rfl rfl ?_
      refine z_iadd rfl ?_
      refine z_ialdS rfl (vin 1 (show a + 1 < g_n g by omega) hL31) ?_
      refine z_aload_ns rfl rfl ?_
      refine z_iload rfl rfl ?_
      refine z_iconst 2 rfl rfl ?_
      refine z_iadd rfl ?_
      refine z_ialdS rfl (vin 2 (show a + 2 < g_n g by omega) hL31) ?_
      refine z_aload_n rfl rfl ?_
      refine z_csW (M' := M_l_needs) [.ref 0, .int (g_x g (nI a + 1).toNatClampNeg), .int (g_x g (nI a + 2).toNatClampNeg), .ref 158] rfl w_622 cow_l_needs cst_l_needs np_l_needs rfl (rmL rfl rfl rfl rfl (by omega) (by omega)) rfl (zl_needs (P := RC_needs Inv (g_x g (nI a + 1).toNatClampNeg) (g_x g (nI a + 2).toNatClampNeg)) htr (ok_needs S J (g_x g (nI a + 1).toNatClampNeg) (g_x g (nI a + 2).toNatClampNeg) hI)) ?_ ?_ ?_
      · rintro r h' ⟨k, S1, J1, -, rfl, -⟩ hq0; cases hq0
      rotate_left
      · rintro n h' ⟨k, S1, J1, hv, -, -⟩; cases hv
      rintro v h' ⟨k, S1, J1, hv, rfl, hp⟩
      cases hv
      have hGR : isR (GJ J1) := lay_R J1 false
      refine z_istore [some (.retAddr 1), some (.ref 0), some (.ref 148), some (.ref 158), some (.int (nI a)), some (.int k), o6] rfl rfl rfl ?_
      refine z_aload_n rfl rfl ?_
      refine z_aload_ns rfl rfl ?_
      refine z_iload rfl rfl ?_
      refine z_iconst 1 rfl rfl ?_
      refine z_iadd rfl ?_
      refine z_ialdS rfl (vin 1 (show a + 1 < g_n g by omega) hL31) ?_
      refine z_aload_ns rfl rfl ?_
      refine z_iload rfl rfl ?_
      refine z_iconst 2 rfl rfl ?_
      refine z_iadd rfl ?_
      refine z_ialdS rfl (vin 2 (show a + 2 < g_n g by omega) hL31) ?_
      refine z_cvi (M' := M_r_needs) [.int (g_x g (nI a + 1).toNatClampNeg), .int (g_x g (nI a + 2).toNatClampNeg)] rfl rfl w_907 cv_r_needs hGR.1 (by decide) rfl rfl (rmL rfl rfl rfl rfl (by omega) (by omega)) rfl (zr_needs rfl hGR hp) ?_ (fun _ _ hf => hf.elim)
      clear hp
      rintro b S2 ⟨hp1, hp2, hI2⟩
      refine z_istore [some (.retAddr 1), some (.ref 0), some (.ref 148), some (.ref 158), some (.int (nI a)), some (.int k), some (.int b)] rfl rfl rfl ?_
      refine z_aload_n rfl rfl ?_
      refine z_cvi (M' := M_r_thrown) (post := fun v S' => S2 148 0 = v ∧ S2 = S') [] rfl rfl w_717 cv_r_thrown hGR.1 (by decide) rfl rfl (rmL rfl rfl rfl rfl (by omega) (by omega)) rfl (zr_thrown rfl hGR ⟨rfl, rfl⟩) ?_ (fun _ _ hf => hf.elim)
      rintro v S' ⟨rfl, rfl⟩
      refine z_iload rfl rfl ?_
      refine z_icmp_eq rfl (fun _ => ?_) (fun hne => absurd hp1 hne)
      refine z_iload rfl rfl ?_
      refine z_if_ne rfl (fun hk0 => ?_) (fun hk0 => ?_)
      · refine z_goto rfl ?_
        exact hnext S2 J1 _ _ _ _ hL (by omega) (by omega) hI2
      refine z_aload_n rfl rfl ?_
      refine z_iconst 0 rfl rfl ?_
      refine z_lald (n := 1) rfl t158 (vp_lit rfl) ?_
      refine z_iload rfl rfl ?_
      refine z_i2l rfl ?_
      refine z_lcmp rfl ?_
      refine z_if_eq rfl (fun _ => ?_) (fun hne => absurd (cmp_eq (hp2 hk0)) hne)
      refine z_goto rfl ?_
      exact hnext S2 J1 _ _ _ _ hL (by omega) (by omega) hI2
    · refine z_switch 777 rfl (sw_eq hq rfl) ?_
      have e1 : (mM M_d_objects).cells = 0 := rfl
      have e2 : (mM M_d_objects).slots = 0 := rfl
      have e3 : (mM M_r_objects).cells = 0 := rfl
      have e4 : (mM M_r_objects).slots = 0 := rfl
      have hGR : isR (GJ J) := lay_R J false
      refine z_aload_n rfl rfl ?_
      refine z_cvi (M' := M_d_objects) [] rfl rfl w_203 cv_d_objects hGD.1 (by decide) rfl rfl (rmL rfl rfl rfl rfl (by omega) (by omega)) rfl (zcd_objects rfl hGD (ok_objects S hI)) ?_ (fun _ _ hf => hf.elim)
      intro x S1 hp
      refine z_aload_n rfl rfl ?_
      refine z_cvi (M' := M_r_objects) [] rfl rfl w_911 cv_r_objects hGR.1 (by decide) rfl rfl (rmL rfl rfl rfl rfl (by omega) (by omega)) rfl (zr_objects rfl hGR hp) ?_ (fun _ _ hf => hf.elim)
      clear hp
      rintro b S2 ⟨hp1, hI2⟩
      refine z_icmp_eq rfl (fun _ => ?_) (fun hne => absurd hp1 hne)
      exact hnext S2 J _ _ _ _ hL (by omega) (by omega) hI2
    · refine z_switch 790 rfl (sw_eq hq rfl) ?_
      have e1 : (mM M_l_object).cells ≤ 2 := by decide
      have e2 : (mM M_l_object).slots ≤ 12 := by decide
      have e3 : (mM M_r_object).cells = 0 := rfl
      have e4 : (mM M_r_object).slots = 0 := rfl
      have e5 : (mM M_r_thrown).cells = 0 := rfl
      have e6 : (mM M_r_thrown).slots = 0 := rfl
      refine z_aload_n rfl rfl ?_
      refine z_aload_ns rfl rfl ?_
      refine z_iload rfl rfl ?_
      refine z_iconst 1 rfl rfl ?_
      refine z_iadd rfl ?_
      refine z_ialdS rfl (vin 1 (show a + 1 < g_n g by omega) hL31) ?_
      refine z_aload_ns rfl rfl ?_
      refine z_iload rfl rfl ?_
      refine z_iconst 2 rfl rfl ?_
      refine z_iadd rfl ?_
      refine z_ialdS rfl (vin 2 (show a + 2 < g_n g by omega) hL31) ?_
      refine z_aload_n rfl rfl ?_
      refine z_csW (M' := M_l_object) [.ref 0, .int (g_x g (nI a + 1).toNatClampNeg), .int (g_x g (nI a + 2).toNatClampNeg), .ref 158] rfl w_629 cow_l_object cst_l_object np_l_object rfl (rmL rfl rfl rfl rfl (by omega) (by omega)) rfl (zl_object (P := RC_object Inv (g_x g (nI a + 1).toNatClampNeg) (g_x g (nI a + 2).toNatClampNeg)) htr (ok_object S J (g_x g (nI a + 1).toNatClampNeg) (g_x g (nI a + 2).toNatClampNeg) hI)) ?_ ?_ ?_
      · rintro r h' ⟨k, S1, J1, -, rfl, -⟩ hq0; cases hq0
      rotate_left
      · rintro n h' ⟨k, S1, J1, hv, -, -⟩; cases hv
      rintro v h' ⟨k, S1, J1, hv, rfl, hp⟩
      cases hv
      have hGR : isR (GJ J1) := lay_R J1 false
      refine z_istore [some (.retAddr 1), some (.ref 0), some (.ref 148), some (.ref 158), some (.int (nI a)), some (.int k), o6] rfl rfl rfl ?_
      refine z_aload_n rfl rfl ?_
      refine z_aload_ns rfl rfl ?_
      refine z_iload rfl rfl ?_
      refine z_iconst 1 rfl rfl ?_
      refine z_iadd rfl ?_
      refine z_ialdS rfl (vin 1 (show a + 1 < g_n g by omega) hL31) ?_
      refine z_aload_ns rfl rfl ?_
      refine z_iload rfl rfl ?_
      refine z_iconst 2 rfl rfl ?_
      refine z_iadd rfl ?_
      refine z_ialdS rfl (vin 2 (show a + 2 < g_n g by omega) hL31) ?_
      refine z_cvi (M' := M_r_object) [.int (g_x g (nI a + 1).toNatClampNeg), .int (g_x g (nI a + 2).toNatClampNeg)] rfl rfl w_915 cv_r_object hGR.1 (by decide) rfl rfl (rmL rfl rfl rfl rfl (by omega) (by omega)) rfl (zr_object rfl hGR hp) ?_ (fun _ _ hf => hf.elim)
      clear hp
      rintro b S2 ⟨hp1, hp2, hI2⟩
      refine z_istore [some (.retAddr 1), some (.ref 0), some (.ref 148), some (.ref 158), some (.int (nI a)), some (.int k), some (.int b)] rfl rfl rfl ?_
      refine z_aload_n rfl rfl ?_
      refine z_cvi (M' := M_r_thrown) (post := fun v S' => S2 148 0 = v ∧ S2 = S') [] rfl rfl w_717 cv_r_thrown hGR.1 (by decide) rfl rfl (rmL rfl rfl rfl rfl (by omega) (by omega)) rfl (zr_thrown rfl hGR ⟨rfl, rfl⟩) ?_ (fun _ _ hf => hf.elim)
      rintro v S' ⟨rfl, rfl⟩
      refine z_iload rfl rfl ?_
      refine z_icmp_eq rfl (fun _ => ?_) (fun hne => absurd hp1 hne)
      refine z_iload rfl rfl ?_
      refine z_if_ne rfl (fun hk0 => ?_) (fun hk0 => ?_)
      · refine z_goto rfl ?_
        exact hnext S2 J1 _ _ _ _ hL (by omega) (by omega) hI2
      refine z_aload_n rfl rfl ?_
      refine z_iconst 0 rfl rfl ?_
      refine z_lald (n := 1) rfl t158 (vp_lit rfl) ?_
      refine z_iload rfl rfl ?_
      refine z_i2l rfl ?_
      refine z_lcmp rfl ?_
      refine z_if_eq rfl (fun _ => ?_) (fun hne => absurd (cmp_eq (hp2 hk0)) hne)
      refine z_goto rfl ?_
      exact hnext S2 J1 _ _ _ _ hL (by omega) (by omega) hI2
    · refine z_switch 858 rfl (sw_eq hq rfl) ?_
      have e1 : (mM M_d_hit).cells = 0 := rfl
      have e2 : (mM M_d_hit).slots = 0 := rfl
      have e3 : (mM M_r_hit).cells = 0 := rfl
      have e4 : (mM M_r_hit).slots = 0 := rfl
      have hGR : isR (GJ J) := lay_R J false
      refine z_aload_n rfl rfl ?_
      refine z_aload_ns rfl rfl ?_
      refine z_iload rfl rfl ?_
      refine z_iconst 1 rfl rfl ?_
      refine z_iadd rfl ?_
      refine z_ialdS rfl (vin 1 (show a + 1 < g_n g by omega) hL31) ?_
      refine z_aload_ns rfl rfl ?_
      refine z_iload rfl rfl ?_
      refine z_iconst 2 rfl rfl ?_
      refine z_iadd rfl ?_
      refine z_ialdS rfl (vin 2 (show a + 2 < g_n g by omega) hL31) ?_
      refine z_cvi (M' := M_d_hit) [.int (g_x g (nI a + 1).toNatClampNeg), .int (g_x g (nI a + 2).toNatClampNeg)] rfl rfl w_207 cv_d_hit hGD.1 (by decide) rfl rfl (rmL rfl rfl rfl rfl (by omega) (by omega)) rfl (zcd_hit rfl hGD (ok_hit S (g_x g (nI a + 1).toNatClampNeg) (g_x g (nI a + 2).toNatClampNeg) hI)) ?_ (fun _ _ hf => hf.elim)
      intro x S1 hp
      refine z_aload_n rfl rfl ?_
      refine z_aload_ns rfl rfl ?_
      refine z_iload rfl rfl ?_
      refine z_iconst 1 rfl rfl ?_
      refine z_iadd rfl ?_
      refine z_ialdS rfl (vin 1 (show a + 1 < g_n g by omega) hL31) ?_
      refine z_aload_ns rfl rfl ?_
      refine z_iload rfl rfl ?_
      refine z_iconst 2 rfl rfl ?_
      refine z_iadd rfl ?_
      refine z_ialdS rfl (vin 2 (show a + 2 < g_n g by omega) hL31) ?_
      refine z_cvi (M' := M_r_hit) [.int (g_x g (nI a + 1).toNatClampNeg), .int (g_x g (nI a + 2).toNatClampNeg)] rfl rfl w_919 cv_r_hit hGR.1 (by decide) rfl rfl (rmL rfl rfl rfl rfl (by omega) (by omega)) rfl (zr_hit rfl hGR hp) ?_ (fun _ _ hf => hf.elim)
      clear hp
      rintro b S2 ⟨hp1, hI2⟩
      refine z_icmp_eq rfl (fun _ => ?_) (fun hne => absurd hp1 hne)
      exact hnext S2 J _ _ _ _ hL (by omega) (by omega) hI2
    · refine z_switch 895 rfl (sw_eq hq rfl) ?_
      have e1 : (mM M_l_shown).cells ≤ 2 := by decide
      have e2 : (mM M_l_shown).slots ≤ 12 := by decide
      have e3 : (mM M_r_shown).cells = 0 := rfl
      have e4 : (mM M_r_shown).slots = 0 := rfl
      have e5 : (mM M_r_thrown).cells = 0 := rfl
      have e6 : (mM M_r_thrown).slots = 0 := rfl
      refine z_aload_n rfl rfl ?_
      refine z_aload_ns rfl rfl ?_
      refine z_iload rfl rfl ?_
      refine z_iconst 1 rfl rfl ?_
      refine z_iadd rfl ?_
      refine z_ialdS rfl (vin 1 (show a + 1 < g_n g by omega) hL31) ?_
      refine z_aload_ns rfl rfl ?_
      refine z_iload rfl rfl ?_
      refine z_iconst 2 rfl rfl ?_
      refine z_iadd rfl ?_
      refine z_ialdS rfl (vin 2 (show a + 2 < g_n g by omega) hL31) ?_
      refine z_aload_ns rfl rfl ?_
      refine z_iload rfl rfl ?_
      refine z_iconst 3 rfl rfl ?_
      refine z_iadd rfl ?_
      refine z_ialdS rfl (vin 3 (show a + 3 < g_n g by omega) hL31) ?_
      refine z_aload_ns rfl rfl ?_
      refine z_iload rfl rfl ?_
      refine z_iconst 4 rfl rfl ?_
      refine z_iadd rfl ?_
      refine z_ialdS rfl (vin 4 (show a + 4 < g_n g by omega) hL31) ?_
      refine z_aload_n rfl rfl ?_
      refine z_csW (M' := M_l_shown) [.ref 0, .int (g_x g (nI a + 1).toNatClampNeg), .int (g_x g (nI a + 2).toNatClampNeg), .int (g_x g (nI a + 3).toNatClampNeg), .int (g_x g (nI a + 4).toNatClampNeg), .ref 158] rfl w_640 cow_l_shown cst_l_shown np_l_shown rfl (rmL rfl rfl rfl rfl (by omega) (by omega)) rfl (zl_shown (P := RC_shown Inv (g_x g (nI a + 1).toNatClampNeg) (g_x g (nI a + 2).toNatClampNeg) (g_x g (nI a + 3).toNatClampNeg) (g_x g (nI a + 4).toNatClampNeg)) htr (ok_shown S J (g_x g (nI a + 1).toNatClampNeg) (g_x g (nI a + 2).toNatClampNeg) (g_x g (nI a + 3).toNatClampNeg) (g_x g (nI a + 4).toNatClampNeg) hI)) ?_ ?_ ?_
      · rintro r h' ⟨k, S1, J1, -, rfl, -⟩ hq0; cases hq0
      rotate_left
      · rintro n h' ⟨k, S1, J1, hv, -, -⟩; cases hv
      rintro v h' ⟨k, S1, J1, hv, rfl, hp⟩
      cases hv
      have hGR : isR (GJ J1) := lay_R J1 false
      refine z_istore [some (.retAddr 1), some (.ref 0), some (.ref 148), some (.ref 158), some (.int (nI a)), some (.int k), o6] rfl rfl rfl ?_
      refine z_aload_n rfl rfl ?_
      refine z_aload_ns rfl rfl ?_
      refine z_iload rfl rfl ?_
      refine z_iconst 1 rfl rfl ?_
      refine z_iadd rfl ?_
      refine z_ialdS rfl (vin 1 (show a + 1 < g_n g by omega) hL31) ?_
      refine z_aload_ns rfl rfl ?_
      refine z_iload rfl rfl ?_
      refine z_iconst 2 rfl rfl ?_
      refine z_iadd rfl ?_
      refine z_ialdS rfl (vin 2 (show a + 2 < g_n g by omega) hL31) ?_
      refine z_aload_ns rfl rfl ?_
      refine z_iload rfl rfl ?_
      refine z_iconst 3 rfl rfl ?_
      refine z_iadd rfl ?_
      refine z_ialdS rfl (vin 3 (show a + 3 < g_n g by omega) hL31) ?_
      refine z_aload_ns rfl rfl ?_
      refine z_iload rfl rfl ?_
      refine z_iconst 4 rfl rfl ?_
      refine z_iadd rfl ?_
      refine z_ialdS rfl (vin 4 (show a + 4 < g_n g by omega) hL31) ?_
      refine z_cvi (M' := M_r_shown) [.int (g_x g (nI a + 1).toNatClampNeg), .int (g_x g (nI a + 2).toNatClampNeg), .int (g_x g (nI a + 3).toNatClampNeg), .int (g_x g (nI a + 4).toNatClampNeg)] rfl rfl w_935 cv_r_shown hGR.1 (by decide) rfl rfl (rmL rfl rfl rfl rfl (by omega) (by omega)) rfl (zr_shown rfl hGR hp) ?_ (fun _ _ hf => hf.elim)
      clear hp
      rintro b S2 ⟨hp1, hp2, hI2⟩
      refine z_istore [some (.retAddr 1), some (.ref 0), some (.ref 148), some (.ref 158), some (.int (nI a)), some (.int k), some (.int b)] rfl rfl rfl ?_
      refine z_aload_n rfl rfl ?_
      refine z_cvi (M' := M_r_thrown) (post := fun v S' => S2 148 0 = v ∧ S2 = S') [] rfl rfl w_717 cv_r_thrown hGR.1 (by decide) rfl rfl (rmL rfl rfl rfl rfl (by omega) (by omega)) rfl (zr_thrown rfl hGR ⟨rfl, rfl⟩) ?_ (fun _ _ hf => hf.elim)
      rintro v S' ⟨rfl, rfl⟩
      refine z_iload rfl rfl ?_
      refine z_icmp_eq rfl (fun _ => ?_) (fun hne => absurd hp1 hne)
      refine z_iload rfl rfl ?_
      refine z_if_ne rfl (fun hk0 => ?_) (fun hk0 => ?_)
      · refine z_goto rfl ?_
        exact hnext S2 J1 _ _ _ _ hL (by omega) (by omega) hI2
      refine z_aload_n rfl rfl ?_
      refine z_iconst 0 rfl rfl ?_
      refine z_lald (n := 1) rfl t158 (vp_lit rfl) ?_
      refine z_iload rfl rfl ?_
      refine z_i2l rfl ?_
      refine z_lcmp rfl ?_
      refine z_if_eq rfl (fun _ => ?_) (fun hne => absurd (cmp_eq (hp2 hk0)) hne)
      refine z_goto rfl ?_
      exact hnext S2 J1 _ _ _ _ hL (by omega) (by omega) hI2
    · refine z_switch 987 rfl (sw_eq hq rfl) ?_
      have e1 : (mM M_d_inside).cells = 0 := rfl
      have e2 : (mM M_d_inside).slots = 0 := rfl
      have e3 : (mM M_r_inside).cells = 0 := rfl
      have e4 : (mM M_r_inside).slots = 0 := rfl
      have hGR : isR (GJ J) := lay_R J false
      refine z_aload_n rfl rfl ?_
      refine z_aload_ns rfl rfl ?_
      refine z_iload rfl rfl ?_
      refine z_iconst 1 rfl rfl ?_
      refine z_iadd rfl ?_
      refine z_ialdS rfl (vin 1 (show a + 1 < g_n g by omega) hL31) ?_
      refine z_aload_ns rfl rfl ?_
      refine z_iload rfl rfl ?_
      refine z_iconst 2 rfl rfl ?_
      refine z_iadd rfl ?_
      refine z_ialdS rfl (vin 2 (show a + 2 < g_n g by omega) hL31) ?_
      refine z_aload_ns rfl rfl ?_
      refine z_iload rfl rfl ?_
      refine z_iconst 3 rfl rfl ?_
      refine z_iadd rfl ?_
      refine z_ialdS rfl (vin 3 (show a + 3 < g_n g by omega) hL31) ?_
      refine z_aload_ns rfl rfl ?_
      refine z_iload rfl rfl ?_
      refine z_iconst 4 rfl rfl ?_
      refine z_iadd rfl ?_
      refine z_ialdS rfl (vin 4 (show a + 4 < g_n g by omega) hL31) ?_
      refine z_aload_ns rfl rfl ?_
      refine z_iload rfl rfl ?_
      refine z_iconst 5 rfl rfl ?_
      refine z_iadd rfl ?_
      refine z_ialdS rfl (vin 5 (show a + 5 < g_n g by omega) hL31) ?_
      refine z_cvi (M' := M_d_inside) [.int (g_x g (nI a + 1).toNatClampNeg), .int (g_x g (nI a + 2).toNatClampNeg), .int (g_x g (nI a + 3).toNatClampNeg), .int (g_x g (nI a + 4).toNatClampNeg), .int (g_x g (nI a + 5).toNatClampNeg)] rfl rfl w_230 cv_d_inside hGD.1 (by decide) rfl rfl (rmL rfl rfl rfl rfl (by omega) (by omega)) rfl (zcd_inside rfl hGD (ok_inside S (g_x g (nI a + 1).toNatClampNeg) (g_x g (nI a + 2).toNatClampNeg) (g_x g (nI a + 3).toNatClampNeg) (g_x g (nI a + 4).toNatClampNeg) (g_x g (nI a + 5).toNatClampNeg) hI)) ?_ (fun _ _ hf => hf.elim)
      intro x S1 hp
      refine z_aload_n rfl rfl ?_
      refine z_aload_ns rfl rfl ?_
      refine z_iload rfl rfl ?_
      refine z_iconst 1 rfl rfl ?_
      refine z_iadd rfl ?_
      refine z_ialdS rfl (vin 1 (show a + 1 < g_n g by omega) hL31) ?_
      refine z_aload_ns rfl rfl ?_
      refine z_iload rfl rfl ?_
      refine z_iconst 2 rfl rfl ?_
      refine z_iadd rfl ?_
      refine z_ialdS rfl (vin 2 (show a + 2 < g_n g by omega) hL31) ?_
      refine z_aload_ns rfl rfl ?_
      refine z_iload rfl rfl ?_
      refine z_iconst 3 rfl rfl ?_
      refine z_iadd rfl ?_
      refine z_ialdS rfl (vin 3 (show a + 3 < g_n g by omega) hL31) ?_
      refine z_aload_ns rfl rfl ?_
      refine z_iload rfl rfl ?_
      refine z_iconst 4 rfl rfl ?_
      refine z_iadd rfl ?_
      refine z_ialdS rfl (vin 4 (show a + 4 < g_n g by omega) hL31) ?_
      refine z_aload_ns rfl rfl ?_
      refine z_iload rfl rfl ?_
      refine z_iconst 5 rfl rfl ?_
      refine z_iadd rfl ?_
      refine z_ialdS rfl (vin 5 (show a + 5 < g_n g by omega) hL31) ?_
      refine z_cvi (M' := M_r_inside) [.int (g_x g (nI a + 1).toNatClampNeg), .int (g_x g (nI a + 2).toNatClampNeg), .int (g_x g (nI a + 3).toNatClampNeg), .int (g_x g (nI a + 4).toNatClampNeg), .int (g_x g (nI a + 5).toNatClampNeg)] rfl rfl w_939 cv_r_inside hGR.1 (by decide) rfl rfl (rmL rfl rfl rfl rfl (by omega) (by omega)) rfl (zr_inside rfl hGR hp) ?_ (fun _ _ hf => hf.elim)
      clear hp
      rintro b S2 ⟨hp1, hI2⟩
      refine z_icmp_eq rfl (fun _ => ?_) (fun hne => absurd hp1 hne)
      exact hnext S2 J _ _ _ _ hL (by omega) (by omega) hI2
