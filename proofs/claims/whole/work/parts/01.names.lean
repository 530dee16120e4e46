def R_Action : String := "AmendedDrawing$Action"
def R_Edit : String := "AmendedDrawing$Edit"
def R_Item : String := "AmendedDrawing$Item"
def cC : Nat → String
  | 0 => "AmendedDrawing"
  | 1 => "AmendedDrawing$Action"
  | 2 => "AmendedDrawing$Edit"
  | 3 => "AmendedDrawing$History"
  | 4 => "AmendedDrawing$Outcome"
  | 5 => "AmendedDrawing$Item"
  | 6 => "AmendedDrawing$Drawing"
  | 7 => "AmendedDrawingModel"
  | _ => ""
def cN : Nat → Nat
  | 0 => 6
  | 1 => 3
  | 2 => 5
  | 3 => 4
  | 4 => 3
  | 5 => 8
  | 6 => 4
  | 7 => 19
  | _ => 0
def fk : Nat → List Bool
  | 0 => [true, true, true, true, true, false]
  | 1 => [false, false, true]
  | 2 => [false, false, false, false, false]
  | 3 => [true, false, false, false]
  | 4 => [true, true, true]
  | 5 => [false, false, false, false, false, false, false, false]
  | 6 => [true, true, false, true]
  | 7 => [false, false, true, true, true, true, true, false, true, false, true, true, false, false, false, false, true, false, false]
  | _ => []
def cFL : Nat → List (String × String × String × Bool)
  | 0 => [("AmendedDrawing", "row", "[LAmendedDrawing$Action;", true), ("AmendedDrawing", "offered", "LAmendedDrawing$Action;", true), ("AmendedDrawing", "history", "LAmendedDrawing$History;", true), ("AmendedDrawing", "now", "LAmendedDrawing$Outcome;", true), ("AmendedDrawing", "trial", "LAmendedDrawing$Outcome;", true), ("AmendedDrawing", "count", "I", false)]
  | 1 => [("AmendedDrawing$Action", "kind", "I", false), ("AmendedDrawing$Action", "withdrawn", "Z", false), ("AmendedDrawing$Action", "arguments", "[I", true)]
  | 2 => [("AmendedDrawing$Edit", "kind", "I", false), ("AmendedDrawing$Edit", "action", "I", false), ("AmendedDrawing$Edit", "argument", "I", false), ("AmendedDrawing$Edit", "before", "I", false), ("AmendedDrawing$Edit", "after", "I", false)]
  | 3 => [("AmendedDrawing$History", "ring", "[LAmendedDrawing$Edit;", true), ("AmendedDrawing$History", "first", "I", false), ("AmendedDrawing$History", "done", "I", false), ("AmendedDrawing$History", "undone", "I", false)]
  | 4 => [("AmendedDrawing$Outcome", "drawing", "LAmendedDrawing$Drawing;", true), ("AmendedDrawing$Outcome", "effects", "[I", true), ("AmendedDrawing$Outcome", "before", "[I", true)]
  | 5 => [("AmendedDrawing$Item", "there", "Z", false), ("AmendedDrawing$Item", "form", "I", false), ("AmendedDrawing$Item", "left", "I", false), ("AmendedDrawing$Item", "top", "I", false), ("AmendedDrawing$Item", "width", "I", false), ("AmendedDrawing$Item", "height", "I", false), ("AmendedDrawing$Item", "colour", "I", false), ("AmendedDrawing$Item", "parent", "I", false)]
  | 6 => [("AmendedDrawing$Drawing", "items", "[LAmendedDrawing$Item;", true), ("AmendedDrawing$Drawing", "order", "[I", true), ("AmendedDrawing$Drawing", "size", "I", false), ("AmendedDrawing$Drawing", "block", "[I", true)]
  | 7 => [("AmendedDrawingModel", "thrown", "I", false), ("AmendedDrawingModel", "count", "I", false), ("AmendedDrawingModel", "kinds", "[I", true), ("AmendedDrawingModel", "args", "[I", true), ("AmendedDrawingModel", "withdrawn", "[Z", true), ("AmendedDrawingModel", "effects", "[I", true), ("AmendedDrawingModel", "base", "[I", true), ("AmendedDrawingModel", "n", "I", false), ("AmendedDrawingModel", "row", "[I", true), ("AmendedDrawingModel", "keptMany", "I", false), ("AmendedDrawingModel", "kept", "[I", true), ("AmendedDrawingModel", "moved", "[I", true), ("AmendedDrawingModel", "boxLeft", "I", false), ("AmendedDrawingModel", "boxTop", "I", false), ("AmendedDrawingModel", "boxRight", "I", false), ("AmendedDrawingModel", "boxLow", "I", false), ("AmendedDrawingModel", "edits", "[I", true), ("AmendedDrawingModel", "known", "I", false), ("AmendedDrawingModel", "done", "I", false)]
  | _ => []
def cTL : Nat → List FieldType
  | 0 => [.array (.object "AmendedDrawing$Action"), .object "AmendedDrawing$Action", .object "AmendedDrawing$History", .object "AmendedDrawing$Outcome", .object "AmendedDrawing$Outcome", .int]
  | 1 => [.int, .boolean, .array (.int)]
  | 2 => [.int, .int, .int, .int, .int]
  | 3 => [.array (.object "AmendedDrawing$Edit"), .int, .int, .int]
  | 4 => [.object "AmendedDrawing$Drawing", .array (.int), .array (.int)]
  | 5 => [.boolean, .int, .int, .int, .int, .int, .int, .int]
  | 6 => [.array (.object "AmendedDrawing$Item"), .array (.int), .int, .array (.int)]
  | 7 => [.int, .int, .array (.int), .array (.int), .array (.boolean), .array (.int), .array (.int), .int, .array (.int), .int, .array (.int), .array (.int), .int, .int, .int, .int, .array (.int), .int, .int]
  | _ => []
def cF (ci : Nat) : u_T := fun k => (cFL ci).getD k ("", "", "", false)
def cT (ci : Nat) : Nat → FieldType := fun k => (cTL ci).getD k .int
abbrev CL : List vw_C := [(cC 0, cF 0, cN 0), (cC 1, cF 1, cN 1), (cC 2, cF 2, cN 2), (cC 3, cF 3, cN 3), (cC 4, cF 4, cN 4), (cC 5, cF 5, cN 5), (cC 6, cF 6, cN 6), (cC 7, cF 7, cN 7)]
abbrev ciA : Nat := 1
abbrev ciE : Nat := 2
abbrev ciI : Nat := 5
def TT : List Cond := lw_tbl.filter goodWord
def isNW : Cond → Bool
  | .declares _ => true
  | .methodLinkNest .. => true
  | .castable .. => true
  | _ => false
def NW : List Cond := lw_tbl.filter isNW
theorem nw_mem {w : Cond} (j : Nat) (h : tables_1[j]? = some w) (hg : isNW w = true) : w ∈ NW := List.mem_filter.mpr ⟨List.mem_append_right _ (List.mem_of_getElem? h), hg⟩
theorem tt_of {w : Cond} (h : w ∈ lw_tbl) (hg : goodWord w = true) : w ∈ TT := List.mem_filter.mpr ⟨h, hg⟩
theorem tt_mem {w : Cond} (j : Nat) (h : tables_1[j]? = some w) (hg : goodWord w = true) : w ∈ TT := tt_of (List.mem_append_right _ (List.mem_of_getElem? h)) hg
theorem tt_sel {w : Cond} (j : Nat) (h : (k2_sels lw_privs)[j]? = some w) (hg : goodWord w = true) : w ∈ TT := tt_of (List.mem_append_left _ (List.mem_of_getElem? h)) hg
set_option maxRecDepth 20000 in
theorem kl_0 : ∀ k : Nat, k < 6 → u_lay (cC 0) (cF 0) k ∈ TT
  | 0, _ => tt_mem 186 rfl rfl
  | 1, _ => tt_mem 188 rfl rfl
  | 2, _ => tt_mem 190 rfl rfl
  | 3, _ => tt_mem 192 rfl rfl
  | 4, _ => tt_mem 194 rfl rfl
  | 5, _ => tt_mem 196 rfl rfl
  | k + 6, h => absurd h (by omega)
set_option maxRecDepth 20000 in
theorem kl_1 : ∀ k : Nat, k < 3 → u_lay (cC 1) (cF 1) k ∈ TT
  | 0, _ => tt_mem 42 rfl rfl
  | 1, _ => tt_mem 44 rfl rfl
  | 2, _ => tt_mem 46 rfl rfl
  | k + 3, h => absurd h (by omega)
set_option maxRecDepth 20000 in
theorem kl_2 : ∀ k : Nat, k < 5 → u_lay (cC 2) (cF 2) k ∈ TT
  | 0, _ => tt_mem 73 rfl rfl
  | 1, _ => tt_mem 75 rfl rfl
  | 2, _ => tt_mem 77 rfl rfl
  | 3, _ => tt_mem 79 rfl rfl
  | 4, _ => tt_mem 81 rfl rfl
  | k + 5, h => absurd h (by omega)
set_option maxRecDepth 20000 in
theorem kl_3 : ∀ k : Nat, k < 4 → u_lay (cC 3) (cF 3) k ∈ TT
  | 0, _ => tt_mem 90 rfl rfl
  | 1, _ => tt_mem 92 rfl rfl
  | 2, _ => tt_mem 94 rfl rfl
  | 3, _ => tt_mem 96 rfl rfl
  | k + 4, h => absurd h (by omega)
set_option maxRecDepth 20000 in
theorem kl_4 : ∀ k : Nat, k < 3 → u_lay (cC 4) (cF 4) k ∈ TT
  | 0, _ => tt_mem 173 rfl rfl
  | 1, _ => tt_mem 175 rfl rfl
  | 2, _ => tt_mem 177 rfl rfl
  | k + 3, h => absurd h (by omega)
set_option maxRecDepth 20000 in
theorem kl_5 : ∀ k : Nat, k < 8 → u_lay (cC 5) (cF 5) k ∈ TT
  | 0, _ => tt_mem 134 rfl rfl
  | 1, _ => tt_mem 136 rfl rfl
  | 2, _ => tt_mem 138 rfl rfl
  | 3, _ => tt_mem 140 rfl rfl
  | 4, _ => tt_mem 142 rfl rfl
  | 5, _ => tt_mem 144 rfl rfl
  | 6, _ => tt_mem 146 rfl rfl
  | 7, _ => tt_mem 148 rfl rfl
  | k + 8, h => absurd h (by omega)
set_option maxRecDepth 20000 in
theorem kl_6 : ∀ k : Nat, k < 4 → u_lay (cC 6) (cF 6) k ∈ TT
  | 0, _ => tt_mem 158 rfl rfl
  | 1, _ => tt_mem 160 rfl rfl
  | 2, _ => tt_mem 162 rfl rfl
  | 3, _ => tt_mem 164 rfl rfl
  | k + 4, h => absurd h (by omega)
set_option maxRecDepth 20000 in
theorem kl_7 : ∀ k : Nat, k < 19 → u_lay (cC 7) (cF 7) k ∈ TT
  | 0, _ => tt_mem 677 rfl rfl
  | 1, _ => tt_mem 679 rfl rfl
  | 2, _ => tt_mem 681 rfl rfl
  | 3, _ => tt_mem 683 rfl rfl
  | 4, _ => tt_mem 685 rfl rfl
  | 5, _ => tt_mem 687 rfl rfl
  | 6, _ => tt_mem 689 rfl rfl
  | 7, _ => tt_mem 691 rfl rfl
  | 8, _ => tt_mem 693 rfl rfl
  | 9, _ => tt_mem 695 rfl rfl
  | 10, _ => tt_mem 697 rfl rfl
  | 11, _ => tt_mem 699 rfl rfl
  | 12, _ => tt_mem 701 rfl rfl
  | 13, _ => tt_mem 703 rfl rfl
  | 14, _ => tt_mem 705 rfl rfl
  | 15, _ => tt_mem 707 rfl rfl
  | 16, _ => tt_mem 709 rfl rfl
  | 17, _ => tt_mem 711 rfl rfl
  | 18, _ => tt_mem 713 rfl rfl
  | k + 19, h => absurd h (by omega)
theorem kc : ∀ ci : Nat, ci < 8 → CL[ci]? = some (cC ci, cF ci, cN ci)
  | 0, _ => rfl
  | 1, _ => rfl
  | 2, _ => rfl
  | 3, _ => rfl
  | 4, _ => rfl
  | 5, _ => rfl
  | 6, _ => rfl
  | 7, _ => rfl
  | k + 8, h => absurd h (by omega)
theorem kl_in {C : String} {T : u_T} {N : Nat} (h : ∀ k : Nat, k < N → u_lay C T k ∈ TT) : ∀ w ∈ u_ws C T N, w ∈ TT := by
  intro w hw
  obtain ⟨k, hk, rfl⟩ := List.mem_map.mp hw
  exact h k (List.mem_range.mp hk)
theorem kc_in : ∀ ci : Nat, ci < 8 → ∀ w ∈ u_ws (cC ci) (cF ci) (cN ci), w ∈ TT
  | 0, _ => kl_in kl_0
  | 1, _ => kl_in kl_1
  | 2, _ => kl_in kl_2
  | 3, _ => kl_in kl_3
  | 4, _ => kl_in kl_4
  | 5, _ => kl_in kl_5
  | 6, _ => kl_in kl_6
  | 7, _ => kl_in kl_7
  | k + 8, h => absurd h (by omega)
theorem kc_ty : ∀ ci : Nat, ci < 8 → ∀ k, k < cN ci → parseFieldDescriptor (cF ci k).2.2.1 = some (cT ci k)
  | 0, _ => by decide +kernel
  | 1, _ => by decide +kernel
  | 2, _ => by decide +kernel
  | 3, _ => by decide +kernel
  | 4, _ => by decide +kernel
  | 5, _ => by decide +kernel
  | 6, _ => by decide +kernel
  | 7, _ => by decide +kernel
  | k + 8, h => absurd h (by omega)
theorem kc_nm : ∀ ci : Nat, ci < 8 → ∀ a, a < cN ci → ∀ b, b < cN ci → a ≠ b → (cF ci a).2.1 ≠ (cF ci b).2.1
  | 0, _ => by decide +kernel
  | 1, _ => by decide +kernel
  | 2, _ => by decide +kernel
  | 3, _ => by decide +kernel
  | 4, _ => by decide +kernel
  | 5, _ => by decide +kernel
  | 6, _ => by decide +kernel
  | 7, _ => by decide +kernel
  | k + 8, h => absurd h (by omega)
theorem fk_ci {ci i : Nat} {b : Bool} (h : (fk ci)[i]? = some b) : ci < 8 := by
  match ci, h with
  | 0, _ => decide
  | 1, _ => decide
  | 2, _ => decide
  | 3, _ => decide
  | 4, _ => decide
  | 5, _ => decide
  | 6, _ => decide
  | 7, _ => decide
  | k + 8, h => simp [fk] at h
theorem fk_len : ∀ ci : Nat, ci < 8 → (fk ci).length = cN ci
  | 0, _ => rfl
  | 1, _ => rfl
  | 2, _ => rfl
  | 3, _ => rfl
  | 4, _ => rfl
  | 5, _ => rfl
  | 6, _ => rfl
  | 7, _ => rfl
  | k + 8, h => absurd h (by omega)
theorem fk_lt {ci i : Nat} {b : Bool} (h : (fk ci)[i]? = some b) : i < cN ci := by
  have h1 := (List.getElem?_eq_some_iff.mp h).1
  rw [fk_len ci (fk_ci h)] at h1
  exact h1
abbrev nwE : Cond := (Jvm.Cond.methodLinkNest "AmendedDrawing$History" (17 : Nat) ({ cls := "AmendedDrawing$Edit", name := "<init>", desc := "()V" } : Jvm.MethodName) "AmendedDrawing")
abbrev nwI : Cond := (Jvm.Cond.methodLinkNest "AmendedDrawing$Drawing" (17 : Nat) ({ cls := "AmendedDrawing$Item", name := "<init>", desc := "()V" } : Jvm.MethodName) "AmendedDrawing")
def sortsL : List Int32 := [2, 3, 3, 4, 1, 0, 0, 0, 1, 3, 3, 0, 1, 5, 5, 0, 1, 6, 0, 0, 1, 7, 0, 0, 1, 1, 0, 0, 1, 0, 0, 0, 1, 3, 3, 0, 1, 1, 8, 0]
def sortsF (j : Nat) : Int32 := sortsL.getD j 0
