set_option maxRecDepth 20000 in
theorem w_1 : (Jvm.Cond.initialized "AmendedDrawing") ∈ TT := tt_mem 1 rfl rfl
set_option maxRecDepth 20000 in
theorem w_2 : (Jvm.Cond.initialized "AmendedDrawing$Action") ∈ TT := tt_mem 2 rfl rfl
set_option maxRecDepth 20000 in
theorem w_3 : (Jvm.Cond.initialized "AmendedDrawing$History") ∈ TT := tt_mem 3 rfl rfl
set_option maxRecDepth 20000 in
theorem w_4 : (Jvm.Cond.initialized "AmendedDrawing$Edit") ∈ TT := tt_mem 4 rfl rfl
set_option maxRecDepth 20000 in
theorem w_5 : (Jvm.Cond.initialized "AmendedDrawing$Outcome") ∈ TT := tt_mem 5 rfl rfl
set_option maxRecDepth 20000 in
theorem w_6 : (Jvm.Cond.initialized "AmendedDrawing$Drawing") ∈ TT := tt_mem 6 rfl rfl
set_option maxRecDepth 20000 in
theorem w_7 : (Jvm.Cond.initialized "AmendedDrawing$Item") ∈ TT := tt_mem 7 rfl rfl
set_option maxRecDepth 20000 in
theorem w_8 : (Jvm.Cond.initialized "AmendedDrawingModel") ∈ TT := tt_mem 8 rfl rfl
set_option maxRecDepth 20000 in
theorem w_12 : (Jvm.Cond.initialized "java/lang/IllegalArgumentException") ∈ TT := tt_mem 12 rfl rfl
set_option maxRecDepth 20000 in
theorem w_15 : (Jvm.Cond.initialized "java/lang/IllegalStateException") ∈ TT := tt_mem 15 rfl rfl
set_option maxRecDepth 20000 in
theorem w_16 : (Jvm.Cond.initialized "java/lang/IndexOutOfBoundsException") ∈ TT := tt_mem 16 rfl rfl
set_option maxRecDepth 20000 in
theorem w_17 : (Jvm.Cond.initialized "java/util/NoSuchElementException") ∈ TT := tt_mem 17 rfl rfl
set_option maxRecDepth 20000 in
theorem w_33 : (Jvm.Cond.fieldLink "AmendedDrawing$Action" (9 : Nat) "AmendedDrawing$Action" "kind" "I") ∈ TT := tt_mem 33 rfl rfl
set_option maxRecDepth 20000 in
theorem w_34 : (Jvm.Cond.fieldLink "AmendedDrawing$Drawing" (38 : Nat) "AmendedDrawing$Action" "kind" "I") ∈ TT := tt_mem 34 rfl rfl
set_option maxRecDepth 20000 in
theorem w_35 : (Jvm.Cond.fieldLink "AmendedDrawing" (128 : Nat) "AmendedDrawing$Action" "kind" "I") ∈ TT := tt_mem 35 rfl rfl
set_option maxRecDepth 20000 in
theorem w_36 : (Jvm.Cond.fieldLink "AmendedDrawing$Action" (15 : Nat) "AmendedDrawing$Action" "withdrawn" "Z") ∈ TT := tt_mem 36 rfl rfl
set_option maxRecDepth 20000 in
theorem w_37 : (Jvm.Cond.fieldLink "AmendedDrawing$Outcome" (34 : Nat) "AmendedDrawing$Action" "withdrawn" "Z") ∈ TT := tt_mem 37 rfl rfl
set_option maxRecDepth 20000 in
theorem w_38 : (Jvm.Cond.fieldLink "AmendedDrawing" (84 : Nat) "AmendedDrawing$Action" "withdrawn" "Z") ∈ TT := tt_mem 38 rfl rfl
set_option maxRecDepth 20000 in
theorem w_39 : (Jvm.Cond.fieldLink "AmendedDrawing$Action" (19 : Nat) "AmendedDrawing$Action" "arguments" "[I") ∈ TT := tt_mem 39 rfl rfl
set_option maxRecDepth 20000 in
theorem w_40 : (Jvm.Cond.fieldLink "AmendedDrawing$Drawing" (33 : Nat) "AmendedDrawing$Action" "arguments" "[I") ∈ TT := tt_mem 40 rfl rfl
set_option maxRecDepth 20000 in
theorem w_41 : (Jvm.Cond.fieldLink "AmendedDrawing" (100 : Nat) "AmendedDrawing$Action" "arguments" "[I") ∈ TT := tt_mem 41 rfl rfl
set_option maxRecDepth 20000 in
theorem w_63 : (Jvm.Cond.fieldLink "AmendedDrawing$Edit" (7 : Nat) "AmendedDrawing$Edit" "kind" "I") ∈ TT := tt_mem 63 rfl rfl
set_option maxRecDepth 20000 in
theorem w_64 : (Jvm.Cond.fieldLink "AmendedDrawing" (116 : Nat) "AmendedDrawing$Edit" "kind" "I") ∈ TT := tt_mem 64 rfl rfl
set_option maxRecDepth 20000 in
theorem w_65 : (Jvm.Cond.fieldLink "AmendedDrawing$Edit" (13 : Nat) "AmendedDrawing$Edit" "action" "I") ∈ TT := tt_mem 65 rfl rfl
set_option maxRecDepth 20000 in
theorem w_66 : (Jvm.Cond.fieldLink "AmendedDrawing" (155 : Nat) "AmendedDrawing$Edit" "action" "I") ∈ TT := tt_mem 66 rfl rfl
set_option maxRecDepth 20000 in
theorem w_67 : (Jvm.Cond.fieldLink "AmendedDrawing$Edit" (16 : Nat) "AmendedDrawing$Edit" "argument" "I") ∈ TT := tt_mem 67 rfl rfl
set_option maxRecDepth 20000 in
theorem w_68 : (Jvm.Cond.fieldLink "AmendedDrawing" (158 : Nat) "AmendedDrawing$Edit" "argument" "I") ∈ TT := tt_mem 68 rfl rfl
set_option maxRecDepth 20000 in
theorem w_69 : (Jvm.Cond.fieldLink "AmendedDrawing$Edit" (19 : Nat) "AmendedDrawing$Edit" "before" "I") ∈ TT := tt_mem 69 rfl rfl
set_option maxRecDepth 20000 in
theorem w_70 : (Jvm.Cond.fieldLink "AmendedDrawing" (164 : Nat) "AmendedDrawing$Edit" "before" "I") ∈ TT := tt_mem 70 rfl rfl
set_option maxRecDepth 20000 in
theorem w_71 : (Jvm.Cond.fieldLink "AmendedDrawing$Edit" (22 : Nat) "AmendedDrawing$Edit" "after" "I") ∈ TT := tt_mem 71 rfl rfl
set_option maxRecDepth 20000 in
theorem w_72 : (Jvm.Cond.fieldLink "AmendedDrawing" (161 : Nat) "AmendedDrawing$Edit" "after" "I") ∈ TT := tt_mem 72 rfl rfl
set_option maxRecDepth 20000 in
theorem w_84 : (Jvm.Cond.fieldLink "AmendedDrawing$History" (11 : Nat) "AmendedDrawing$History" "ring" "[LAmendedDrawing$Edit;") ∈ TT := tt_mem 84 rfl rfl
set_option maxRecDepth 20000 in
theorem w_85 : (Jvm.Cond.fieldLink "AmendedDrawing$History" (18 : Nat) "AmendedDrawing$History" "first" "I") ∈ TT := tt_mem 85 rfl rfl
set_option maxRecDepth 20000 in
theorem w_86 : (Jvm.Cond.fieldLink "AmendedDrawing$History" (22 : Nat) "AmendedDrawing$History" "done" "I") ∈ TT := tt_mem 86 rfl rfl
set_option maxRecDepth 20000 in
theorem w_87 : (Jvm.Cond.fieldLink "AmendedDrawing" (103 : Nat) "AmendedDrawing$History" "done" "I") ∈ TT := tt_mem 87 rfl rfl
set_option maxRecDepth 20000 in
theorem w_88 : (Jvm.Cond.fieldLink "AmendedDrawing$History" (25 : Nat) "AmendedDrawing$History" "undone" "I") ∈ TT := tt_mem 88 rfl rfl
set_option maxRecDepth 20000 in
theorem w_89 : (Jvm.Cond.fieldLink "AmendedDrawing" (119 : Nat) "AmendedDrawing$History" "undone" "I") ∈ TT := tt_mem 89 rfl rfl
set_option maxRecDepth 20000 in
theorem w_118 : (Jvm.Cond.fieldLink "AmendedDrawing$Item" (15 : Nat) "AmendedDrawing$Item" "there" "Z") ∈ TT := tt_mem 118 rfl rfl
set_option maxRecDepth 20000 in
theorem w_119 : (Jvm.Cond.fieldLink "AmendedDrawing$Drawing" (45 : Nat) "AmendedDrawing$Item" "there" "Z") ∈ TT := tt_mem 119 rfl rfl
set_option maxRecDepth 20000 in
theorem w_120 : (Jvm.Cond.fieldLink "AmendedDrawing$Item" (9 : Nat) "AmendedDrawing$Item" "form" "I") ∈ TT := tt_mem 120 rfl rfl
set_option maxRecDepth 20000 in
theorem w_121 : (Jvm.Cond.fieldLink "AmendedDrawing$Drawing" (80 : Nat) "AmendedDrawing$Item" "form" "I") ∈ TT := tt_mem 121 rfl rfl
set_option maxRecDepth 20000 in
theorem w_122 : (Jvm.Cond.fieldLink "AmendedDrawing$Item" (25 : Nat) "AmendedDrawing$Item" "left" "I") ∈ TT := tt_mem 122 rfl rfl
set_option maxRecDepth 20000 in
theorem w_123 : (Jvm.Cond.fieldLink "AmendedDrawing$Drawing" (151 : Nat) "AmendedDrawing$Item" "left" "I") ∈ TT := tt_mem 123 rfl rfl
set_option maxRecDepth 20000 in
theorem w_124 : (Jvm.Cond.fieldLink "AmendedDrawing$Item" (28 : Nat) "AmendedDrawing$Item" "top" "I") ∈ TT := tt_mem 124 rfl rfl
set_option maxRecDepth 20000 in
theorem w_125 : (Jvm.Cond.fieldLink "AmendedDrawing$Drawing" (154 : Nat) "AmendedDrawing$Item" "top" "I") ∈ TT := tt_mem 125 rfl rfl
set_option maxRecDepth 20000 in
theorem w_126 : (Jvm.Cond.fieldLink "AmendedDrawing$Item" (31 : Nat) "AmendedDrawing$Item" "width" "I") ∈ TT := tt_mem 126 rfl rfl
set_option maxRecDepth 20000 in
theorem w_127 : (Jvm.Cond.fieldLink "AmendedDrawing$Drawing" (157 : Nat) "AmendedDrawing$Item" "width" "I") ∈ TT := tt_mem 127 rfl rfl
set_option maxRecDepth 20000 in
theorem w_128 : (Jvm.Cond.fieldLink "AmendedDrawing$Item" (34 : Nat) "AmendedDrawing$Item" "height" "I") ∈ TT := tt_mem 128 rfl rfl
set_option maxRecDepth 20000 in
theorem w_129 : (Jvm.Cond.fieldLink "AmendedDrawing$Drawing" (160 : Nat) "AmendedDrawing$Item" "height" "I") ∈ TT := tt_mem 129 rfl rfl
set_option maxRecDepth 20000 in
theorem w_130 : (Jvm.Cond.fieldLink "AmendedDrawing$Item" (19 : Nat) "AmendedDrawing$Item" "colour" "I") ∈ TT := tt_mem 130 rfl rfl
set_option maxRecDepth 20000 in
theorem w_131 : (Jvm.Cond.fieldLink "AmendedDrawing$Drawing" (87 : Nat) "AmendedDrawing$Item" "colour" "I") ∈ TT := tt_mem 131 rfl rfl
set_option maxRecDepth 20000 in
theorem w_132 : (Jvm.Cond.fieldLink "AmendedDrawing$Item" (22 : Nat) "AmendedDrawing$Item" "parent" "I") ∈ TT := tt_mem 132 rfl rfl
set_option maxRecDepth 20000 in
theorem w_133 : (Jvm.Cond.fieldLink "AmendedDrawing$Drawing" (90 : Nat) "AmendedDrawing$Item" "parent" "I") ∈ TT := tt_mem 133 rfl rfl
set_option maxRecDepth 20000 in
theorem w_151 : (Jvm.Cond.fieldLink "AmendedDrawing$Drawing" (11 : Nat) "AmendedDrawing$Drawing" "items" "[LAmendedDrawing$Item;") ∈ TT := tt_mem 151 rfl rfl
set_option maxRecDepth 20000 in
theorem w_152 : (Jvm.Cond.fieldLink "AmendedDrawing" (145 : Nat) "AmendedDrawing$Drawing" "items" "[LAmendedDrawing$Item;") ∈ TT := tt_mem 152 rfl rfl
set_option maxRecDepth 20000 in
theorem w_153 : (Jvm.Cond.fieldLink "AmendedDrawing$Drawing" (18 : Nat) "AmendedDrawing$Drawing" "order" "[I") ∈ TT := tt_mem 153 rfl rfl
set_option maxRecDepth 20000 in
theorem w_154 : (Jvm.Cond.fieldLink "AmendedDrawing" (132 : Nat) "AmendedDrawing$Drawing" "order" "[I") ∈ TT := tt_mem 154 rfl rfl
set_option maxRecDepth 20000 in
theorem w_155 : (Jvm.Cond.fieldLink "AmendedDrawing$Drawing" (25 : Nat) "AmendedDrawing$Drawing" "size" "I") ∈ TT := tt_mem 155 rfl rfl
set_option maxRecDepth 20000 in
theorem w_156 : (Jvm.Cond.fieldLink "AmendedDrawing" (129 : Nat) "AmendedDrawing$Drawing" "size" "I") ∈ TT := tt_mem 156 rfl rfl
set_option maxRecDepth 20000 in
theorem w_157 : (Jvm.Cond.fieldLink "AmendedDrawing$Drawing" (22 : Nat) "AmendedDrawing$Drawing" "block" "[I") ∈ TT := tt_mem 157 rfl rfl
set_option maxRecDepth 20000 in
theorem w_167 : (Jvm.Cond.fieldLink "AmendedDrawing$Outcome" (12 : Nat) "AmendedDrawing$Outcome" "drawing" "LAmendedDrawing$Drawing;") ∈ TT := tt_mem 167 rfl rfl
set_option maxRecDepth 20000 in
theorem w_168 : (Jvm.Cond.fieldLink "AmendedDrawing" (52 : Nat) "AmendedDrawing$Outcome" "drawing" "LAmendedDrawing$Drawing;") ∈ TT := tt_mem 168 rfl rfl
set_option maxRecDepth 20000 in
theorem w_169 : (Jvm.Cond.fieldLink "AmendedDrawing$Outcome" (18 : Nat) "AmendedDrawing$Outcome" "effects" "[I") ∈ TT := tt_mem 169 rfl rfl
set_option maxRecDepth 20000 in
theorem w_170 : (Jvm.Cond.fieldLink "AmendedDrawing" (69 : Nat) "AmendedDrawing$Outcome" "effects" "[I") ∈ TT := tt_mem 170 rfl rfl
set_option maxRecDepth 20000 in
theorem w_171 : (Jvm.Cond.fieldLink "AmendedDrawing$Outcome" (22 : Nat) "AmendedDrawing$Outcome" "before" "[I") ∈ TT := tt_mem 171 rfl rfl
set_option maxRecDepth 20000 in
theorem w_172 : (Jvm.Cond.fieldLink "AmendedDrawing" (167 : Nat) "AmendedDrawing$Outcome" "before" "[I") ∈ TT := tt_mem 172 rfl rfl
set_option maxRecDepth 20000 in
theorem w_180 : (Jvm.Cond.fieldLink "AmendedDrawing" (11 : Nat) "AmendedDrawing" "row" "[LAmendedDrawing$Action;") ∈ TT := tt_mem 180 rfl rfl
set_option maxRecDepth 20000 in
theorem w_181 : (Jvm.Cond.fieldLink "AmendedDrawing" (16 : Nat) "AmendedDrawing" "offered" "LAmendedDrawing$Action;") ∈ TT := tt_mem 181 rfl rfl
set_option maxRecDepth 20000 in
theorem w_182 : (Jvm.Cond.fieldLink "AmendedDrawing" (23 : Nat) "AmendedDrawing" "history" "LAmendedDrawing$History;") ∈ TT := tt_mem 182 rfl rfl
set_option maxRecDepth 20000 in
theorem w_183 : (Jvm.Cond.fieldLink "AmendedDrawing" (30 : Nat) "AmendedDrawing" "now" "LAmendedDrawing$Outcome;") ∈ TT := tt_mem 183 rfl rfl
set_option maxRecDepth 20000 in
theorem w_184 : (Jvm.Cond.fieldLink "AmendedDrawing" (34 : Nat) "AmendedDrawing" "trial" "LAmendedDrawing$Outcome;") ∈ TT := tt_mem 184 rfl rfl
set_option maxRecDepth 20000 in
theorem w_185 : (Jvm.Cond.fieldLink "AmendedDrawing" (37 : Nat) "AmendedDrawing" "count" "I") ∈ TT := tt_mem 185 rfl rfl
set_option maxRecDepth 20000 in
theorem w_200 : (Jvm.Cond.instanceMethod ({ cls := "AmendedDrawing", name := "actions", desc := "()I" } : Jvm.MethodName)) ∈ TT := tt_mem 200 rfl rfl
set_option maxRecDepth 20000 in
theorem w_201 : (Jvm.Cond.selects "AmendedDrawing" ({ cls := "AmendedDrawing", name := "actions", desc := "()I" } : Jvm.MethodName) ({ cls := "AmendedDrawing", name := "actions", desc := "()I" } : Jvm.MethodName)) ∈ TT := tt_mem 201 rfl rfl
set_option maxRecDepth 20000 in
theorem w_202 : (Jvm.Cond.code ({ cls := "AmendedDrawing", name := "actions", desc := "()I" } : Jvm.MethodName) prog_1_method_8_code (1 : Nat) (Option.some Jvm.ClassFile.FieldType.int)) ∈ TT := tt_mem 202 rfl rfl
set_option maxRecDepth 20000 in
theorem w_204 : (Jvm.Cond.instanceMethod ({ cls := "AmendedDrawing", name := "objects", desc := "()I" } : Jvm.MethodName)) ∈ TT := tt_mem 204 rfl rfl
set_option maxRecDepth 20000 in
theorem w_205 : (Jvm.Cond.selects "AmendedDrawing" ({ cls := "AmendedDrawing", name := "objects", desc := "()I" } : Jvm.MethodName) ({ cls := "AmendedDrawing", name := "objects", desc := "()I" } : Jvm.MethodName)) ∈ TT := tt_mem 205 rfl rfl
set_option maxRecDepth 20000 in
theorem w_206 : (Jvm.Cond.code ({ cls := "AmendedDrawing", name := "objects", desc := "()I" } : Jvm.MethodName) prog_1_method_13_code (1 : Nat) (Option.some Jvm.ClassFile.FieldType.int)) ∈ TT := tt_mem 206 rfl rfl
set_option maxRecDepth 20000 in
theorem w_208 : (Jvm.Cond.instanceMethod ({ cls := "AmendedDrawing", name := "hit", desc := "(II)I" } : Jvm.MethodName)) ∈ TT := tt_mem 208 rfl rfl
set_option maxRecDepth 20000 in
theorem w_209 : (Jvm.Cond.selects "AmendedDrawing" ({ cls := "AmendedDrawing", name := "hit", desc := "(II)I" } : Jvm.MethodName) ({ cls := "AmendedDrawing", name := "hit", desc := "(II)I" } : Jvm.MethodName)) ∈ TT := tt_mem 209 rfl rfl
set_option maxRecDepth 20000 in
theorem w_210 : (Jvm.Cond.code ({ cls := "AmendedDrawing", name := "hit", desc := "(II)I" } : Jvm.MethodName) prog_1_method_15_code (3 : Nat) (Option.some Jvm.ClassFile.FieldType.int)) ∈ TT := tt_mem 210 rfl rfl
set_option maxRecDepth 20000 in
theorem w_211 : (Jvm.Cond.methodLink "AmendedDrawing" (139 : Nat) ({ cls := "AmendedDrawing$Drawing", name := "topShapeAt", desc := "(II)I" } : Jvm.MethodName)) ∈ TT := tt_mem 211 rfl rfl
set_option maxRecDepth 20000 in
theorem w_212 : (Jvm.Cond.instanceMethod ({ cls := "AmendedDrawing$Drawing", name := "topShapeAt", desc := "(II)I" } : Jvm.MethodName)) ∈ TT := tt_mem 212 rfl rfl
set_option maxRecDepth 20000 in
theorem w_213 : (Jvm.Cond.selects "AmendedDrawing$Drawing" ({ cls := "AmendedDrawing$Drawing", name := "topShapeAt", desc := "(II)I" } : Jvm.MethodName) ({ cls := "AmendedDrawing$Drawing", name := "topShapeAt", desc := "(II)I" } : Jvm.MethodName)) ∈ TT := tt_mem 213 rfl rfl
set_option maxRecDepth 20000 in
theorem w_214 : (Jvm.Cond.code ({ cls := "AmendedDrawing$Drawing", name := "topShapeAt", desc := "(II)I" } : Jvm.MethodName) prog_3_method_5_code (4 : Nat) (Option.some Jvm.ClassFile.FieldType.int)) ∈ TT := tt_mem 214 rfl rfl
set_option maxRecDepth 20000 in
theorem w_215 : (Jvm.Cond.methodLink "AmendedDrawing$Drawing" (93 : Nat) ({ cls := "AmendedDrawing$Item", name := "covers", desc := "(II)Z" } : Jvm.MethodName)) ∈ TT := tt_mem 215 rfl rfl
set_option maxRecDepth 20000 in
theorem w_216 : (Jvm.Cond.instanceMethod ({ cls := "AmendedDrawing$Item", name := "covers", desc := "(II)Z" } : Jvm.MethodName)) ∈ TT := tt_mem 216 rfl rfl
set_option maxRecDepth 20000 in
theorem w_217 : (Jvm.Cond.selects "AmendedDrawing$Item" ({ cls := "AmendedDrawing$Item", name := "covers", desc := "(II)Z" } : Jvm.MethodName) ({ cls := "AmendedDrawing$Item", name := "covers", desc := "(II)Z" } : Jvm.MethodName)) ∈ TT := tt_mem 217 rfl rfl
set_option maxRecDepth 20000 in
theorem w_218 : (Jvm.Cond.code ({ cls := "AmendedDrawing$Item", name := "covers", desc := "(II)Z" } : Jvm.MethodName) prog_6_method_12_code (5 : Nat) (Option.some Jvm.ClassFile.FieldType.boolean)) ∈ TT := tt_mem 218 rfl rfl
set_option maxRecDepth 20000 in
theorem w_219 : (Jvm.Cond.methodLink "AmendedDrawing$Item" (53 : Nat) ({ cls := "AmendedDrawing$Item", name := "isShape", desc := "()Z" } : Jvm.MethodName)) ∈ TT := tt_mem 219 rfl rfl
set_option maxRecDepth 20000 in
theorem w_220 : (Jvm.Cond.instanceMethod ({ cls := "AmendedDrawing$Item", name := "isShape", desc := "()Z" } : Jvm.MethodName)) ∈ TT := tt_mem 220 rfl rfl
set_option maxRecDepth 20000 in
theorem w_221 : (Jvm.Cond.selects "AmendedDrawing$Item" ({ cls := "AmendedDrawing$Item", name := "isShape", desc := "()Z" } : Jvm.MethodName) ({ cls := "AmendedDrawing$Item", name := "isShape", desc := "()Z" } : Jvm.MethodName)) ∈ TT := tt_mem 221 rfl rfl
set_option maxRecDepth 20000 in
theorem w_222 : (Jvm.Cond.code ({ cls := "AmendedDrawing$Item", name := "isShape", desc := "()Z" } : Jvm.MethodName) prog_6_method_2_code (1 : Nat) (Option.some Jvm.ClassFile.FieldType.boolean)) ∈ TT := tt_mem 222 rfl rfl
set_option maxRecDepth 20000 in
theorem w_223 : (Jvm.Cond.methodLink "AmendedDrawing$Item" (57 : Nat) ({ cls := "AmendedDrawing$Item", name := "ellipseReaches", desc := "(JJ)Z" } : Jvm.MethodName)) ∈ TT := tt_mem 223 rfl rfl
set_option maxRecDepth 20000 in
theorem w_225 : (Jvm.Cond.instanceMethod ({ cls := "AmendedDrawing$Item", name := "ellipseReaches", desc := "(JJ)Z" } : Jvm.MethodName)) ∈ TT := tt_mem 225 rfl rfl
set_option maxRecDepth 20000 in
theorem w_226 : (Jvm.Cond.code ({ cls := "AmendedDrawing$Item", name := "ellipseReaches", desc := "(JJ)Z" } : Jvm.MethodName) prog_6_method_13_code (9 : Nat) (Option.some Jvm.ClassFile.FieldType.boolean)) ∈ TT := tt_mem 226 rfl rfl
set_option maxRecDepth 20000 in
theorem w_227 : (Jvm.Cond.methodLink "AmendedDrawing$Item" (61 : Nat) ({ cls := "java/lang/Math", name := "abs", desc := "(I)I" } : Jvm.MethodName)) ∈ TT := tt_mem 227 rfl rfl
set_option maxRecDepth 20000 in
theorem w_231 : (Jvm.Cond.instanceMethod ({ cls := "AmendedDrawing", name := "inside", desc := "(IIIII)I" } : Jvm.MethodName)) ∈ TT := tt_mem 231 rfl rfl
set_option maxRecDepth 20000 in
theorem w_232 : (Jvm.Cond.selects "AmendedDrawing" ({ cls := "AmendedDrawing", name := "inside", desc := "(IIIII)I" } : Jvm.MethodName) ({ cls := "AmendedDrawing", name := "inside", desc := "(IIIII)I" } : Jvm.MethodName)) ∈ TT := tt_mem 232 rfl rfl
set_option maxRecDepth 20000 in
theorem w_233 : (Jvm.Cond.code ({ cls := "AmendedDrawing", name := "inside", desc := "(IIIII)I" } : Jvm.MethodName) prog_1_method_17_code (9 : Nat) (Option.some Jvm.ClassFile.FieldType.int)) ∈ TT := tt_mem 233 rfl rfl
set_option maxRecDepth 20000 in
theorem w_234 : (Jvm.Cond.methodLink "AmendedDrawing" (149 : Nat) ({ cls := "AmendedDrawing$Item", name := "liesIn", desc := "(IIII)Z" } : Jvm.MethodName)) ∈ TT := tt_mem 234 rfl rfl
set_option maxRecDepth 20000 in
theorem w_235 : (Jvm.Cond.instanceMethod ({ cls := "AmendedDrawing$Item", name := "liesIn", desc := "(IIII)Z" } : Jvm.MethodName)) ∈ TT := tt_mem 235 rfl rfl
set_option maxRecDepth 20000 in
theorem w_236 : (Jvm.Cond.selects "AmendedDrawing$Item" ({ cls := "AmendedDrawing$Item", name := "liesIn", desc := "(IIII)Z" } : Jvm.MethodName) ({ cls := "AmendedDrawing$Item", name := "liesIn", desc := "(IIII)Z" } : Jvm.MethodName)) ∈ TT := tt_mem 236 rfl rfl
set_option maxRecDepth 20000 in
theorem w_237 : (Jvm.Cond.code ({ cls := "AmendedDrawing$Item", name := "liesIn", desc := "(IIII)Z" } : Jvm.MethodName) prog_6_method_11_code (5 : Nat) (Option.some Jvm.ClassFile.FieldType.boolean)) ∈ TT := tt_mem 237 rfl rfl
set_option maxRecDepth 20000 in
theorem w_244 : (Jvm.Cond.instanceMethod ({ cls := "AmendedDrawing", name := "commit", desc := "(IIIII)I" } : Jvm.MethodName)) ∈ TT := tt_mem 244 rfl rfl
set_option maxRecDepth 20000 in
theorem w_245 : (Jvm.Cond.selects "AmendedDrawing" ({ cls := "AmendedDrawing", name := "commit", desc := "(IIIII)I" } : Jvm.MethodName) ({ cls := "AmendedDrawing", name := "commit", desc := "(IIIII)I" } : Jvm.MethodName)) ∈ TT := tt_mem 245 rfl rfl
set_option maxRecDepth 20000 in
theorem w_246 : (Jvm.Cond.code ({ cls := "AmendedDrawing", name := "commit", desc := "(IIIII)I" } : Jvm.MethodName) prog_1_method_2_code (7 : Nat) (Option.some Jvm.ClassFile.FieldType.int)) ∈ TT := tt_mem 246 rfl rfl
set_option maxRecDepth 20000 in
theorem w_247 : (Jvm.Cond.methodLink "AmendedDrawing" (41 : Nat) ({ cls := "AmendedDrawing$Action", name := "become", desc := "(IIIII)V" } : Jvm.MethodName)) ∈ TT := tt_mem 247 rfl rfl
set_option maxRecDepth 20000 in
theorem w_248 : (Jvm.Cond.instanceMethod ({ cls := "AmendedDrawing$Action", name := "become", desc := "(IIIII)V" } : Jvm.MethodName)) ∈ TT := tt_mem 248 rfl rfl
set_option maxRecDepth 20000 in
theorem w_249 : (Jvm.Cond.selects "AmendedDrawing$Action" ({ cls := "AmendedDrawing$Action", name := "become", desc := "(IIIII)V" } : Jvm.MethodName) ({ cls := "AmendedDrawing$Action", name := "become", desc := "(IIIII)V" } : Jvm.MethodName)) ∈ TT := tt_mem 249 rfl rfl
set_option maxRecDepth 20000 in
theorem w_250 : (Jvm.Cond.code ({ cls := "AmendedDrawing$Action", name := "become", desc := "(IIIII)V" } : Jvm.MethodName) prog_2_method_2_code (6 : Nat) (Option.none : Option Jvm.ClassFile.FieldType)) ∈ TT := tt_mem 250 rfl rfl
set_option maxRecDepth 20000 in
theorem w_251 : (Jvm.Cond.methodLink "AmendedDrawing$Action" (23 : Nat) ({ cls := "AmendedDrawing$Action", name := "sort", desc := "(I)I" } : Jvm.MethodName)) ∈ TT := tt_mem 251 rfl rfl
set_option maxRecDepth 20000 in
theorem w_253 : (Jvm.Cond.instanceMethod ({ cls := "AmendedDrawing$Action", name := "sort", desc := "(I)I" } : Jvm.MethodName)) ∈ TT := tt_mem 253 rfl rfl
set_option maxRecDepth 20000 in
theorem w_254 : (Jvm.Cond.code ({ cls := "AmendedDrawing$Action", name := "sort", desc := "(I)I" } : Jvm.MethodName) prog_2_method_6_code (2 : Nat) (Option.some Jvm.ClassFile.FieldType.int)) ∈ TT := tt_mem 254 rfl rfl
set_option maxRecDepth 20000 in
theorem w_255 : (Jvm.Cond.fieldLink "AmendedDrawing$Action" (49 : Nat) "AmendedDrawing$Action" "SORTS" "[I") ∈ TT := tt_mem 255 rfl rfl
set_option maxRecDepth 20000 in
theorem w_257 : (Jvm.Cond.methodLink "AmendedDrawing" (45 : Nat) ({ cls := "AmendedDrawing$Action", name := "isValid", desc := "()Z" } : Jvm.MethodName)) ∈ TT := tt_mem 257 rfl rfl
set_option maxRecDepth 20000 in
theorem w_258 : (Jvm.Cond.instanceMethod ({ cls := "AmendedDrawing$Action", name := "isValid", desc := "()Z" } : Jvm.MethodName)) ∈ TT := tt_mem 258 rfl rfl
set_option maxRecDepth 20000 in
theorem w_259 : (Jvm.Cond.selects "AmendedDrawing$Action" ({ cls := "AmendedDrawing$Action", name := "isValid", desc := "()Z" } : Jvm.MethodName) ({ cls := "AmendedDrawing$Action", name := "isValid", desc := "()Z" } : Jvm.MethodName)) ∈ TT := tt_mem 259 rfl rfl
set_option maxRecDepth 20000 in
theorem w_260 : (Jvm.Cond.code ({ cls := "AmendedDrawing$Action", name := "isValid", desc := "()Z" } : Jvm.MethodName) prog_2_method_4_code (2 : Nat) (Option.some Jvm.ClassFile.FieldType.boolean)) ∈ TT := tt_mem 260 rfl rfl
set_option maxRecDepth 20000 in
theorem w_261 : (Jvm.Cond.methodLink "AmendedDrawing$Action" (33 : Nat) ({ cls := "AmendedDrawing$Action", name := "takes", desc := "(II)Z" } : Jvm.MethodName)) ∈ TT := tt_mem 261 rfl rfl
set_option maxRecDepth 20000 in
theorem w_262 : (Jvm.Cond.instanceMethod ({ cls := "AmendedDrawing$Action", name := "takes", desc := "(II)Z" } : Jvm.MethodName)) ∈ TT := tt_mem 262 rfl rfl
set_option maxRecDepth 20000 in
theorem w_263 : (Jvm.Cond.selects "AmendedDrawing$Action" ({ cls := "AmendedDrawing$Action", name := "takes", desc := "(II)Z" } : Jvm.MethodName) ({ cls := "AmendedDrawing$Action", name := "takes", desc := "(II)Z" } : Jvm.MethodName)) ∈ TT := tt_mem 263 rfl rfl
set_option maxRecDepth 20000 in
theorem w_264 : (Jvm.Cond.code ({ cls := "AmendedDrawing$Action", name := "takes", desc := "(II)Z" } : Jvm.MethodName) prog_2_method_5_code (3 : Nat) (Option.some Jvm.ClassFile.FieldType.boolean)) ∈ TT := tt_mem 264 rfl rfl
set_option maxRecDepth 20000 in
theorem w_265 : (Jvm.Cond.methodLink "AmendedDrawing$Action" (37 : Nat) ({ cls := "AmendedDrawing$Action", name := "isWithin", desc := "(III)Z" } : Jvm.MethodName)) ∈ TT := tt_mem 265 rfl rfl
set_option maxRecDepth 20000 in
theorem w_266 : (Jvm.Cond.static ({ cls := "AmendedDrawing$Action", name := "isWithin", desc := "(III)Z" } : Jvm.MethodName)) ∈ TT := tt_mem 266 rfl rfl
set_option maxRecDepth 20000 in
theorem w_267 : (Jvm.Cond.code ({ cls := "AmendedDrawing$Action", name := "isWithin", desc := "(III)Z" } : Jvm.MethodName) prog_2_method_9_code (3 : Nat) (Option.some Jvm.ClassFile.FieldType.boolean)) ∈ TT := tt_mem 267 rfl rfl
set_option maxRecDepth 20000 in
theorem w_268 : (Jvm.Cond.methodLink "AmendedDrawing$Action" (43 : Nat) ({ cls := "AmendedDrawing$Action", name := "widthOf", desc := "(I)I" } : Jvm.MethodName)) ∈ TT := tt_mem 268 rfl rfl
set_option maxRecDepth 20000 in
theorem w_269 : (Jvm.Cond.static ({ cls := "AmendedDrawing$Action", name := "widthOf", desc := "(I)I" } : Jvm.MethodName)) ∈ TT := tt_mem 269 rfl rfl
set_option maxRecDepth 20000 in
theorem w_270 : (Jvm.Cond.code ({ cls := "AmendedDrawing$Action", name := "widthOf", desc := "(I)I" } : Jvm.MethodName) prog_2_method_7_code (1 : Nat) (Option.some Jvm.ClassFile.FieldType.int)) ∈ TT := tt_mem 270 rfl rfl
set_option maxRecDepth 20000 in
theorem w_271 : (Jvm.Cond.methodLink "AmendedDrawing$Action" (46 : Nat) ({ cls := "AmendedDrawing$Action", name := "heightOf", desc := "(I)I" } : Jvm.MethodName)) ∈ TT := tt_mem 271 rfl rfl
set_option maxRecDepth 20000 in
theorem w_272 : (Jvm.Cond.static ({ cls := "AmendedDrawing$Action", name := "heightOf", desc := "(I)I" } : Jvm.MethodName)) ∈ TT := tt_mem 272 rfl rfl
set_option maxRecDepth 20000 in
theorem w_273 : (Jvm.Cond.code ({ cls := "AmendedDrawing$Action", name := "heightOf", desc := "(I)I" } : Jvm.MethodName) prog_2_method_8_code (1 : Nat) (Option.some Jvm.ClassFile.FieldType.int)) ∈ TT := tt_mem 273 rfl rfl
set_option maxRecDepth 20000 in
theorem w_274 : (Jvm.Cond.classLink "AmendedDrawing" (49 : Nat) "java/lang/IllegalArgumentException") ∈ TT := tt_mem 274 rfl rfl
set_option maxRecDepth 20000 in
theorem w_338 : (Jvm.Cond.methodLink "AmendedDrawing" (56 : Nat) ({ cls := "AmendedDrawing$Drawing", name := "carryOut", desc := "(LAmendedDrawing$Action;I)Z" } : Jvm.MethodName)) ∈ TT := tt_mem 338 rfl rfl
set_option maxRecDepth 20000 in
theorem w_339 : (Jvm.Cond.instanceMethod ({ cls := "AmendedDrawing$Drawing", name := "carryOut", desc := "(LAmendedDrawing$Action;I)Z" } : Jvm.MethodName)) ∈ TT := tt_mem 339 rfl rfl
set_option maxRecDepth 20000 in
theorem w_340 : (Jvm.Cond.selects "AmendedDrawing$Drawing" ({ cls := "AmendedDrawing$Drawing", name := "carryOut", desc := "(LAmendedDrawing$Action;I)Z" } : Jvm.MethodName) ({ cls := "AmendedDrawing$Drawing", name := "carryOut", desc := "(LAmendedDrawing$Action;I)Z" } : Jvm.MethodName)) ∈ TT := tt_mem 340 rfl rfl
set_option maxRecDepth 20000 in
theorem w_341 : (Jvm.Cond.code ({ cls := "AmendedDrawing$Drawing", name := "carryOut", desc := "(LAmendedDrawing$Action;I)Z" } : Jvm.MethodName) prog_3_method_3_code (6 : Nat) (Option.some Jvm.ClassFile.FieldType.boolean)) ∈ TT := tt_mem 341 rfl rfl
set_option maxRecDepth 20000 in
theorem w_342 : (Jvm.Cond.methodLink "AmendedDrawing$Drawing" (41 : Nat) ({ cls := "AmendedDrawing$Drawing", name := "make", desc := "(LAmendedDrawing$Action;I)Z" } : Jvm.MethodName)) ∈ TT := tt_mem 342 rfl rfl
set_option maxRecDepth 20000 in
theorem w_344 : (Jvm.Cond.instanceMethod ({ cls := "AmendedDrawing$Drawing", name := "make", desc := "(LAmendedDrawing$Action;I)Z" } : Jvm.MethodName)) ∈ TT := tt_mem 344 rfl rfl
set_option maxRecDepth 20000 in
theorem w_345 : (Jvm.Cond.code ({ cls := "AmendedDrawing$Drawing", name := "make", desc := "(LAmendedDrawing$Action;I)Z" } : Jvm.MethodName) prog_3_method_7_code (7 : Nat) (Option.some Jvm.ClassFile.FieldType.boolean)) ∈ TT := tt_mem 345 rfl rfl
set_option maxRecDepth 20000 in
theorem w_346 : (Jvm.Cond.methodLink "AmendedDrawing$Drawing" (99 : Nat) ({ cls := "AmendedDrawing$Action", name := "widthOf", desc := "(I)I" } : Jvm.MethodName)) ∈ TT := tt_mem 346 rfl rfl
set_option maxRecDepth 20000 in
theorem w_347 : (Jvm.Cond.methodLink "AmendedDrawing$Drawing" (103 : Nat) ({ cls := "AmendedDrawing$Action", name := "heightOf", desc := "(I)I" } : Jvm.MethodName)) ∈ TT := tt_mem 347 rfl rfl
set_option maxRecDepth 20000 in
theorem w_348 : (Jvm.Cond.methodLink "AmendedDrawing$Drawing" (106 : Nat) ({ cls := "AmendedDrawing$Item", name := "keepsLimits", desc := "(IIII)Z" } : Jvm.MethodName)) ∈ TT := tt_mem 348 rfl rfl
set_option maxRecDepth 20000 in
theorem w_349 : (Jvm.Cond.static ({ cls := "AmendedDrawing$Item", name := "keepsLimits", desc := "(IIII)Z" } : Jvm.MethodName)) ∈ TT := tt_mem 349 rfl rfl
set_option maxRecDepth 20000 in
theorem w_350 : (Jvm.Cond.code ({ cls := "AmendedDrawing$Item", name := "keepsLimits", desc := "(IIII)Z" } : Jvm.MethodName) prog_6_method_14_code (4 : Nat) (Option.some Jvm.ClassFile.FieldType.boolean)) ∈ TT := tt_mem 350 rfl rfl
set_option maxRecDepth 20000 in
theorem w_351 : (Jvm.Cond.methodLink "AmendedDrawing$Drawing" (109 : Nat) ({ cls := "AmendedDrawing$Item", name := "becomeShape", desc := "(III)V" } : Jvm.MethodName)) ∈ TT := tt_mem 351 rfl rfl
set_option maxRecDepth 20000 in
theorem w_352 : (Jvm.Cond.instanceMethod ({ cls := "AmendedDrawing$Item", name := "becomeShape", desc := "(III)V" } : Jvm.MethodName)) ∈ TT := tt_mem 352 rfl rfl
set_option maxRecDepth 20000 in
theorem w_353 : (Jvm.Cond.selects "AmendedDrawing$Item" ({ cls := "AmendedDrawing$Item", name := "becomeShape", desc := "(III)V" } : Jvm.MethodName) ({ cls := "AmendedDrawing$Item", name := "becomeShape", desc := "(III)V" } : Jvm.MethodName)) ∈ TT := tt_mem 353 rfl rfl
set_option maxRecDepth 20000 in
theorem w_354 : (Jvm.Cond.code ({ cls := "AmendedDrawing$Item", name := "becomeShape", desc := "(III)V" } : Jvm.MethodName) prog_6_method_3_code (4 : Nat) (Option.none : Option Jvm.ClassFile.FieldType)) ∈ TT := tt_mem 354 rfl rfl
set_option maxRecDepth 20000 in
theorem w_355 : (Jvm.Cond.methodLink "AmendedDrawing$Drawing" (113 : Nat) ({ cls := "AmendedDrawing$Item", name := "setBox", desc := "(IIII)V" } : Jvm.MethodName)) ∈ TT := tt_mem 355 rfl rfl
set_option maxRecDepth 20000 in
theorem w_356 : (Jvm.Cond.instanceMethod ({ cls := "AmendedDrawing$Item", name := "setBox", desc := "(IIII)V" } : Jvm.MethodName)) ∈ TT := tt_mem 356 rfl rfl
set_option maxRecDepth 20000 in
theorem w_357 : (Jvm.Cond.selects "AmendedDrawing$Item" ({ cls := "AmendedDrawing$Item", name := "setBox", desc := "(IIII)V" } : Jvm.MethodName) ({ cls := "AmendedDrawing$Item", name := "setBox", desc := "(IIII)V" } : Jvm.MethodName)) ∈ TT := tt_mem 357 rfl rfl
set_option maxRecDepth 20000 in
theorem w_358 : (Jvm.Cond.code ({ cls := "AmendedDrawing$Item", name := "setBox", desc := "(IIII)V" } : Jvm.MethodName) prog_6_method_5_code (5 : Nat) (Option.none : Option Jvm.ClassFile.FieldType)) ∈ TT := tt_mem 358 rfl rfl
set_option maxRecDepth 20000 in
theorem w_359 : (Jvm.Cond.methodLink "AmendedDrawing$Drawing" (117 : Nat) ({ cls := "AmendedDrawing$Drawing", name := "insert", desc := "(II)V" } : Jvm.MethodName)) ∈ TT := tt_mem 359 rfl rfl
set_option maxRecDepth 20000 in
theorem w_361 : (Jvm.Cond.instanceMethod ({ cls := "AmendedDrawing$Drawing", name := "insert", desc := "(II)V" } : Jvm.MethodName)) ∈ TT := tt_mem 361 rfl rfl
set_option maxRecDepth 20000 in
theorem w_362 : (Jvm.Cond.code ({ cls := "AmendedDrawing$Drawing", name := "insert", desc := "(II)V" } : Jvm.MethodName) prog_3_method_22_code (3 : Nat) (Option.none : Option Jvm.ClassFile.FieldType)) ∈ TT := tt_mem 362 rfl rfl
set_option maxRecDepth 20000 in
theorem w_363 : (Jvm.Cond.methodLink "AmendedDrawing$Drawing" (181 : Nat) ({ cls := "java/lang/System", name := "arraycopy", desc := "(Ljava/lang/Object;ILjava/lang/Object;II)V" } : Jvm.MethodName)) ∈ TT := tt_mem 363 rfl rfl
set_option maxRecDepth 20000 in
theorem w_366 : (Jvm.Cond.methodLink "AmendedDrawing$Drawing" (49 : Nat) ({ cls := "AmendedDrawing$Drawing", name := "delete", desc := "(I)Z" } : Jvm.MethodName)) ∈ TT := tt_mem 366 rfl rfl
set_option maxRecDepth 20000 in
theorem w_368 : (Jvm.Cond.instanceMethod ({ cls := "AmendedDrawing$Drawing", name := "delete", desc := "(I)Z" } : Jvm.MethodName)) ∈ TT := tt_mem 368 rfl rfl
set_option maxRecDepth 20000 in
theorem w_369 : (Jvm.Cond.code ({ cls := "AmendedDrawing$Drawing", name := "delete", desc := "(I)Z" } : Jvm.MethodName) prog_3_method_8_code (5 : Nat) (Option.some Jvm.ClassFile.FieldType.boolean)) ∈ TT := tt_mem 369 rfl rfl
set_option maxRecDepth 20000 in
theorem w_370 : (Jvm.Cond.methodLink "AmendedDrawing$Drawing" (120 : Nat) ({ cls := "AmendedDrawing$Drawing", name := "placeOf", desc := "(I)I" } : Jvm.MethodName)) ∈ TT := tt_mem 370 rfl rfl
set_option maxRecDepth 20000 in
theorem w_372 : (Jvm.Cond.instanceMethod ({ cls := "AmendedDrawing$Drawing", name := "placeOf", desc := "(I)I" } : Jvm.MethodName)) ∈ TT := tt_mem 372 rfl rfl
set_option maxRecDepth 20000 in
theorem w_373 : (Jvm.Cond.code ({ cls := "AmendedDrawing$Drawing", name := "placeOf", desc := "(I)I" } : Jvm.MethodName) prog_3_method_20_code (3 : Nat) (Option.some Jvm.ClassFile.FieldType.int)) ∈ TT := tt_mem 373 rfl rfl
set_option maxRecDepth 20000 in
theorem w_374 : (Jvm.Cond.methodLink "AmendedDrawing$Drawing" (123 : Nat) ({ cls := "AmendedDrawing$Drawing", name := "endOf", desc := "(I)I" } : Jvm.MethodName)) ∈ TT := tt_mem 374 rfl rfl
set_option maxRecDepth 20000 in
theorem w_376 : (Jvm.Cond.instanceMethod ({ cls := "AmendedDrawing$Drawing", name := "endOf", desc := "(I)I" } : Jvm.MethodName)) ∈ TT := tt_mem 376 rfl rfl
set_option maxRecDepth 20000 in
theorem w_377 : (Jvm.Cond.code ({ cls := "AmendedDrawing$Drawing", name := "endOf", desc := "(I)I" } : Jvm.MethodName) prog_3_method_21_code (3 : Nat) (Option.some Jvm.ClassFile.FieldType.int)) ∈ TT := tt_mem 377 rfl rfl
set_option maxRecDepth 20000 in
theorem w_378 : (Jvm.Cond.methodLink "AmendedDrawing$Drawing" (163 : Nat) ({ cls := "AmendedDrawing$Drawing", name := "isIn", desc := "(II)Z" } : Jvm.MethodName)) ∈ TT := tt_mem 378 rfl rfl
set_option maxRecDepth 20000 in
theorem w_380 : (Jvm.Cond.instanceMethod ({ cls := "AmendedDrawing$Drawing", name := "isIn", desc := "(II)Z" } : Jvm.MethodName)) ∈ TT := tt_mem 380 rfl rfl
set_option maxRecDepth 20000 in
theorem w_381 : (Jvm.Cond.code ({ cls := "AmendedDrawing$Drawing", name := "isIn", desc := "(II)Z" } : Jvm.MethodName) prog_3_method_19_code (5 : Nat) (Option.some Jvm.ClassFile.FieldType.boolean)) ∈ TT := tt_mem 381 rfl rfl
set_option maxRecDepth 20000 in
theorem w_382 : (Jvm.Cond.methodLink "AmendedDrawing$Drawing" (29 : Nat) ({ cls := "AmendedDrawing$Drawing", name := "removeBlock", desc := "(II)V" } : Jvm.MethodName)) ∈ TT := tt_mem 382 rfl rfl
set_option maxRecDepth 20000 in
theorem w_384 : (Jvm.Cond.instanceMethod ({ cls := "AmendedDrawing$Drawing", name := "removeBlock", desc := "(II)V" } : Jvm.MethodName)) ∈ TT := tt_mem 384 rfl rfl
set_option maxRecDepth 20000 in
theorem w_385 : (Jvm.Cond.code ({ cls := "AmendedDrawing$Drawing", name := "removeBlock", desc := "(II)V" } : Jvm.MethodName) prog_3_method_23_code (4 : Nat) (Option.none : Option Jvm.ClassFile.FieldType)) ∈ TT := tt_mem 385 rfl rfl
set_option maxRecDepth 20000 in
theorem w_386 : (Jvm.Cond.methodLink "AmendedDrawing$Drawing" (53 : Nat) ({ cls := "AmendedDrawing$Drawing", name := "move", desc := "(III)Z" } : Jvm.MethodName)) ∈ TT := tt_mem 386 rfl rfl
set_option maxRecDepth 20000 in
theorem w_388 : (Jvm.Cond.instanceMethod ({ cls := "AmendedDrawing$Drawing", name := "move", desc := "(III)Z" } : Jvm.MethodName)) ∈ TT := tt_mem 388 rfl rfl
set_option maxRecDepth 20000 in
theorem w_389 : (Jvm.Cond.code ({ cls := "AmendedDrawing$Drawing", name := "move", desc := "(III)Z" } : Jvm.MethodName) prog_3_method_9_code (5 : Nat) (Option.some Jvm.ClassFile.FieldType.boolean)) ∈ TT := tt_mem 389 rfl rfl
set_option maxRecDepth 20000 in
theorem w_390 : (Jvm.Cond.methodLink "AmendedDrawing$Drawing" (126 : Nat) ({ cls := "AmendedDrawing$Drawing", name := "isShapeIn", desc := "(II)Z" } : Jvm.MethodName)) ∈ TT := tt_mem 390 rfl rfl
set_option maxRecDepth 20000 in
theorem w_392 : (Jvm.Cond.instanceMethod ({ cls := "AmendedDrawing$Drawing", name := "isShapeIn", desc := "(II)Z" } : Jvm.MethodName)) ∈ TT := tt_mem 392 rfl rfl
set_option maxRecDepth 20000 in
theorem w_393 : (Jvm.Cond.code ({ cls := "AmendedDrawing$Drawing", name := "isShapeIn", desc := "(II)Z" } : Jvm.MethodName) prog_3_method_18_code (3 : Nat) (Option.some Jvm.ClassFile.FieldType.boolean)) ∈ TT := tt_mem 393 rfl rfl
set_option maxRecDepth 20000 in
theorem w_394 : (Jvm.Cond.methodLink "AmendedDrawing$Drawing" (147 : Nat) ({ cls := "AmendedDrawing$Item", name := "isShape", desc := "()Z" } : Jvm.MethodName)) ∈ TT := tt_mem 394 rfl rfl
set_option maxRecDepth 20000 in
theorem w_395 : (Jvm.Cond.methodLink "AmendedDrawing$Drawing" (129 : Nat) ({ cls := "AmendedDrawing$Item", name := "canShift", desc := "(II)Z" } : Jvm.MethodName)) ∈ TT := tt_mem 395 rfl rfl
set_option maxRecDepth 20000 in
theorem w_396 : (Jvm.Cond.instanceMethod ({ cls := "AmendedDrawing$Item", name := "canShift", desc := "(II)Z" } : Jvm.MethodName)) ∈ TT := tt_mem 396 rfl rfl
set_option maxRecDepth 20000 in
theorem w_397 : (Jvm.Cond.selects "AmendedDrawing$Item" ({ cls := "AmendedDrawing$Item", name := "canShift", desc := "(II)Z" } : Jvm.MethodName) ({ cls := "AmendedDrawing$Item", name := "canShift", desc := "(II)Z" } : Jvm.MethodName)) ∈ TT := tt_mem 397 rfl rfl
set_option maxRecDepth 20000 in
theorem w_398 : (Jvm.Cond.code ({ cls := "AmendedDrawing$Item", name := "canShift", desc := "(II)Z" } : Jvm.MethodName) prog_6_method_7_code (3 : Nat) (Option.some Jvm.ClassFile.FieldType.boolean)) ∈ TT := tt_mem 398 rfl rfl
set_option maxRecDepth 20000 in
theorem w_399 : (Jvm.Cond.methodLink "AmendedDrawing$Item" (37 : Nat) ({ cls := "AmendedDrawing$Item", name := "keepsLimits", desc := "(IIII)Z" } : Jvm.MethodName)) ∈ TT := tt_mem 399 rfl rfl
set_option maxRecDepth 20000 in
theorem w_400 : (Jvm.Cond.methodLink "AmendedDrawing$Drawing" (132 : Nat) ({ cls := "AmendedDrawing$Item", name := "shift", desc := "(II)V" } : Jvm.MethodName)) ∈ TT := tt_mem 400 rfl rfl
set_option maxRecDepth 20000 in
theorem w_401 : (Jvm.Cond.instanceMethod ({ cls := "AmendedDrawing$Item", name := "shift", desc := "(II)V" } : Jvm.MethodName)) ∈ TT := tt_mem 401 rfl rfl
set_option maxRecDepth 20000 in
theorem w_402 : (Jvm.Cond.selects "AmendedDrawing$Item" ({ cls := "AmendedDrawing$Item", name := "shift", desc := "(II)V" } : Jvm.MethodName) ({ cls := "AmendedDrawing$Item", name := "shift", desc := "(II)V" } : Jvm.MethodName)) ∈ TT := tt_mem 402 rfl rfl
set_option maxRecDepth 20000 in
theorem w_403 : (Jvm.Cond.code ({ cls := "AmendedDrawing$Item", name := "shift", desc := "(II)V" } : Jvm.MethodName) prog_6_method_8_code (3 : Nat) (Option.none : Option Jvm.ClassFile.FieldType)) ∈ TT := tt_mem 403 rfl rfl
set_option maxRecDepth 20000 in
theorem w_404 : (Jvm.Cond.methodLink "AmendedDrawing$Drawing" (57 : Nat) ({ cls := "AmendedDrawing$Drawing", name := "scale", desc := "(III)Z" } : Jvm.MethodName)) ∈ TT := tt_mem 404 rfl rfl
set_option maxRecDepth 20000 in
theorem w_406 : (Jvm.Cond.instanceMethod ({ cls := "AmendedDrawing$Drawing", name := "scale", desc := "(III)Z" } : Jvm.MethodName)) ∈ TT := tt_mem 406 rfl rfl
set_option maxRecDepth 20000 in
theorem w_407 : (Jvm.Cond.code ({ cls := "AmendedDrawing$Drawing", name := "scale", desc := "(III)Z" } : Jvm.MethodName) prog_3_method_10_code (7 : Nat) (Option.some Jvm.ClassFile.FieldType.boolean)) ∈ TT := tt_mem 407 rfl rfl
set_option maxRecDepth 20000 in
theorem w_408 : (Jvm.Cond.methodLink "AmendedDrawing$Drawing" (83 : Nat) ({ cls := "AmendedDrawing$Drawing", name := "edge", desc := "(II)I" } : Jvm.MethodName)) ∈ TT := tt_mem 408 rfl rfl
set_option maxRecDepth 20000 in
theorem w_410 : (Jvm.Cond.instanceMethod ({ cls := "AmendedDrawing$Drawing", name := "edge", desc := "(II)I" } : Jvm.MethodName)) ∈ TT := tt_mem 410 rfl rfl
set_option maxRecDepth 20000 in
theorem w_411 : (Jvm.Cond.code ({ cls := "AmendedDrawing$Drawing", name := "edge", desc := "(II)I" } : Jvm.MethodName) prog_3_method_17_code (7 : Nat) (Option.some Jvm.ClassFile.FieldType.int)) ∈ TT := tt_mem 411 rfl rfl
set_option maxRecDepth 20000 in
theorem w_412 : (Jvm.Cond.constant "AmendedDrawing$Drawing" (168 : Nat) (2147483647 : Int32)) ∈ TT := tt_mem 412 rfl rfl
set_option maxRecDepth 20000 in
theorem w_413 : (Jvm.Cond.constant "AmendedDrawing$Drawing" (169 : Nat) (-2147483648 : Int32)) ∈ TT := tt_mem 413 rfl rfl
set_option maxRecDepth 20000 in
theorem w_414 : (Jvm.Cond.methodLink "AmendedDrawing$Drawing" (170 : Nat) ({ cls := "AmendedDrawing$Item", name := "end", desc := "(I)I" } : Jvm.MethodName)) ∈ TT := tt_mem 414 rfl rfl
set_option maxRecDepth 20000 in
theorem w_415 : (Jvm.Cond.instanceMethod ({ cls := "AmendedDrawing$Item", name := "end", desc := "(I)I" } : Jvm.MethodName)) ∈ TT := tt_mem 415 rfl rfl
set_option maxRecDepth 20000 in
theorem w_416 : (Jvm.Cond.selects "AmendedDrawing$Item" ({ cls := "AmendedDrawing$Item", name := "end", desc := "(I)I" } : Jvm.MethodName) ({ cls := "AmendedDrawing$Item", name := "end", desc := "(I)I" } : Jvm.MethodName)) ∈ TT := tt_mem 416 rfl rfl
set_option maxRecDepth 20000 in
theorem w_417 : (Jvm.Cond.code ({ cls := "AmendedDrawing$Item", name := "end", desc := "(I)I" } : Jvm.MethodName) prog_6_method_6_code (2 : Nat) (Option.some Jvm.ClassFile.FieldType.int)) ∈ TT := tt_mem 417 rfl rfl
set_option maxRecDepth 20000 in
theorem w_418 : (Jvm.Cond.methodLink "AmendedDrawing$Drawing" (173 : Nat) ({ cls := "java/lang/Math", name := "min", desc := "(II)I" } : Jvm.MethodName)) ∈ TT := tt_mem 418 rfl rfl
set_option maxRecDepth 20000 in
theorem w_421 : (Jvm.Cond.methodLink "AmendedDrawing$Drawing" (178 : Nat) ({ cls := "java/lang/Math", name := "max", desc := "(II)I" } : Jvm.MethodName)) ∈ TT := tt_mem 421 rfl rfl
set_option maxRecDepth 20000 in
theorem w_424 : (Jvm.Cond.methodLink "AmendedDrawing$Drawing" (135 : Nat) ({ cls := "AmendedDrawing$Item", name := "canStretch", desc := "(IIII)Z" } : Jvm.MethodName)) ∈ TT := tt_mem 424 rfl rfl
set_option maxRecDepth 20000 in
theorem w_425 : (Jvm.Cond.instanceMethod ({ cls := "AmendedDrawing$Item", name := "canStretch", desc := "(IIII)Z" } : Jvm.MethodName)) ∈ TT := tt_mem 425 rfl rfl
set_option maxRecDepth 20000 in
theorem w_426 : (Jvm.Cond.selects "AmendedDrawing$Item" ({ cls := "AmendedDrawing$Item", name := "canStretch", desc := "(IIII)Z" } : Jvm.MethodName) ({ cls := "AmendedDrawing$Item", name := "canStretch", desc := "(IIII)Z" } : Jvm.MethodName)) ∈ TT := tt_mem 426 rfl rfl
set_option maxRecDepth 20000 in
theorem w_427 : (Jvm.Cond.code ({ cls := "AmendedDrawing$Item", name := "canStretch", desc := "(IIII)Z" } : Jvm.MethodName) prog_6_method_9_code (5 : Nat) (Option.some Jvm.ClassFile.FieldType.boolean)) ∈ TT := tt_mem 427 rfl rfl
set_option maxRecDepth 20000 in
theorem w_428 : (Jvm.Cond.methodLink "AmendedDrawing$Item" (41 : Nat) ({ cls := "AmendedDrawing$Item", name := "scaledPlace", desc := "(IIII)I" } : Jvm.MethodName)) ∈ TT := tt_mem 428 rfl rfl
set_option maxRecDepth 20000 in
theorem w_429 : (Jvm.Cond.static ({ cls := "AmendedDrawing$Item", name := "scaledPlace", desc := "(IIII)I" } : Jvm.MethodName)) ∈ TT := tt_mem 429 rfl rfl
set_option maxRecDepth 20000 in
theorem w_430 : (Jvm.Cond.code ({ cls := "AmendedDrawing$Item", name := "scaledPlace", desc := "(IIII)I" } : Jvm.MethodName) prog_6_method_15_code (4 : Nat) (Option.some Jvm.ClassFile.FieldType.int)) ∈ TT := tt_mem 430 rfl rfl
set_option maxRecDepth 20000 in
theorem w_431 : (Jvm.Cond.methodLink "AmendedDrawing$Item" (45 : Nat) ({ cls := "AmendedDrawing$Item", name := "scaledLength", desc := "(III)I" } : Jvm.MethodName)) ∈ TT := tt_mem 431 rfl rfl
set_option maxRecDepth 20000 in
theorem w_432 : (Jvm.Cond.static ({ cls := "AmendedDrawing$Item", name := "scaledLength", desc := "(III)I" } : Jvm.MethodName)) ∈ TT := tt_mem 432 rfl rfl
set_option maxRecDepth 20000 in
theorem w_433 : (Jvm.Cond.code ({ cls := "AmendedDrawing$Item", name := "scaledLength", desc := "(III)I" } : Jvm.MethodName) prog_6_method_16_code (4 : Nat) (Option.some Jvm.ClassFile.FieldType.int)) ∈ TT := tt_mem 433 rfl rfl
set_option maxRecDepth 20000 in
theorem w_434 : (Jvm.Cond.methodLink "AmendedDrawing$Drawing" (138 : Nat) ({ cls := "AmendedDrawing$Item", name := "stretch", desc := "(IIII)V" } : Jvm.MethodName)) ∈ TT := tt_mem 434 rfl rfl
set_option maxRecDepth 20000 in
theorem w_435 : (Jvm.Cond.instanceMethod ({ cls := "AmendedDrawing$Item", name := "stretch", desc := "(IIII)V" } : Jvm.MethodName)) ∈ TT := tt_mem 435 rfl rfl
set_option maxRecDepth 20000 in
theorem w_436 : (Jvm.Cond.selects "AmendedDrawing$Item" ({ cls := "AmendedDrawing$Item", name := "stretch", desc := "(IIII)V" } : Jvm.MethodName) ({ cls := "AmendedDrawing$Item", name := "stretch", desc := "(IIII)V" } : Jvm.MethodName)) ∈ TT := tt_mem 436 rfl rfl
set_option maxRecDepth 20000 in
theorem w_437 : (Jvm.Cond.code ({ cls := "AmendedDrawing$Item", name := "stretch", desc := "(IIII)V" } : Jvm.MethodName) prog_6_method_10_code (5 : Nat) (Option.none : Option Jvm.ClassFile.FieldType)) ∈ TT := tt_mem 437 rfl rfl
set_option maxRecDepth 20000 in
theorem w_438 : (Jvm.Cond.methodLink "AmendedDrawing$Item" (49 : Nat) ({ cls := "AmendedDrawing$Item", name := "setBox", desc := "(IIII)V" } : Jvm.MethodName)) ∈ TT := tt_mem 438 rfl rfl
set_option maxRecDepth 20000 in
theorem w_439 : (Jvm.Cond.methodLink "AmendedDrawing$Drawing" (60 : Nat) ({ cls := "AmendedDrawing$Drawing", name := "paint", desc := "(II)Z" } : Jvm.MethodName)) ∈ TT := tt_mem 439 rfl rfl
set_option maxRecDepth 20000 in
theorem w_441 : (Jvm.Cond.instanceMethod ({ cls := "AmendedDrawing$Drawing", name := "paint", desc := "(II)Z" } : Jvm.MethodName)) ∈ TT := tt_mem 441 rfl rfl
set_option maxRecDepth 20000 in
theorem w_442 : (Jvm.Cond.code ({ cls := "AmendedDrawing$Drawing", name := "paint", desc := "(II)Z" } : Jvm.MethodName) prog_3_method_11_code (4 : Nat) (Option.some Jvm.ClassFile.FieldType.boolean)) ∈ TT := tt_mem 442 rfl rfl
set_option maxRecDepth 20000 in
theorem w_443 : (Jvm.Cond.methodLink "AmendedDrawing$Drawing" (64 : Nat) ({ cls := "AmendedDrawing$Drawing", name := "raise", desc := "(II)Z" } : Jvm.MethodName)) ∈ TT := tt_mem 443 rfl rfl
set_option maxRecDepth 20000 in
theorem w_445 : (Jvm.Cond.instanceMethod ({ cls := "AmendedDrawing$Drawing", name := "raise", desc := "(II)Z" } : Jvm.MethodName)) ∈ TT := tt_mem 445 rfl rfl
set_option maxRecDepth 20000 in
theorem w_446 : (Jvm.Cond.code ({ cls := "AmendedDrawing$Drawing", name := "raise", desc := "(II)Z" } : Jvm.MethodName) prog_3_method_12_code (6 : Nat) (Option.some Jvm.ClassFile.FieldType.boolean)) ∈ TT := tt_mem 446 rfl rfl
set_option maxRecDepth 20000 in
theorem w_447 : (Jvm.Cond.methodLink "AmendedDrawing$Drawing" (141 : Nat) ({ cls := "AmendedDrawing$Drawing", name := "moveBlock", desc := "(III)V" } : Jvm.MethodName)) ∈ TT := tt_mem 447 rfl rfl
set_option maxRecDepth 20000 in
theorem w_449 : (Jvm.Cond.instanceMethod ({ cls := "AmendedDrawing$Drawing", name := "moveBlock", desc := "(III)V" } : Jvm.MethodName)) ∈ TT := tt_mem 449 rfl rfl
set_option maxRecDepth 20000 in
theorem w_450 : (Jvm.Cond.code ({ cls := "AmendedDrawing$Drawing", name := "moveBlock", desc := "(III)V" } : Jvm.MethodName) prog_3_method_24_code (5 : Nat) (Option.none : Option Jvm.ClassFile.FieldType)) ∈ TT := tt_mem 450 rfl rfl
set_option maxRecDepth 20000 in
theorem w_451 : (Jvm.Cond.methodLink "AmendedDrawing$Drawing" (67 : Nat) ({ cls := "AmendedDrawing$Drawing", name := "group", desc := "(III)Z" } : Jvm.MethodName)) ∈ TT := tt_mem 451 rfl rfl
set_option maxRecDepth 20000 in
theorem w_453 : (Jvm.Cond.instanceMethod ({ cls := "AmendedDrawing$Drawing", name := "group", desc := "(III)Z" } : Jvm.MethodName)) ∈ TT := tt_mem 453 rfl rfl
set_option maxRecDepth 20000 in
theorem w_454 : (Jvm.Cond.code ({ cls := "AmendedDrawing$Drawing", name := "group", desc := "(III)Z" } : Jvm.MethodName) prog_3_method_13_code (6 : Nat) (Option.some Jvm.ClassFile.FieldType.boolean)) ∈ TT := tt_mem 454 rfl rfl
set_option maxRecDepth 20000 in
theorem w_455 : (Jvm.Cond.methodLink "AmendedDrawing$Drawing" (144 : Nat) ({ cls := "AmendedDrawing$Item", name := "becomeGroup", desc := "()V" } : Jvm.MethodName)) ∈ TT := tt_mem 455 rfl rfl
set_option maxRecDepth 20000 in
theorem w_456 : (Jvm.Cond.instanceMethod ({ cls := "AmendedDrawing$Item", name := "becomeGroup", desc := "()V" } : Jvm.MethodName)) ∈ TT := tt_mem 456 rfl rfl
set_option maxRecDepth 20000 in
theorem w_457 : (Jvm.Cond.selects "AmendedDrawing$Item" ({ cls := "AmendedDrawing$Item", name := "becomeGroup", desc := "()V" } : Jvm.MethodName) ({ cls := "AmendedDrawing$Item", name := "becomeGroup", desc := "()V" } : Jvm.MethodName)) ∈ TT := tt_mem 457 rfl rfl
set_option maxRecDepth 20000 in
theorem w_458 : (Jvm.Cond.code ({ cls := "AmendedDrawing$Item", name := "becomeGroup", desc := "()V" } : Jvm.MethodName) prog_6_method_4_code (1 : Nat) (Option.none : Option Jvm.ClassFile.FieldType)) ∈ TT := tt_mem 458 rfl rfl
set_option maxRecDepth 20000 in
theorem w_459 : (Jvm.Cond.methodLink "AmendedDrawing$Drawing" (70 : Nat) ({ cls := "AmendedDrawing$Drawing", name := "ungroup", desc := "(I)Z" } : Jvm.MethodName)) ∈ TT := tt_mem 459 rfl rfl
set_option maxRecDepth 20000 in
theorem w_461 : (Jvm.Cond.instanceMethod ({ cls := "AmendedDrawing$Drawing", name := "ungroup", desc := "(I)Z" } : Jvm.MethodName)) ∈ TT := tt_mem 461 rfl rfl
set_option maxRecDepth 20000 in
theorem w_462 : (Jvm.Cond.code ({ cls := "AmendedDrawing$Drawing", name := "ungroup", desc := "(I)Z" } : Jvm.MethodName) prog_3_method_14_code (6 : Nat) (Option.some Jvm.ClassFile.FieldType.boolean)) ∈ TT := tt_mem 462 rfl rfl
set_option maxRecDepth 20000 in
theorem w_463 : (Jvm.Cond.methodLink "AmendedDrawing$Drawing" (73 : Nat) ({ cls := "AmendedDrawing$Drawing", name := "makeDouble", desc := "(IIII)Z" } : Jvm.MethodName)) ∈ TT := tt_mem 463 rfl rfl
set_option maxRecDepth 20000 in
theorem w_465 : (Jvm.Cond.instanceMethod ({ cls := "AmendedDrawing$Drawing", name := "makeDouble", desc := "(IIII)Z" } : Jvm.MethodName)) ∈ TT := tt_mem 465 rfl rfl
set_option maxRecDepth 20000 in
theorem w_466 : (Jvm.Cond.code ({ cls := "AmendedDrawing$Drawing", name := "makeDouble", desc := "(IIII)Z" } : Jvm.MethodName) prog_3_method_15_code (6 : Nat) (Option.some Jvm.ClassFile.FieldType.boolean)) ∈ TT := tt_mem 466 rfl rfl
set_option maxRecDepth 20000 in
theorem w_467 : (Jvm.Cond.methodLink "AmendedDrawing$Drawing" (77 : Nat) ({ cls := "AmendedDrawing$Drawing", name := "align", desc := "(III)Z" } : Jvm.MethodName)) ∈ TT := tt_mem 467 rfl rfl
set_option maxRecDepth 20000 in
theorem w_469 : (Jvm.Cond.instanceMethod ({ cls := "AmendedDrawing$Drawing", name := "align", desc := "(III)Z" } : Jvm.MethodName)) ∈ TT := tt_mem 469 rfl rfl
set_option maxRecDepth 20000 in
theorem w_470 : (Jvm.Cond.code ({ cls := "AmendedDrawing$Drawing", name := "align", desc := "(III)Z" } : Jvm.MethodName) prog_3_method_16_code (6 : Nat) (Option.some Jvm.ClassFile.FieldType.boolean)) ∈ TT := tt_mem 470 rfl rfl
set_option maxRecDepth 20000 in
theorem w_471 : (Jvm.Cond.classLink "AmendedDrawing" (62 : Nat) "java/lang/IllegalStateException") ∈ TT := tt_mem 471 rfl rfl
set_option maxRecDepth 20000 in
theorem w_486 : (Jvm.Cond.methodLink "AmendedDrawing" (65 : Nat) ({ cls := "AmendedDrawing$Action", name := "copy", desc := "(LAmendedDrawing$Action;)V" } : Jvm.MethodName)) ∈ TT := tt_mem 486 rfl rfl
set_option maxRecDepth 20000 in
theorem w_487 : (Jvm.Cond.instanceMethod ({ cls := "AmendedDrawing$Action", name := "copy", desc := "(LAmendedDrawing$Action;)V" } : Jvm.MethodName)) ∈ TT := tt_mem 487 rfl rfl
set_option maxRecDepth 20000 in
theorem w_488 : (Jvm.Cond.selects "AmendedDrawing$Action" ({ cls := "AmendedDrawing$Action", name := "copy", desc := "(LAmendedDrawing$Action;)V" } : Jvm.MethodName) ({ cls := "AmendedDrawing$Action", name := "copy", desc := "(LAmendedDrawing$Action;)V" } : Jvm.MethodName)) ∈ TT := tt_mem 488 rfl rfl
set_option maxRecDepth 20000 in
theorem w_489 : (Jvm.Cond.code ({ cls := "AmendedDrawing$Action", name := "copy", desc := "(LAmendedDrawing$Action;)V" } : Jvm.MethodName) prog_2_method_3_code (2 : Nat) (Option.none : Option Jvm.ClassFile.FieldType)) ∈ TT := tt_mem 489 rfl rfl
set_option maxRecDepth 20000 in
theorem w_490 : (Jvm.Cond.methodLink "AmendedDrawing$Action" (27 : Nat) ({ cls := "java/lang/System", name := "arraycopy", desc := "(Ljava/lang/Object;ILjava/lang/Object;II)V" } : Jvm.MethodName)) ∈ TT := tt_mem 490 rfl rfl
set_option maxRecDepth 20000 in
theorem w_491 : (Jvm.Cond.methodLink "AmendedDrawing" (73 : Nat) ({ cls := "AmendedDrawing$History", name := "add", desc := "()LAmendedDrawing$Edit;" } : Jvm.MethodName)) ∈ TT := tt_mem 491 rfl rfl
set_option maxRecDepth 20000 in
theorem w_492 : (Jvm.Cond.instanceMethod ({ cls := "AmendedDrawing$History", name := "add", desc := "()LAmendedDrawing$Edit;" } : Jvm.MethodName)) ∈ TT := tt_mem 492 rfl rfl
set_option maxRecDepth 20000 in
theorem w_493 : (Jvm.Cond.selects "AmendedDrawing$History" ({ cls := "AmendedDrawing$History", name := "add", desc := "()LAmendedDrawing$Edit;" } : Jvm.MethodName) ({ cls := "AmendedDrawing$History", name := "add", desc := "()LAmendedDrawing$Edit;" } : Jvm.MethodName)) ∈ TT := tt_mem 493 rfl rfl
set_option maxRecDepth 20000 in
theorem w_494 : (Jvm.Cond.code ({ cls := "AmendedDrawing$History", name := "add", desc := "()LAmendedDrawing$Edit;" } : Jvm.MethodName) prog_5_method_2_code (1 : Nat) (Option.some (Jvm.ClassFile.FieldType.object "AmendedDrawing$Edit"))) ∈ TT := tt_mem 494 rfl rfl
set_option maxRecDepth 20000 in
theorem w_495 : (Jvm.Cond.methodLink "AmendedDrawing$History" (28 : Nat) ({ cls := "AmendedDrawing$History", name := "at", desc := "(I)LAmendedDrawing$Edit;" } : Jvm.MethodName)) ∈ TT := tt_mem 495 rfl rfl
set_option maxRecDepth 20000 in
theorem w_497 : (Jvm.Cond.instanceMethod ({ cls := "AmendedDrawing$History", name := "at", desc := "(I)LAmendedDrawing$Edit;" } : Jvm.MethodName)) ∈ TT := tt_mem 497 rfl rfl
set_option maxRecDepth 20000 in
theorem w_498 : (Jvm.Cond.code ({ cls := "AmendedDrawing$History", name := "at", desc := "(I)LAmendedDrawing$Edit;" } : Jvm.MethodName) prog_5_method_5_code (2 : Nat) (Option.some (Jvm.ClassFile.FieldType.object "AmendedDrawing$Edit"))) ∈ TT := tt_mem 498 rfl rfl
set_option maxRecDepth 20000 in
theorem w_499 : (Jvm.Cond.methodLink "AmendedDrawing" (77 : Nat) ({ cls := "AmendedDrawing$Edit", name := "become", desc := "(IIIII)V" } : Jvm.MethodName)) ∈ TT := tt_mem 499 rfl rfl
set_option maxRecDepth 20000 in
theorem w_500 : (Jvm.Cond.instanceMethod ({ cls := "AmendedDrawing$Edit", name := "become", desc := "(IIIII)V" } : Jvm.MethodName)) ∈ TT := tt_mem 500 rfl rfl
set_option maxRecDepth 20000 in
theorem w_501 : (Jvm.Cond.selects "AmendedDrawing$Edit" ({ cls := "AmendedDrawing$Edit", name := "become", desc := "(IIIII)V" } : Jvm.MethodName) ({ cls := "AmendedDrawing$Edit", name := "become", desc := "(IIIII)V" } : Jvm.MethodName)) ∈ TT := tt_mem 501 rfl rfl
set_option maxRecDepth 20000 in
theorem w_502 : (Jvm.Cond.code ({ cls := "AmendedDrawing$Edit", name := "become", desc := "(IIIII)V" } : Jvm.MethodName) prog_4_method_2_code (6 : Nat) (Option.none : Option Jvm.ClassFile.FieldType)) ∈ TT := tt_mem 502 rfl rfl
set_option maxRecDepth 20000 in
theorem w_508 : (Jvm.Cond.instanceMethod ({ cls := "AmendedDrawing", name := "withdraw", desc := "(I)I" } : Jvm.MethodName)) ∈ TT := tt_mem 508 rfl rfl
set_option maxRecDepth 20000 in
theorem w_509 : (Jvm.Cond.selects "AmendedDrawing" ({ cls := "AmendedDrawing", name := "withdraw", desc := "(I)I" } : Jvm.MethodName) ({ cls := "AmendedDrawing", name := "withdraw", desc := "(I)I" } : Jvm.MethodName)) ∈ TT := tt_mem 509 rfl rfl
set_option maxRecDepth 20000 in
theorem w_510 : (Jvm.Cond.code ({ cls := "AmendedDrawing", name := "withdraw", desc := "(I)I" } : Jvm.MethodName) prog_1_method_3_code (2 : Nat) (Option.some Jvm.ClassFile.FieldType.int)) ∈ TT := tt_mem 510 rfl rfl
set_option maxRecDepth 20000 in
theorem w_511 : (Jvm.Cond.methodLink "AmendedDrawing" (80 : Nat) ({ cls := "AmendedDrawing", name := "requireAction", desc := "(I)V" } : Jvm.MethodName)) ∈ TT := tt_mem 511 rfl rfl
set_option maxRecDepth 20000 in
theorem w_513 : (Jvm.Cond.instanceMethod ({ cls := "AmendedDrawing", name := "requireAction", desc := "(I)V" } : Jvm.MethodName)) ∈ TT := tt_mem 513 rfl rfl
set_option maxRecDepth 20000 in
theorem w_514 : (Jvm.Cond.code ({ cls := "AmendedDrawing", name := "requireAction", desc := "(I)V" } : Jvm.MethodName) prog_1_method_18_code (2 : Nat) (Option.none : Option Jvm.ClassFile.FieldType)) ∈ TT := tt_mem 514 rfl rfl
set_option maxRecDepth 20000 in
theorem w_515 : (Jvm.Cond.classLink "AmendedDrawing" (125 : Nat) "java/lang/IndexOutOfBoundsException") ∈ TT := tt_mem 515 rfl rfl
set_option maxRecDepth 20000 in
theorem w_530 : (Jvm.Cond.methodLink "AmendedDrawing" (88 : Nat) ({ cls := "AmendedDrawing$Outcome", name := "play", desc := "([LAmendedDrawing$Action;II)V" } : Jvm.MethodName)) ∈ TT := tt_mem 530 rfl rfl
set_option maxRecDepth 20000 in
theorem w_531 : (Jvm.Cond.instanceMethod ({ cls := "AmendedDrawing$Outcome", name := "play", desc := "([LAmendedDrawing$Action;II)V" } : Jvm.MethodName)) ∈ TT := tt_mem 531 rfl rfl
set_option maxRecDepth 20000 in
theorem w_532 : (Jvm.Cond.selects "AmendedDrawing$Outcome" ({ cls := "AmendedDrawing$Outcome", name := "play", desc := "([LAmendedDrawing$Action;II)V" } : Jvm.MethodName) ({ cls := "AmendedDrawing$Outcome", name := "play", desc := "([LAmendedDrawing$Action;II)V" } : Jvm.MethodName)) ∈ TT := tt_mem 532 rfl rfl
set_option maxRecDepth 20000 in
theorem w_533 : (Jvm.Cond.code ({ cls := "AmendedDrawing$Outcome", name := "play", desc := "([LAmendedDrawing$Action;II)V" } : Jvm.MethodName) prog_7_method_2_code (6 : Nat) (Option.none : Option Jvm.ClassFile.FieldType)) ∈ TT := tt_mem 533 rfl rfl
set_option maxRecDepth 20000 in
theorem w_534 : (Jvm.Cond.methodLink "AmendedDrawing$Outcome" (25 : Nat) ({ cls := "java/lang/System", name := "arraycopy", desc := "(Ljava/lang/Object;ILjava/lang/Object;II)V" } : Jvm.MethodName)) ∈ TT := tt_mem 534 rfl rfl
set_option maxRecDepth 20000 in
theorem w_535 : (Jvm.Cond.methodLink "AmendedDrawing$Outcome" (31 : Nat) ({ cls := "AmendedDrawing$Drawing", name := "clear", desc := "()V" } : Jvm.MethodName)) ∈ TT := tt_mem 535 rfl rfl
set_option maxRecDepth 20000 in
theorem w_536 : (Jvm.Cond.instanceMethod ({ cls := "AmendedDrawing$Drawing", name := "clear", desc := "()V" } : Jvm.MethodName)) ∈ TT := tt_mem 536 rfl rfl
set_option maxRecDepth 20000 in
theorem w_537 : (Jvm.Cond.selects "AmendedDrawing$Drawing" ({ cls := "AmendedDrawing$Drawing", name := "clear", desc := "()V" } : Jvm.MethodName) ({ cls := "AmendedDrawing$Drawing", name := "clear", desc := "()V" } : Jvm.MethodName)) ∈ TT := tt_mem 537 rfl rfl
set_option maxRecDepth 20000 in
theorem w_538 : (Jvm.Cond.code ({ cls := "AmendedDrawing$Drawing", name := "clear", desc := "()V" } : Jvm.MethodName) prog_3_method_2_code (1 : Nat) (Option.none : Option Jvm.ClassFile.FieldType)) ∈ TT := tt_mem 538 rfl rfl
set_option maxRecDepth 20000 in
theorem w_539 : (Jvm.Cond.methodLink "AmendedDrawing$Outcome" (40 : Nat) ({ cls := "AmendedDrawing$Drawing", name := "carryOut", desc := "(LAmendedDrawing$Action;I)Z" } : Jvm.MethodName)) ∈ TT := tt_mem 539 rfl rfl
set_option maxRecDepth 20000 in
theorem w_540 : (Jvm.Cond.methodLink "AmendedDrawing" (92 : Nat) ({ cls := "AmendedDrawing", name := "changedBeside", desc := "(I)I" } : Jvm.MethodName)) ∈ TT := tt_mem 540 rfl rfl
set_option maxRecDepth 20000 in
theorem w_542 : (Jvm.Cond.instanceMethod ({ cls := "AmendedDrawing", name := "changedBeside", desc := "(I)I" } : Jvm.MethodName)) ∈ TT := tt_mem 542 rfl rfl
set_option maxRecDepth 20000 in
theorem w_543 : (Jvm.Cond.code ({ cls := "AmendedDrawing", name := "changedBeside", desc := "(I)I" } : Jvm.MethodName) prog_1_method_20_code (4 : Nat) (Option.some Jvm.ClassFile.FieldType.int)) ∈ TT := tt_mem 543 rfl rfl
set_option maxRecDepth 20000 in
theorem w_548 : (Jvm.Cond.instanceMethod ({ cls := "AmendedDrawing", name := "reinstate", desc := "(I)I" } : Jvm.MethodName)) ∈ TT := tt_mem 548 rfl rfl
set_option maxRecDepth 20000 in
theorem w_549 : (Jvm.Cond.selects "AmendedDrawing" ({ cls := "AmendedDrawing", name := "reinstate", desc := "(I)I" } : Jvm.MethodName) ({ cls := "AmendedDrawing", name := "reinstate", desc := "(I)I" } : Jvm.MethodName)) ∈ TT := tt_mem 549 rfl rfl
set_option maxRecDepth 20000 in
theorem w_550 : (Jvm.Cond.code ({ cls := "AmendedDrawing", name := "reinstate", desc := "(I)I" } : Jvm.MethodName) prog_1_method_4_code (2 : Nat) (Option.some Jvm.ClassFile.FieldType.int)) ∈ TT := tt_mem 550 rfl rfl
set_option maxRecDepth 20000 in
theorem w_555 : (Jvm.Cond.instanceMethod ({ cls := "AmendedDrawing", name := "amend", desc := "(III)I" } : Jvm.MethodName)) ∈ TT := tt_mem 555 rfl rfl
set_option maxRecDepth 20000 in
theorem w_556 : (Jvm.Cond.selects "AmendedDrawing" ({ cls := "AmendedDrawing", name := "amend", desc := "(III)I" } : Jvm.MethodName) ({ cls := "AmendedDrawing", name := "amend", desc := "(III)I" } : Jvm.MethodName)) ∈ TT := tt_mem 556 rfl rfl
set_option maxRecDepth 20000 in
theorem w_557 : (Jvm.Cond.code ({ cls := "AmendedDrawing", name := "amend", desc := "(III)I" } : Jvm.MethodName) prog_1_method_5_code (5 : Nat) (Option.some Jvm.ClassFile.FieldType.int)) ∈ TT := tt_mem 557 rfl rfl
set_option maxRecDepth 20000 in
theorem w_558 : (Jvm.Cond.methodLink "AmendedDrawing" (96 : Nat) ({ cls := "AmendedDrawing$Action", name := "takes", desc := "(II)Z" } : Jvm.MethodName)) ∈ TT := tt_mem 558 rfl rfl
set_option maxRecDepth 20000 in
theorem w_564 : (Jvm.Cond.instanceMethod ({ cls := "AmendedDrawing", name := "undo", desc := "()I" } : Jvm.MethodName)) ∈ TT := tt_mem 564 rfl rfl
set_option maxRecDepth 20000 in
theorem w_565 : (Jvm.Cond.selects "AmendedDrawing" ({ cls := "AmendedDrawing", name := "undo", desc := "()I" } : Jvm.MethodName) ({ cls := "AmendedDrawing", name := "undo", desc := "()I" } : Jvm.MethodName)) ∈ TT := tt_mem 565 rfl rfl
set_option maxRecDepth 20000 in
theorem w_566 : (Jvm.Cond.code ({ cls := "AmendedDrawing", name := "undo", desc := "()I" } : Jvm.MethodName) prog_1_method_6_code (2 : Nat) (Option.some Jvm.ClassFile.FieldType.int)) ∈ TT := tt_mem 566 rfl rfl
set_option maxRecDepth 20000 in
theorem w_567 : (Jvm.Cond.classLink "AmendedDrawing" (106 : Nat) "java/util/NoSuchElementException") ∈ TT := tt_mem 567 rfl rfl
set_option maxRecDepth 20000 in
theorem w_582 : (Jvm.Cond.methodLink "AmendedDrawing" (109 : Nat) ({ cls := "AmendedDrawing$History", name := "stepBack", desc := "()LAmendedDrawing$Edit;" } : Jvm.MethodName)) ∈ TT := tt_mem 582 rfl rfl
set_option maxRecDepth 20000 in
theorem w_583 : (Jvm.Cond.instanceMethod ({ cls := "AmendedDrawing$History", name := "stepBack", desc := "()LAmendedDrawing$Edit;" } : Jvm.MethodName)) ∈ TT := tt_mem 583 rfl rfl
set_option maxRecDepth 20000 in
theorem w_584 : (Jvm.Cond.selects "AmendedDrawing$History" ({ cls := "AmendedDrawing$History", name := "stepBack", desc := "()LAmendedDrawing$Edit;" } : Jvm.MethodName) ({ cls := "AmendedDrawing$History", name := "stepBack", desc := "()LAmendedDrawing$Edit;" } : Jvm.MethodName)) ∈ TT := tt_mem 584 rfl rfl
set_option maxRecDepth 20000 in
theorem w_585 : (Jvm.Cond.code ({ cls := "AmendedDrawing$History", name := "stepBack", desc := "()LAmendedDrawing$Edit;" } : Jvm.MethodName) prog_5_method_3_code (1 : Nat) (Option.some (Jvm.ClassFile.FieldType.object "AmendedDrawing$Edit"))) ∈ TT := tt_mem 585 rfl rfl
set_option maxRecDepth 20000 in
theorem w_586 : (Jvm.Cond.methodLink "AmendedDrawing" (112 : Nat) ({ cls := "AmendedDrawing", name := "setEdit", desc := "(LAmendedDrawing$Edit;Z)V" } : Jvm.MethodName)) ∈ TT := tt_mem 586 rfl rfl
set_option maxRecDepth 20000 in
theorem w_588 : (Jvm.Cond.instanceMethod ({ cls := "AmendedDrawing", name := "setEdit", desc := "(LAmendedDrawing$Edit;Z)V" } : Jvm.MethodName)) ∈ TT := tt_mem 588 rfl rfl
set_option maxRecDepth 20000 in
theorem w_589 : (Jvm.Cond.code ({ cls := "AmendedDrawing", name := "setEdit", desc := "(LAmendedDrawing$Edit;Z)V" } : Jvm.MethodName) prog_1_method_19_code (4 : Nat) (Option.none : Option Jvm.ClassFile.FieldType)) ∈ TT := tt_mem 589 rfl rfl
set_option maxRecDepth 20000 in
theorem w_594 : (Jvm.Cond.instanceMethod ({ cls := "AmendedDrawing", name := "redo", desc := "()I" } : Jvm.MethodName)) ∈ TT := tt_mem 594 rfl rfl
set_option maxRecDepth 20000 in
theorem w_595 : (Jvm.Cond.selects "AmendedDrawing" ({ cls := "AmendedDrawing", name := "redo", desc := "()I" } : Jvm.MethodName) ({ cls := "AmendedDrawing", name := "redo", desc := "()I" } : Jvm.MethodName)) ∈ TT := tt_mem 595 rfl rfl
set_option maxRecDepth 20000 in
theorem w_596 : (Jvm.Cond.code ({ cls := "AmendedDrawing", name := "redo", desc := "()I" } : Jvm.MethodName) prog_1_method_7_code (2 : Nat) (Option.some Jvm.ClassFile.FieldType.int)) ∈ TT := tt_mem 596 rfl rfl
set_option maxRecDepth 20000 in
theorem w_597 : (Jvm.Cond.methodLink "AmendedDrawing" (122 : Nat) ({ cls := "AmendedDrawing$History", name := "stepForward", desc := "()LAmendedDrawing$Edit;" } : Jvm.MethodName)) ∈ TT := tt_mem 597 rfl rfl
set_option maxRecDepth 20000 in
theorem w_598 : (Jvm.Cond.instanceMethod ({ cls := "AmendedDrawing$History", name := "stepForward", desc := "()LAmendedDrawing$Edit;" } : Jvm.MethodName)) ∈ TT := tt_mem 598 rfl rfl
set_option maxRecDepth 20000 in
theorem w_599 : (Jvm.Cond.selects "AmendedDrawing$History" ({ cls := "AmendedDrawing$History", name := "stepForward", desc := "()LAmendedDrawing$Edit;" } : Jvm.MethodName) ({ cls := "AmendedDrawing$History", name := "stepForward", desc := "()LAmendedDrawing$Edit;" } : Jvm.MethodName)) ∈ TT := tt_mem 599 rfl rfl
set_option maxRecDepth 20000 in
theorem w_600 : (Jvm.Cond.code ({ cls := "AmendedDrawing$History", name := "stepForward", desc := "()LAmendedDrawing$Edit;" } : Jvm.MethodName) prog_5_method_4_code (1 : Nat) (Option.some (Jvm.ClassFile.FieldType.object "AmendedDrawing$Edit"))) ∈ TT := tt_mem 600 rfl rfl
set_option maxRecDepth 20000 in
theorem w_605 : (Jvm.Cond.instanceMethod ({ cls := "AmendedDrawing", name := "argument", desc := "(II)I" } : Jvm.MethodName)) ∈ TT := tt_mem 605 rfl rfl
set_option maxRecDepth 20000 in
theorem w_606 : (Jvm.Cond.selects "AmendedDrawing" ({ cls := "AmendedDrawing", name := "argument", desc := "(II)I" } : Jvm.MethodName) ({ cls := "AmendedDrawing", name := "argument", desc := "(II)I" } : Jvm.MethodName)) ∈ TT := tt_mem 606 rfl rfl
set_option maxRecDepth 20000 in
theorem w_607 : (Jvm.Cond.code ({ cls := "AmendedDrawing", name := "argument", desc := "(II)I" } : Jvm.MethodName) prog_1_method_9_code (3 : Nat) (Option.some Jvm.ClassFile.FieldType.int)) ∈ TT := tt_mem 607 rfl rfl
set_option maxRecDepth 20000 in
theorem w_612 : (Jvm.Cond.instanceMethod ({ cls := "AmendedDrawing", name := "effect", desc := "(I)I" } : Jvm.MethodName)) ∈ TT := tt_mem 612 rfl rfl
set_option maxRecDepth 20000 in
theorem w_613 : (Jvm.Cond.selects "AmendedDrawing" ({ cls := "AmendedDrawing", name := "effect", desc := "(I)I" } : Jvm.MethodName) ({ cls := "AmendedDrawing", name := "effect", desc := "(I)I" } : Jvm.MethodName)) ∈ TT := tt_mem 613 rfl rfl
set_option maxRecDepth 20000 in
theorem w_614 : (Jvm.Cond.code ({ cls := "AmendedDrawing", name := "effect", desc := "(I)I" } : Jvm.MethodName) prog_1_method_10_code (2 : Nat) (Option.some Jvm.ClassFile.FieldType.int)) ∈ TT := tt_mem 614 rfl rfl
set_option maxRecDepth 20000 in
theorem w_619 : (Jvm.Cond.instanceMethod ({ cls := "AmendedDrawing", name := "needed", desc := "(II)I" } : Jvm.MethodName)) ∈ TT := tt_mem 619 rfl rfl
set_option maxRecDepth 20000 in
theorem w_620 : (Jvm.Cond.selects "AmendedDrawing" ({ cls := "AmendedDrawing", name := "needed", desc := "(II)I" } : Jvm.MethodName) ({ cls := "AmendedDrawing", name := "needed", desc := "(II)I" } : Jvm.MethodName)) ∈ TT := tt_mem 620 rfl rfl
set_option maxRecDepth 20000 in
theorem w_621 : (Jvm.Cond.code ({ cls := "AmendedDrawing", name := "needed", desc := "(II)I" } : Jvm.MethodName) prog_1_method_11_code (5 : Nat) (Option.some Jvm.ClassFile.FieldType.int)) ∈ TT := tt_mem 621 rfl rfl
set_option maxRecDepth 20000 in
theorem w_626 : (Jvm.Cond.instanceMethod ({ cls := "AmendedDrawing", name := "needs", desc := "(II)I" } : Jvm.MethodName)) ∈ TT := tt_mem 626 rfl rfl
set_option maxRecDepth 20000 in
theorem w_627 : (Jvm.Cond.selects "AmendedDrawing" ({ cls := "AmendedDrawing", name := "needs", desc := "(II)I" } : Jvm.MethodName) ({ cls := "AmendedDrawing", name := "needs", desc := "(II)I" } : Jvm.MethodName)) ∈ TT := tt_mem 627 rfl rfl
set_option maxRecDepth 20000 in
theorem w_628 : (Jvm.Cond.code ({ cls := "AmendedDrawing", name := "needs", desc := "(II)I" } : Jvm.MethodName) prog_1_method_12_code (5 : Nat) (Option.some Jvm.ClassFile.FieldType.int)) ∈ TT := tt_mem 628 rfl rfl
set_option maxRecDepth 20000 in
theorem w_633 : (Jvm.Cond.instanceMethod ({ cls := "AmendedDrawing", name := "object", desc := "(II)I" } : Jvm.MethodName)) ∈ TT := tt_mem 633 rfl rfl
set_option maxRecDepth 20000 in
theorem w_634 : (Jvm.Cond.selects "AmendedDrawing" ({ cls := "AmendedDrawing", name := "object", desc := "(II)I" } : Jvm.MethodName) ({ cls := "AmendedDrawing", name := "object", desc := "(II)I" } : Jvm.MethodName)) ∈ TT := tt_mem 634 rfl rfl
set_option maxRecDepth 20000 in
theorem w_635 : (Jvm.Cond.code ({ cls := "AmendedDrawing", name := "object", desc := "(II)I" } : Jvm.MethodName) prog_1_method_14_code (3 : Nat) (Option.some Jvm.ClassFile.FieldType.int)) ∈ TT := tt_mem 635 rfl rfl
set_option maxRecDepth 20000 in
theorem w_636 : (Jvm.Cond.methodLink "AmendedDrawing" (135 : Nat) ({ cls := "AmendedDrawing$Drawing", name := "tell", desc := "(II)I" } : Jvm.MethodName)) ∈ TT := tt_mem 636 rfl rfl
set_option maxRecDepth 20000 in
theorem w_637 : (Jvm.Cond.instanceMethod ({ cls := "AmendedDrawing$Drawing", name := "tell", desc := "(II)I" } : Jvm.MethodName)) ∈ TT := tt_mem 637 rfl rfl
set_option maxRecDepth 20000 in
theorem w_638 : (Jvm.Cond.selects "AmendedDrawing$Drawing" ({ cls := "AmendedDrawing$Drawing", name := "tell", desc := "(II)I" } : Jvm.MethodName) ({ cls := "AmendedDrawing$Drawing", name := "tell", desc := "(II)I" } : Jvm.MethodName)) ∈ TT := tt_mem 638 rfl rfl
set_option maxRecDepth 20000 in
theorem w_639 : (Jvm.Cond.code ({ cls := "AmendedDrawing$Drawing", name := "tell", desc := "(II)I" } : Jvm.MethodName) prog_3_method_4_code (4 : Nat) (Option.some Jvm.ClassFile.FieldType.int)) ∈ TT := tt_mem 639 rfl rfl
set_option maxRecDepth 20000 in
theorem w_644 : (Jvm.Cond.instanceMethod ({ cls := "AmendedDrawing", name := "shown", desc := "(IIII)I" } : Jvm.MethodName)) ∈ TT := tt_mem 644 rfl rfl
set_option maxRecDepth 20000 in
theorem w_645 : (Jvm.Cond.selects "AmendedDrawing" ({ cls := "AmendedDrawing", name := "shown", desc := "(IIII)I" } : Jvm.MethodName) ({ cls := "AmendedDrawing", name := "shown", desc := "(IIII)I" } : Jvm.MethodName)) ∈ TT := tt_mem 645 rfl rfl
set_option maxRecDepth 20000 in
theorem w_646 : (Jvm.Cond.code ({ cls := "AmendedDrawing", name := "shown", desc := "(IIII)I" } : Jvm.MethodName) prog_1_method_16_code (8 : Nat) (Option.some Jvm.ClassFile.FieldType.int)) ∈ TT := tt_mem 646 rfl rfl
set_option maxRecDepth 20000 in
theorem w_647 : (Jvm.Cond.methodLink "AmendedDrawing" (142 : Nat) ({ cls := "AmendedDrawing$Drawing", name := "colourAt", desc := "(II)I" } : Jvm.MethodName)) ∈ TT := tt_mem 647 rfl rfl
set_option maxRecDepth 20000 in
theorem w_648 : (Jvm.Cond.instanceMethod ({ cls := "AmendedDrawing$Drawing", name := "colourAt", desc := "(II)I" } : Jvm.MethodName)) ∈ TT := tt_mem 648 rfl rfl
set_option maxRecDepth 20000 in
theorem w_649 : (Jvm.Cond.selects "AmendedDrawing$Drawing" ({ cls := "AmendedDrawing$Drawing", name := "colourAt", desc := "(II)I" } : Jvm.MethodName) ({ cls := "AmendedDrawing$Drawing", name := "colourAt", desc := "(II)I" } : Jvm.MethodName)) ∈ TT := tt_mem 649 rfl rfl
set_option maxRecDepth 20000 in
theorem w_650 : (Jvm.Cond.code ({ cls := "AmendedDrawing$Drawing", name := "colourAt", desc := "(II)I" } : Jvm.MethodName) prog_3_method_6_code (4 : Nat) (Option.some Jvm.ClassFile.FieldType.int)) ∈ TT := tt_mem 650 rfl rfl
set_option maxRecDepth 20000 in
theorem w_651 : (Jvm.Cond.methodLink "AmendedDrawing$Drawing" (96 : Nat) ({ cls := "AmendedDrawing$Drawing", name := "topShapeAt", desc := "(II)I" } : Jvm.MethodName)) ∈ TT := tt_mem 651 rfl rfl
set_option maxRecDepth 20000 in
theorem w_658 : (Jvm.Cond.fieldLink "AmendedDrawingModel" (42 : Nat) "AmendedDrawingModel" "thrown" "I") ∈ TT := tt_mem 658 rfl rfl
set_option maxRecDepth 20000 in
theorem w_659 : (Jvm.Cond.fieldLink "AmendedDrawingModel" (38 : Nat) "AmendedDrawingModel" "count" "I") ∈ TT := tt_mem 659 rfl rfl
set_option maxRecDepth 20000 in
theorem w_660 : (Jvm.Cond.fieldLink "AmendedDrawingModel" (7 : Nat) "AmendedDrawingModel" "kinds" "[I") ∈ TT := tt_mem 660 rfl rfl
set_option maxRecDepth 20000 in
theorem w_661 : (Jvm.Cond.fieldLink "AmendedDrawingModel" (13 : Nat) "AmendedDrawingModel" "args" "[I") ∈ TT := tt_mem 661 rfl rfl
set_option maxRecDepth 20000 in
theorem w_662 : (Jvm.Cond.fieldLink "AmendedDrawingModel" (16 : Nat) "AmendedDrawingModel" "withdrawn" "[Z") ∈ TT := tt_mem 662 rfl rfl
set_option maxRecDepth 20000 in
theorem w_663 : (Jvm.Cond.fieldLink "AmendedDrawingModel" (20 : Nat) "AmendedDrawingModel" "effects" "[I") ∈ TT := tt_mem 663 rfl rfl
set_option maxRecDepth 20000 in
theorem w_664 : (Jvm.Cond.fieldLink "AmendedDrawingModel" (23 : Nat) "AmendedDrawingModel" "base" "[I") ∈ TT := tt_mem 664 rfl rfl
set_option maxRecDepth 20000 in
theorem w_665 : (Jvm.Cond.fieldLink "AmendedDrawingModel" (45 : Nat) "AmendedDrawingModel" "n" "I") ∈ TT := tt_mem 665 rfl rfl
set_option maxRecDepth 20000 in
theorem w_666 : (Jvm.Cond.fieldLink "AmendedDrawingModel" (26 : Nat) "AmendedDrawingModel" "row" "[I") ∈ TT := tt_mem 666 rfl rfl
set_option maxRecDepth 20000 in
theorem w_667 : (Jvm.Cond.fieldLink "AmendedDrawingModel" (144 : Nat) "AmendedDrawingModel" "keptMany" "I") ∈ TT := tt_mem 667 rfl rfl
set_option maxRecDepth 20000 in
theorem w_668 : (Jvm.Cond.fieldLink "AmendedDrawingModel" (29 : Nat) "AmendedDrawingModel" "kept" "[I") ∈ TT := tt_mem 668 rfl rfl
set_option maxRecDepth 20000 in
theorem w_669 : (Jvm.Cond.fieldLink "AmendedDrawingModel" (32 : Nat) "AmendedDrawingModel" "moved" "[I") ∈ TT := tt_mem 669 rfl rfl
set_option maxRecDepth 20000 in
theorem w_670 : (Jvm.Cond.fieldLink "AmendedDrawingModel" (71 : Nat) "AmendedDrawingModel" "boxLeft" "I") ∈ TT := tt_mem 670 rfl rfl
set_option maxRecDepth 20000 in
theorem w_671 : (Jvm.Cond.fieldLink "AmendedDrawingModel" (74 : Nat) "AmendedDrawingModel" "boxTop" "I") ∈ TT := tt_mem 671 rfl rfl
set_option maxRecDepth 20000 in
theorem w_672 : (Jvm.Cond.fieldLink "AmendedDrawingModel" (78 : Nat) "AmendedDrawingModel" "boxRight" "I") ∈ TT := tt_mem 672 rfl rfl
set_option maxRecDepth 20000 in
theorem w_673 : (Jvm.Cond.fieldLink "AmendedDrawingModel" (81 : Nat) "AmendedDrawingModel" "boxLow" "I") ∈ TT := tt_mem 673 rfl rfl
set_option maxRecDepth 20000 in
theorem w_674 : (Jvm.Cond.fieldLink "AmendedDrawingModel" (35 : Nat) "AmendedDrawingModel" "edits" "[I") ∈ TT := tt_mem 674 rfl rfl
set_option maxRecDepth 20000 in
theorem w_675 : (Jvm.Cond.fieldLink "AmendedDrawingModel" (161 : Nat) "AmendedDrawingModel" "known" "I") ∈ TT := tt_mem 675 rfl rfl
set_option maxRecDepth 20000 in
theorem w_676 : (Jvm.Cond.fieldLink "AmendedDrawingModel" (158 : Nat) "AmendedDrawingModel" "done" "I") ∈ TT := tt_mem 676 rfl rfl
set_option maxRecDepth 20000 in
theorem w_718 : (Jvm.Cond.instanceMethod ({ cls := "AmendedDrawingModel", name := "thrown", desc := "()I" } : Jvm.MethodName)) ∈ TT := tt_mem 718 rfl rfl
set_option maxRecDepth 20000 in
theorem w_719 : (Jvm.Cond.selects "AmendedDrawingModel" ({ cls := "AmendedDrawingModel", name := "thrown", desc := "()I" } : Jvm.MethodName) ({ cls := "AmendedDrawingModel", name := "thrown", desc := "()I" } : Jvm.MethodName)) ∈ TT := tt_mem 719 rfl rfl
set_option maxRecDepth 20000 in
theorem w_720 : (Jvm.Cond.code ({ cls := "AmendedDrawingModel", name := "thrown", desc := "()I" } : Jvm.MethodName) prog_9_method_2_code (1 : Nat) (Option.some Jvm.ClassFile.FieldType.int)) ∈ TT := tt_mem 720 rfl rfl
set_option maxRecDepth 20000 in
theorem w_722 : (Jvm.Cond.instanceMethod ({ cls := "AmendedDrawingModel", name := "commit", desc := "(IIIII)I" } : Jvm.MethodName)) ∈ TT := tt_mem 722 rfl rfl
set_option maxRecDepth 20000 in
theorem w_723 : (Jvm.Cond.selects "AmendedDrawingModel" ({ cls := "AmendedDrawingModel", name := "commit", desc := "(IIIII)I" } : Jvm.MethodName) ({ cls := "AmendedDrawingModel", name := "commit", desc := "(IIIII)I" } : Jvm.MethodName)) ∈ TT := tt_mem 723 rfl rfl
set_option maxRecDepth 20000 in
theorem w_724 : (Jvm.Cond.code ({ cls := "AmendedDrawingModel", name := "commit", desc := "(IIIII)I" } : Jvm.MethodName) prog_9_method_36_code (12 : Nat) (Option.some Jvm.ClassFile.FieldType.int)) ∈ TT := tt_mem 724 rfl rfl
set_option maxRecDepth 20000 in
theorem w_725 : (Jvm.Cond.methodLink "AmendedDrawingModel" (164 : Nat) ({ cls := "AmendedDrawingModel", name := "argumentsOf", desc := "(I)I" } : Jvm.MethodName)) ∈ TT := tt_mem 725 rfl rfl
set_option maxRecDepth 20000 in
theorem w_726 : (Jvm.Cond.static ({ cls := "AmendedDrawingModel", name := "argumentsOf", desc := "(I)I" } : Jvm.MethodName)) ∈ TT := tt_mem 726 rfl rfl
set_option maxRecDepth 20000 in
theorem w_727 : (Jvm.Cond.code ({ cls := "AmendedDrawingModel", name := "argumentsOf", desc := "(I)I" } : Jvm.MethodName) prog_9_method_32_code (1 : Nat) (Option.some Jvm.ClassFile.FieldType.int)) ∈ TT := tt_mem 727 rfl rfl
set_option maxRecDepth 20000 in
theorem w_728 : (Jvm.Cond.methodLink "AmendedDrawingModel" (167 : Nat) ({ cls := "AmendedDrawingModel", name := "isArgument", desc := "(III)Z" } : Jvm.MethodName)) ∈ TT := tt_mem 728 rfl rfl
set_option maxRecDepth 20000 in
theorem w_729 : (Jvm.Cond.static ({ cls := "AmendedDrawingModel", name := "isArgument", desc := "(III)Z" } : Jvm.MethodName)) ∈ TT := tt_mem 729 rfl rfl
set_option maxRecDepth 20000 in
theorem w_730 : (Jvm.Cond.code ({ cls := "AmendedDrawingModel", name := "isArgument", desc := "(III)Z" } : Jvm.MethodName) prog_9_method_34_code (3 : Nat) (Option.some Jvm.ClassFile.FieldType.boolean)) ∈ TT := tt_mem 730 rfl rfl
set_option maxRecDepth 20000 in
theorem w_731 : (Jvm.Cond.methodLink "AmendedDrawingModel" (154 : Nat) ({ cls := "AmendedDrawingModel", name := "isBetween", desc := "(III)Z" } : Jvm.MethodName)) ∈ TT := tt_mem 731 rfl rfl
set_option maxRecDepth 20000 in
theorem w_732 : (Jvm.Cond.static ({ cls := "AmendedDrawingModel", name := "isBetween", desc := "(III)Z" } : Jvm.MethodName)) ∈ TT := tt_mem 732 rfl rfl
set_option maxRecDepth 20000 in
theorem w_733 : (Jvm.Cond.code ({ cls := "AmendedDrawingModel", name := "isBetween", desc := "(III)Z" } : Jvm.MethodName) prog_9_method_33_code (3 : Nat) (Option.some Jvm.ClassFile.FieldType.boolean)) ∈ TT := tt_mem 733 rfl rfl
set_option maxRecDepth 20000 in
theorem w_734 : (Jvm.Cond.methodLink "AmendedDrawingModel" (88 : Nat) ({ cls := "AmendedDrawingModel", name := "arg", desc := "(II)I" } : Jvm.MethodName)) ∈ TT := tt_mem 734 rfl rfl
set_option maxRecDepth 20000 in
theorem w_736 : (Jvm.Cond.instanceMethod ({ cls := "AmendedDrawingModel", name := "arg", desc := "(II)I" } : Jvm.MethodName)) ∈ TT := tt_mem 736 rfl rfl
set_option maxRecDepth 20000 in
theorem w_737 : (Jvm.Cond.code ({ cls := "AmendedDrawingModel", name := "arg", desc := "(II)I" } : Jvm.MethodName) prog_9_method_16_code (3 : Nat) (Option.some Jvm.ClassFile.FieldType.int)) ∈ TT := tt_mem 737 rfl rfl
set_option maxRecDepth 20000 in
theorem w_738 : (Jvm.Cond.methodLink "AmendedDrawingModel" (170 : Nat) ({ cls := "AmendedDrawingModel", name := "lay4", desc := "(IIIII)V" } : Jvm.MethodName)) ∈ TT := tt_mem 738 rfl rfl
set_option maxRecDepth 20000 in
theorem w_740 : (Jvm.Cond.instanceMethod ({ cls := "AmendedDrawingModel", name := "lay4", desc := "(IIIII)V" } : Jvm.MethodName)) ∈ TT := tt_mem 740 rfl rfl
set_option maxRecDepth 20000 in
theorem w_741 : (Jvm.Cond.code ({ cls := "AmendedDrawingModel", name := "lay4", desc := "(IIIII)V" } : Jvm.MethodName) prog_9_method_37_code (6 : Nat) (Option.none : Option Jvm.ClassFile.FieldType)) ∈ TT := tt_mem 741 rfl rfl
set_option maxRecDepth 20000 in
theorem w_742 : (Jvm.Cond.methodLink "AmendedDrawingModel" (174 : Nat) ({ cls := "AmendedDrawingModel", name := "goThrough", desc := "(I)V" } : Jvm.MethodName)) ∈ TT := tt_mem 742 rfl rfl
set_option maxRecDepth 20000 in
theorem w_744 : (Jvm.Cond.instanceMethod ({ cls := "AmendedDrawingModel", name := "goThrough", desc := "(I)V" } : Jvm.MethodName)) ∈ TT := tt_mem 744 rfl rfl
set_option maxRecDepth 20000 in
theorem w_745 : (Jvm.Cond.code ({ cls := "AmendedDrawingModel", name := "goThrough", desc := "(I)V" } : Jvm.MethodName) prog_9_method_29_code (5 : Nat) (Option.none : Option Jvm.ClassFile.FieldType)) ∈ TT := tt_mem 745 rfl rfl
set_option maxRecDepth 20000 in
theorem w_746 : (Jvm.Cond.methodLink "AmendedDrawingModel" (141 : Nat) ({ cls := "AmendedDrawingModel", name := "fits", desc := "(I)Z" } : Jvm.MethodName)) ∈ TT := tt_mem 746 rfl rfl
set_option maxRecDepth 20000 in
theorem w_748 : (Jvm.Cond.instanceMethod ({ cls := "AmendedDrawingModel", name := "fits", desc := "(I)Z" } : Jvm.MethodName)) ∈ TT := tt_mem 748 rfl rfl
set_option maxRecDepth 20000 in
theorem w_749 : (Jvm.Cond.code ({ cls := "AmendedDrawingModel", name := "fits", desc := "(I)Z" } : Jvm.MethodName) prog_9_method_27_code (5 : Nat) (Option.some Jvm.ClassFile.FieldType.boolean)) ∈ TT := tt_mem 749 rfl rfl
set_option maxRecDepth 20000 in
theorem w_750 : (Jvm.Cond.methodLink "AmendedDrawingModel" (52 : Nat) ({ cls := "AmendedDrawingModel", name := "find", desc := "(I)I" } : Jvm.MethodName)) ∈ TT := tt_mem 750 rfl rfl
set_option maxRecDepth 20000 in
theorem w_752 : (Jvm.Cond.instanceMethod ({ cls := "AmendedDrawingModel", name := "find", desc := "(I)I" } : Jvm.MethodName)) ∈ TT := tt_mem 752 rfl rfl
set_option maxRecDepth 20000 in
theorem w_753 : (Jvm.Cond.code ({ cls := "AmendedDrawingModel", name := "find", desc := "(I)I" } : Jvm.MethodName) prog_9_method_5_code (4 : Nat) (Option.some Jvm.ClassFile.FieldType.int)) ∈ TT := tt_mem 753 rfl rfl
set_option maxRecDepth 20000 in
theorem w_754 : (Jvm.Cond.methodLink "AmendedDrawingModel" (48 : Nat) ({ cls := "AmendedDrawingModel", name := "of", desc := "(II)I" } : Jvm.MethodName)) ∈ TT := tt_mem 754 rfl rfl
set_option maxRecDepth 20000 in
theorem w_756 : (Jvm.Cond.instanceMethod ({ cls := "AmendedDrawingModel", name := "of", desc := "(II)I" } : Jvm.MethodName)) ∈ TT := tt_mem 756 rfl rfl
set_option maxRecDepth 20000 in
theorem w_757 : (Jvm.Cond.code ({ cls := "AmendedDrawingModel", name := "of", desc := "(II)I" } : Jvm.MethodName) prog_9_method_3_code (3 : Nat) (Option.some Jvm.ClassFile.FieldType.int)) ∈ TT := tt_mem 757 rfl rfl
set_option maxRecDepth 20000 in
theorem w_758 : (Jvm.Cond.methodLink "AmendedDrawingModel" (111 : Nat) ({ cls := "AmendedDrawingModel", name := "isAlone", desc := "(I)Z" } : Jvm.MethodName)) ∈ TT := tt_mem 758 rfl rfl
set_option maxRecDepth 20000 in
theorem w_760 : (Jvm.Cond.instanceMethod ({ cls := "AmendedDrawingModel", name := "isAlone", desc := "(I)Z" } : Jvm.MethodName)) ∈ TT := tt_mem 760 rfl rfl
set_option maxRecDepth 20000 in
theorem w_761 : (Jvm.Cond.code ({ cls := "AmendedDrawingModel", name := "isAlone", desc := "(I)Z" } : Jvm.MethodName) prog_9_method_26_code (2 : Nat) (Option.some Jvm.ClassFile.FieldType.boolean)) ∈ TT := tt_mem 761 rfl rfl
set_option maxRecDepth 20000 in
theorem w_762 : (Jvm.Cond.methodLink "AmendedDrawingModel" (56 : Nat) ({ cls := "AmendedDrawingModel", name := "isIn", desc := "(II)Z" } : Jvm.MethodName)) ∈ TT := tt_mem 762 rfl rfl
set_option maxRecDepth 20000 in
theorem w_764 : (Jvm.Cond.instanceMethod ({ cls := "AmendedDrawingModel", name := "isIn", desc := "(II)Z" } : Jvm.MethodName)) ∈ TT := tt_mem 764 rfl rfl
set_option maxRecDepth 20000 in
theorem w_765 : (Jvm.Cond.code ({ cls := "AmendedDrawingModel", name := "isIn", desc := "(II)Z" } : Jvm.MethodName) prog_9_method_6_code (4 : Nat) (Option.some Jvm.ClassFile.FieldType.boolean)) ∈ TT := tt_mem 765 rfl rfl
set_option maxRecDepth 20000 in
theorem w_766 : (Jvm.Cond.methodLink "AmendedDrawingModel" (147 : Nat) ({ cls := "AmendedDrawingModel", name := "act", desc := "(I)V" } : Jvm.MethodName)) ∈ TT := tt_mem 766 rfl rfl
set_option maxRecDepth 20000 in
theorem w_768 : (Jvm.Cond.instanceMethod ({ cls := "AmendedDrawingModel", name := "act", desc := "(I)V" } : Jvm.MethodName)) ∈ TT := tt_mem 768 rfl rfl
set_option maxRecDepth 20000 in
theorem w_769 : (Jvm.Cond.code ({ cls := "AmendedDrawingModel", name := "act", desc := "(I)V" } : Jvm.MethodName) prog_9_method_28_code (6 : Nat) (Option.none : Option Jvm.ClassFile.FieldType)) ∈ TT := tt_mem 769 rfl rfl
set_option maxRecDepth 20000 in
theorem w_770 : (Jvm.Cond.methodLink "AmendedDrawingModel" (115 : Nat) ({ cls := "AmendedDrawingModel", name := "make", desc := "(I)V" } : Jvm.MethodName)) ∈ TT := tt_mem 770 rfl rfl
set_option maxRecDepth 20000 in
theorem w_772 : (Jvm.Cond.instanceMethod ({ cls := "AmendedDrawingModel", name := "make", desc := "(I)V" } : Jvm.MethodName)) ∈ TT := tt_mem 772 rfl rfl
set_option maxRecDepth 20000 in
theorem w_773 : (Jvm.Cond.code ({ cls := "AmendedDrawingModel", name := "make", desc := "(I)V" } : Jvm.MethodName) prog_9_method_17_code (3 : Nat) (Option.none : Option Jvm.ClassFile.FieldType)) ∈ TT := tt_mem 773 rfl rfl
set_option maxRecDepth 20000 in
theorem w_774 : (Jvm.Cond.methodLink "AmendedDrawingModel" (84 : Nat) ({ cls := "AmendedDrawingModel", name := "put", desc := "(III)V" } : Jvm.MethodName)) ∈ TT := tt_mem 774 rfl rfl
set_option maxRecDepth 20000 in
theorem w_776 : (Jvm.Cond.instanceMethod ({ cls := "AmendedDrawingModel", name := "put", desc := "(III)V" } : Jvm.MethodName)) ∈ TT := tt_mem 776 rfl rfl
set_option maxRecDepth 20000 in
theorem w_777 : (Jvm.Cond.code ({ cls := "AmendedDrawingModel", name := "put", desc := "(III)V" } : Jvm.MethodName) prog_9_method_4_code (4 : Nat) (Option.none : Option Jvm.ClassFile.FieldType)) ∈ TT := tt_mem 777 rfl rfl
set_option maxRecDepth 20000 in
theorem w_778 : (Jvm.Cond.methodLink "AmendedDrawingModel" (119 : Nat) ({ cls := "AmendedDrawingModel", name := "delete", desc := "(I)V" } : Jvm.MethodName)) ∈ TT := tt_mem 778 rfl rfl
set_option maxRecDepth 20000 in
theorem w_780 : (Jvm.Cond.instanceMethod ({ cls := "AmendedDrawingModel", name := "delete", desc := "(I)V" } : Jvm.MethodName)) ∈ TT := tt_mem 780 rfl rfl
set_option maxRecDepth 20000 in
theorem w_781 : (Jvm.Cond.code ({ cls := "AmendedDrawingModel", name := "delete", desc := "(I)V" } : Jvm.MethodName) prog_9_method_18_code (5 : Nat) (Option.none : Option Jvm.ClassFile.FieldType)) ∈ TT := tt_mem 781 rfl rfl
set_option maxRecDepth 20000 in
theorem w_782 : (Jvm.Cond.methodLink "AmendedDrawingModel" (91 : Nat) ({ cls := "AmendedDrawingModel", name := "behind", desc := "(I)I" } : Jvm.MethodName)) ∈ TT := tt_mem 782 rfl rfl
set_option maxRecDepth 20000 in
theorem w_784 : (Jvm.Cond.instanceMethod ({ cls := "AmendedDrawingModel", name := "behind", desc := "(I)I" } : Jvm.MethodName)) ∈ TT := tt_mem 784 rfl rfl
set_option maxRecDepth 20000 in
theorem w_785 : (Jvm.Cond.code ({ cls := "AmendedDrawingModel", name := "behind", desc := "(I)I" } : Jvm.MethodName) prog_9_method_7_code (3 : Nat) (Option.some Jvm.ClassFile.FieldType.int)) ∈ TT := tt_mem 785 rfl rfl
set_option maxRecDepth 20000 in
theorem w_786 : (Jvm.Cond.methodLink "AmendedDrawingModel" (64 : Nat) ({ cls := "AmendedDrawingModel", name := "takeOut", desc := "(II)V" } : Jvm.MethodName)) ∈ TT := tt_mem 786 rfl rfl
set_option maxRecDepth 20000 in
theorem w_788 : (Jvm.Cond.instanceMethod ({ cls := "AmendedDrawingModel", name := "takeOut", desc := "(II)V" } : Jvm.MethodName)) ∈ TT := tt_mem 788 rfl rfl
set_option maxRecDepth 20000 in
theorem w_789 : (Jvm.Cond.code ({ cls := "AmendedDrawingModel", name := "takeOut", desc := "(II)V" } : Jvm.MethodName) prog_9_method_9_code (4 : Nat) (Option.none : Option Jvm.ClassFile.FieldType)) ∈ TT := tt_mem 789 rfl rfl
set_option maxRecDepth 20000 in
theorem w_790 : (Jvm.Cond.methodLink "AmendedDrawingModel" (60 : Nat) ({ cls := "AmendedDrawingModel", name := "copyCells", desc := "(II)V" } : Jvm.MethodName)) ∈ TT := tt_mem 790 rfl rfl
set_option maxRecDepth 20000 in
theorem w_792 : (Jvm.Cond.instanceMethod ({ cls := "AmendedDrawingModel", name := "copyCells", desc := "(II)V" } : Jvm.MethodName)) ∈ TT := tt_mem 792 rfl rfl
set_option maxRecDepth 20000 in
theorem w_793 : (Jvm.Cond.code ({ cls := "AmendedDrawingModel", name := "copyCells", desc := "(II)V" } : Jvm.MethodName) prog_9_method_8_code (4 : Nat) (Option.none : Option Jvm.ClassFile.FieldType)) ∈ TT := tt_mem 793 rfl rfl
set_option maxRecDepth 20000 in
theorem w_794 : (Jvm.Cond.methodLink "AmendedDrawingModel" (107 : Nat) ({ cls := "AmendedDrawingModel", name := "shift", desc := "(IIII)V" } : Jvm.MethodName)) ∈ TT := tt_mem 794 rfl rfl
set_option maxRecDepth 20000 in
theorem w_796 : (Jvm.Cond.instanceMethod ({ cls := "AmendedDrawingModel", name := "shift", desc := "(IIII)V" } : Jvm.MethodName)) ∈ TT := tt_mem 796 rfl rfl
set_option maxRecDepth 20000 in
theorem w_797 : (Jvm.Cond.code ({ cls := "AmendedDrawingModel", name := "shift", desc := "(IIII)V" } : Jvm.MethodName) prog_9_method_14_code (6 : Nat) (Option.none : Option Jvm.ClassFile.FieldType)) ∈ TT := tt_mem 797 rfl rfl
set_option maxRecDepth 20000 in
theorem w_798 : (Jvm.Cond.methodLink "AmendedDrawingModel" (122 : Nat) ({ cls := "AmendedDrawingModel", name := "scale", desc := "(IIII)V" } : Jvm.MethodName)) ∈ TT := tt_mem 798 rfl rfl
set_option maxRecDepth 20000 in
theorem w_800 : (Jvm.Cond.instanceMethod ({ cls := "AmendedDrawingModel", name := "scale", desc := "(IIII)V" } : Jvm.MethodName)) ∈ TT := tt_mem 800 rfl rfl
set_option maxRecDepth 20000 in
theorem w_801 : (Jvm.Cond.code ({ cls := "AmendedDrawingModel", name := "scale", desc := "(IIII)V" } : Jvm.MethodName) prog_9_method_20_code (8 : Nat) (Option.none : Option Jvm.ClassFile.FieldType)) ∈ TT := tt_mem 801 rfl rfl
set_option maxRecDepth 20000 in
theorem w_802 : (Jvm.Cond.methodLink "AmendedDrawingModel" (94 : Nat) ({ cls := "AmendedDrawingModel", name := "findBox", desc := "(II)V" } : Jvm.MethodName)) ∈ TT := tt_mem 802 rfl rfl
set_option maxRecDepth 20000 in
theorem w_804 : (Jvm.Cond.instanceMethod ({ cls := "AmendedDrawingModel", name := "findBox", desc := "(II)V" } : Jvm.MethodName)) ∈ TT := tt_mem 804 rfl rfl
set_option maxRecDepth 20000 in
theorem w_805 : (Jvm.Cond.code ({ cls := "AmendedDrawingModel", name := "findBox", desc := "(II)V" } : Jvm.MethodName) prog_9_method_13_code (6 : Nat) (Option.none : Option Jvm.ClassFile.FieldType)) ∈ TT := tt_mem 805 rfl rfl
set_option maxRecDepth 20000 in
theorem w_806 : (Jvm.Cond.constant "AmendedDrawingModel" (70 : Nat) (100000 : Int32)) ∈ TT := tt_mem 806 rfl rfl
set_option maxRecDepth 20000 in
theorem w_807 : (Jvm.Cond.constant "AmendedDrawingModel" (77 : Nat) (-100000 : Int32)) ∈ TT := tt_mem 807 rfl rfl
set_option maxRecDepth 20000 in
theorem w_808 : (Jvm.Cond.methodLink "AmendedDrawingModel" (97 : Nat) ({ cls := "AmendedDrawingModel", name := "scaled", desc := "(III)I" } : Jvm.MethodName)) ∈ TT := tt_mem 808 rfl rfl
set_option maxRecDepth 20000 in
theorem w_809 : (Jvm.Cond.static ({ cls := "AmendedDrawingModel", name := "scaled", desc := "(III)I" } : Jvm.MethodName)) ∈ TT := tt_mem 809 rfl rfl
set_option maxRecDepth 20000 in
theorem w_810 : (Jvm.Cond.code ({ cls := "AmendedDrawingModel", name := "scaled", desc := "(III)I" } : Jvm.MethodName) prog_9_method_19_code (3 : Nat) (Option.some Jvm.ClassFile.FieldType.int)) ∈ TT := tt_mem 810 rfl rfl
set_option maxRecDepth 20000 in
theorem w_811 : (Jvm.Cond.methodLink "AmendedDrawingModel" (125 : Nat) ({ cls := "AmendedDrawingModel", name := "raise", desc := "(IZ)V" } : Jvm.MethodName)) ∈ TT := tt_mem 811 rfl rfl
set_option maxRecDepth 20000 in
theorem w_813 : (Jvm.Cond.instanceMethod ({ cls := "AmendedDrawingModel", name := "raise", desc := "(IZ)V" } : Jvm.MethodName)) ∈ TT := tt_mem 813 rfl rfl
set_option maxRecDepth 20000 in
theorem w_814 : (Jvm.Cond.code ({ cls := "AmendedDrawingModel", name := "raise", desc := "(IZ)V" } : Jvm.MethodName) prog_9_method_21_code (6 : Nat) (Option.none : Option Jvm.ClassFile.FieldType)) ∈ TT := tt_mem 814 rfl rfl
set_option maxRecDepth 20000 in
theorem w_815 : (Jvm.Cond.methodLink "AmendedDrawingModel" (101 : Nat) ({ cls := "AmendedDrawingModel", name := "lift", desc := "(II)V" } : Jvm.MethodName)) ∈ TT := tt_mem 815 rfl rfl
set_option maxRecDepth 20000 in
theorem w_817 : (Jvm.Cond.instanceMethod ({ cls := "AmendedDrawingModel", name := "lift", desc := "(II)V" } : Jvm.MethodName)) ∈ TT := tt_mem 817 rfl rfl
set_option maxRecDepth 20000 in
theorem w_818 : (Jvm.Cond.code ({ cls := "AmendedDrawingModel", name := "lift", desc := "(II)V" } : Jvm.MethodName) prog_9_method_11_code (4 : Nat) (Option.none : Option Jvm.ClassFile.FieldType)) ∈ TT := tt_mem 818 rfl rfl
set_option maxRecDepth 20000 in
theorem w_819 : (Jvm.Cond.methodLink "AmendedDrawingModel" (104 : Nat) ({ cls := "AmendedDrawingModel", name := "lay", desc := "(II)V" } : Jvm.MethodName)) ∈ TT := tt_mem 819 rfl rfl
set_option maxRecDepth 20000 in
theorem w_821 : (Jvm.Cond.instanceMethod ({ cls := "AmendedDrawingModel", name := "lay", desc := "(II)V" } : Jvm.MethodName)) ∈ TT := tt_mem 821 rfl rfl
set_option maxRecDepth 20000 in
theorem w_822 : (Jvm.Cond.code ({ cls := "AmendedDrawingModel", name := "lay", desc := "(II)V" } : Jvm.MethodName) prog_9_method_12_code (4 : Nat) (Option.none : Option Jvm.ClassFile.FieldType)) ∈ TT := tt_mem 822 rfl rfl
set_option maxRecDepth 20000 in
theorem w_823 : (Jvm.Cond.methodLink "AmendedDrawingModel" (67 : Nat) ({ cls := "AmendedDrawingModel", name := "makeRoom", desc := "(II)V" } : Jvm.MethodName)) ∈ TT := tt_mem 823 rfl rfl
set_option maxRecDepth 20000 in
theorem w_825 : (Jvm.Cond.instanceMethod ({ cls := "AmendedDrawingModel", name := "makeRoom", desc := "(II)V" } : Jvm.MethodName)) ∈ TT := tt_mem 825 rfl rfl
set_option maxRecDepth 20000 in
theorem w_826 : (Jvm.Cond.code ({ cls := "AmendedDrawingModel", name := "makeRoom", desc := "(II)V" } : Jvm.MethodName) prog_9_method_10_code (4 : Nat) (Option.none : Option Jvm.ClassFile.FieldType)) ∈ TT := tt_mem 826 rfl rfl
set_option maxRecDepth 20000 in
theorem w_827 : (Jvm.Cond.methodLink "AmendedDrawingModel" (129 : Nat) ({ cls := "AmendedDrawingModel", name := "group", desc := "(III)V" } : Jvm.MethodName)) ∈ TT := tt_mem 827 rfl rfl
set_option maxRecDepth 20000 in
theorem w_829 : (Jvm.Cond.instanceMethod ({ cls := "AmendedDrawingModel", name := "group", desc := "(III)V" } : Jvm.MethodName)) ∈ TT := tt_mem 829 rfl rfl
set_option maxRecDepth 20000 in
theorem w_830 : (Jvm.Cond.code ({ cls := "AmendedDrawingModel", name := "group", desc := "(III)V" } : Jvm.MethodName) prog_9_method_22_code (9 : Nat) (Option.none : Option Jvm.ClassFile.FieldType)) ∈ TT := tt_mem 830 rfl rfl
set_option maxRecDepth 20000 in
theorem w_831 : (Jvm.Cond.methodLink "AmendedDrawingModel" (132 : Nat) ({ cls := "AmendedDrawingModel", name := "ungroup", desc := "(I)V" } : Jvm.MethodName)) ∈ TT := tt_mem 831 rfl rfl
set_option maxRecDepth 20000 in
theorem w_833 : (Jvm.Cond.instanceMethod ({ cls := "AmendedDrawingModel", name := "ungroup", desc := "(I)V" } : Jvm.MethodName)) ∈ TT := tt_mem 833 rfl rfl
set_option maxRecDepth 20000 in
theorem w_834 : (Jvm.Cond.code ({ cls := "AmendedDrawingModel", name := "ungroup", desc := "(I)V" } : Jvm.MethodName) prog_9_method_23_code (5 : Nat) (Option.none : Option Jvm.ClassFile.FieldType)) ∈ TT := tt_mem 834 rfl rfl
set_option maxRecDepth 20000 in
theorem w_835 : (Jvm.Cond.methodLink "AmendedDrawingModel" (135 : Nat) ({ cls := "AmendedDrawingModel", name := "twice", desc := "(IIII)V" } : Jvm.MethodName)) ∈ TT := tt_mem 835 rfl rfl
set_option maxRecDepth 20000 in
theorem w_837 : (Jvm.Cond.instanceMethod ({ cls := "AmendedDrawingModel", name := "twice", desc := "(IIII)V" } : Jvm.MethodName)) ∈ TT := tt_mem 837 rfl rfl
set_option maxRecDepth 20000 in
theorem w_838 : (Jvm.Cond.code ({ cls := "AmendedDrawingModel", name := "twice", desc := "(IIII)V" } : Jvm.MethodName) prog_9_method_24_code (5 : Nat) (Option.none : Option Jvm.ClassFile.FieldType)) ∈ TT := tt_mem 838 rfl rfl
set_option maxRecDepth 20000 in
theorem w_839 : (Jvm.Cond.methodLink "AmendedDrawingModel" (138 : Nat) ({ cls := "AmendedDrawingModel", name := "align", desc := "(III)V" } : Jvm.MethodName)) ∈ TT := tt_mem 839 rfl rfl
set_option maxRecDepth 20000 in
theorem w_841 : (Jvm.Cond.instanceMethod ({ cls := "AmendedDrawingModel", name := "align", desc := "(III)V" } : Jvm.MethodName)) ∈ TT := tt_mem 841 rfl rfl
set_option maxRecDepth 20000 in
theorem w_842 : (Jvm.Cond.code ({ cls := "AmendedDrawingModel", name := "align", desc := "(III)V" } : Jvm.MethodName) prog_9_method_25_code (10 : Nat) (Option.none : Option Jvm.ClassFile.FieldType)) ∈ TT := tt_mem 842 rfl rfl
set_option maxRecDepth 20000 in
theorem w_843 : (Jvm.Cond.methodLink "AmendedDrawingModel" (150 : Nat) ({ cls := "AmendedDrawingModel", name := "holdLimits", desc := "()Z" } : Jvm.MethodName)) ∈ TT := tt_mem 843 rfl rfl
set_option maxRecDepth 20000 in
theorem w_845 : (Jvm.Cond.instanceMethod ({ cls := "AmendedDrawingModel", name := "holdLimits", desc := "()Z" } : Jvm.MethodName)) ∈ TT := tt_mem 845 rfl rfl
set_option maxRecDepth 20000 in
theorem w_846 : (Jvm.Cond.code ({ cls := "AmendedDrawingModel", name := "holdLimits", desc := "()Z" } : Jvm.MethodName) prog_9_method_15_code (3 : Nat) (Option.some Jvm.ClassFile.FieldType.boolean)) ∈ TT := tt_mem 846 rfl rfl
set_option maxRecDepth 20000 in
theorem w_847 : (Jvm.Cond.methodLink "AmendedDrawingModel" (177 : Nat) ({ cls := "AmendedDrawingModel", name := "note", desc := "(IIIII)V" } : Jvm.MethodName)) ∈ TT := tt_mem 847 rfl rfl
set_option maxRecDepth 20000 in
theorem w_849 : (Jvm.Cond.instanceMethod ({ cls := "AmendedDrawingModel", name := "note", desc := "(IIIII)V" } : Jvm.MethodName)) ∈ TT := tt_mem 849 rfl rfl
set_option maxRecDepth 20000 in
theorem w_850 : (Jvm.Cond.code ({ cls := "AmendedDrawingModel", name := "note", desc := "(IIIII)V" } : Jvm.MethodName) prog_9_method_35_code (7 : Nat) (Option.none : Option Jvm.ClassFile.FieldType)) ∈ TT := tt_mem 850 rfl rfl
set_option maxRecDepth 20000 in
theorem w_852 : (Jvm.Cond.instanceMethod ({ cls := "AmendedDrawingModel", name := "withdraw", desc := "(I)I" } : Jvm.MethodName)) ∈ TT := tt_mem 852 rfl rfl
set_option maxRecDepth 20000 in
theorem w_853 : (Jvm.Cond.selects "AmendedDrawingModel" ({ cls := "AmendedDrawingModel", name := "withdraw", desc := "(I)I" } : Jvm.MethodName) ({ cls := "AmendedDrawingModel", name := "withdraw", desc := "(I)I" } : Jvm.MethodName)) ∈ TT := tt_mem 853 rfl rfl
set_option maxRecDepth 20000 in
theorem w_854 : (Jvm.Cond.code ({ cls := "AmendedDrawingModel", name := "withdraw", desc := "(I)I" } : Jvm.MethodName) prog_9_method_40_code (2 : Nat) (Option.some Jvm.ClassFile.FieldType.int)) ∈ TT := tt_mem 854 rfl rfl
set_option maxRecDepth 20000 in
theorem w_855 : (Jvm.Cond.methodLink "AmendedDrawingModel" (189 : Nat) ({ cls := "AmendedDrawingModel", name := "turn", desc := "(IZ)I" } : Jvm.MethodName)) ∈ TT := tt_mem 855 rfl rfl
set_option maxRecDepth 20000 in
theorem w_857 : (Jvm.Cond.instanceMethod ({ cls := "AmendedDrawingModel", name := "turn", desc := "(IZ)I" } : Jvm.MethodName)) ∈ TT := tt_mem 857 rfl rfl
set_option maxRecDepth 20000 in
theorem w_858 : (Jvm.Cond.code ({ cls := "AmendedDrawingModel", name := "turn", desc := "(IZ)I" } : Jvm.MethodName) prog_9_method_39_code (3 : Nat) (Option.some Jvm.ClassFile.FieldType.int)) ∈ TT := tt_mem 858 rfl rfl
set_option maxRecDepth 20000 in
theorem w_859 : (Jvm.Cond.methodLink "AmendedDrawingModel" (180 : Nat) ({ cls := "AmendedDrawingModel", name := "isAction", desc := "(I)Z" } : Jvm.MethodName)) ∈ TT := tt_mem 859 rfl rfl
set_option maxRecDepth 20000 in
theorem w_861 : (Jvm.Cond.instanceMethod ({ cls := "AmendedDrawingModel", name := "isAction", desc := "(I)Z" } : Jvm.MethodName)) ∈ TT := tt_mem 861 rfl rfl
set_option maxRecDepth 20000 in
theorem w_862 : (Jvm.Cond.code ({ cls := "AmendedDrawingModel", name := "isAction", desc := "(I)Z" } : Jvm.MethodName) prog_9_method_38_code (2 : Nat) (Option.some Jvm.ClassFile.FieldType.boolean)) ∈ TT := tt_mem 862 rfl rfl
set_option maxRecDepth 20000 in
theorem w_863 : (Jvm.Cond.methodLink "AmendedDrawingModel" (183 : Nat) ({ cls := "AmendedDrawingModel", name := "remember", desc := "()V" } : Jvm.MethodName)) ∈ TT := tt_mem 863 rfl rfl
set_option maxRecDepth 20000 in
theorem w_865 : (Jvm.Cond.instanceMethod ({ cls := "AmendedDrawingModel", name := "remember", desc := "()V" } : Jvm.MethodName)) ∈ TT := tt_mem 865 rfl rfl
set_option maxRecDepth 20000 in
theorem w_866 : (Jvm.Cond.code ({ cls := "AmendedDrawingModel", name := "remember", desc := "()V" } : Jvm.MethodName) prog_9_method_30_code (2 : Nat) (Option.none : Option Jvm.ClassFile.FieldType)) ∈ TT := tt_mem 866 rfl rfl
set_option maxRecDepth 20000 in
theorem w_867 : (Jvm.Cond.methodLink "AmendedDrawingModel" (186 : Nat) ({ cls := "AmendedDrawingModel", name := "others", desc := "(I)I" } : Jvm.MethodName)) ∈ TT := tt_mem 867 rfl rfl
set_option maxRecDepth 20000 in
theorem w_869 : (Jvm.Cond.instanceMethod ({ cls := "AmendedDrawingModel", name := "others", desc := "(I)I" } : Jvm.MethodName)) ∈ TT := tt_mem 869 rfl rfl
set_option maxRecDepth 20000 in
theorem w_870 : (Jvm.Cond.code ({ cls := "AmendedDrawingModel", name := "others", desc := "(I)I" } : Jvm.MethodName) prog_9_method_31_code (4 : Nat) (Option.some Jvm.ClassFile.FieldType.int)) ∈ TT := tt_mem 870 rfl rfl
set_option maxRecDepth 20000 in
theorem w_872 : (Jvm.Cond.instanceMethod ({ cls := "AmendedDrawingModel", name := "reinstate", desc := "(I)I" } : Jvm.MethodName)) ∈ TT := tt_mem 872 rfl rfl
set_option maxRecDepth 20000 in
theorem w_873 : (Jvm.Cond.selects "AmendedDrawingModel" ({ cls := "AmendedDrawingModel", name := "reinstate", desc := "(I)I" } : Jvm.MethodName) ({ cls := "AmendedDrawingModel", name := "reinstate", desc := "(I)I" } : Jvm.MethodName)) ∈ TT := tt_mem 873 rfl rfl
set_option maxRecDepth 20000 in
theorem w_874 : (Jvm.Cond.code ({ cls := "AmendedDrawingModel", name := "reinstate", desc := "(I)I" } : Jvm.MethodName) prog_9_method_41_code (2 : Nat) (Option.some Jvm.ClassFile.FieldType.int)) ∈ TT := tt_mem 874 rfl rfl
set_option maxRecDepth 20000 in
theorem w_876 : (Jvm.Cond.instanceMethod ({ cls := "AmendedDrawingModel", name := "amend", desc := "(III)I" } : Jvm.MethodName)) ∈ TT := tt_mem 876 rfl rfl
set_option maxRecDepth 20000 in
theorem w_877 : (Jvm.Cond.selects "AmendedDrawingModel" ({ cls := "AmendedDrawingModel", name := "amend", desc := "(III)I" } : Jvm.MethodName) ({ cls := "AmendedDrawingModel", name := "amend", desc := "(III)I" } : Jvm.MethodName)) ∈ TT := tt_mem 877 rfl rfl
set_option maxRecDepth 20000 in
theorem w_878 : (Jvm.Cond.code ({ cls := "AmendedDrawingModel", name := "amend", desc := "(III)I" } : Jvm.MethodName) prog_9_method_42_code (6 : Nat) (Option.some Jvm.ClassFile.FieldType.int)) ∈ TT := tt_mem 878 rfl rfl
set_option maxRecDepth 20000 in
theorem w_880 : (Jvm.Cond.instanceMethod ({ cls := "AmendedDrawingModel", name := "undo", desc := "()I" } : Jvm.MethodName)) ∈ TT := tt_mem 880 rfl rfl
set_option maxRecDepth 20000 in
theorem w_881 : (Jvm.Cond.selects "AmendedDrawingModel" ({ cls := "AmendedDrawingModel", name := "undo", desc := "()I" } : Jvm.MethodName) ({ cls := "AmendedDrawingModel", name := "undo", desc := "()I" } : Jvm.MethodName)) ∈ TT := tt_mem 881 rfl rfl
set_option maxRecDepth 20000 in
theorem w_882 : (Jvm.Cond.code ({ cls := "AmendedDrawingModel", name := "undo", desc := "()I" } : Jvm.MethodName) prog_9_method_44_code (1 : Nat) (Option.some Jvm.ClassFile.FieldType.int)) ∈ TT := tt_mem 882 rfl rfl
set_option maxRecDepth 20000 in
theorem w_883 : (Jvm.Cond.methodLink "AmendedDrawingModel" (193 : Nat) ({ cls := "AmendedDrawingModel", name := "carry", desc := "(IZ)I" } : Jvm.MethodName)) ∈ TT := tt_mem 883 rfl rfl
set_option maxRecDepth 20000 in
theorem w_885 : (Jvm.Cond.instanceMethod ({ cls := "AmendedDrawingModel", name := "carry", desc := "(IZ)I" } : Jvm.MethodName)) ∈ TT := tt_mem 885 rfl rfl
set_option maxRecDepth 20000 in
theorem w_886 : (Jvm.Cond.code ({ cls := "AmendedDrawingModel", name := "carry", desc := "(IZ)I" } : Jvm.MethodName) prog_9_method_43_code (5 : Nat) (Option.some Jvm.ClassFile.FieldType.int)) ∈ TT := tt_mem 886 rfl rfl
set_option maxRecDepth 20000 in
theorem w_888 : (Jvm.Cond.instanceMethod ({ cls := "AmendedDrawingModel", name := "redo", desc := "()I" } : Jvm.MethodName)) ∈ TT := tt_mem 888 rfl rfl
set_option maxRecDepth 20000 in
theorem w_889 : (Jvm.Cond.selects "AmendedDrawingModel" ({ cls := "AmendedDrawingModel", name := "redo", desc := "()I" } : Jvm.MethodName) ({ cls := "AmendedDrawingModel", name := "redo", desc := "()I" } : Jvm.MethodName)) ∈ TT := tt_mem 889 rfl rfl
set_option maxRecDepth 20000 in
theorem w_890 : (Jvm.Cond.code ({ cls := "AmendedDrawingModel", name := "redo", desc := "()I" } : Jvm.MethodName) prog_9_method_45_code (1 : Nat) (Option.some Jvm.ClassFile.FieldType.int)) ∈ TT := tt_mem 890 rfl rfl
set_option maxRecDepth 20000 in
theorem w_892 : (Jvm.Cond.instanceMethod ({ cls := "AmendedDrawingModel", name := "actions", desc := "()I" } : Jvm.MethodName)) ∈ TT := tt_mem 892 rfl rfl
set_option maxRecDepth 20000 in
theorem w_893 : (Jvm.Cond.selects "AmendedDrawingModel" ({ cls := "AmendedDrawingModel", name := "actions", desc := "()I" } : Jvm.MethodName) ({ cls := "AmendedDrawingModel", name := "actions", desc := "()I" } : Jvm.MethodName)) ∈ TT := tt_mem 893 rfl rfl
set_option maxRecDepth 20000 in
theorem w_894 : (Jvm.Cond.code ({ cls := "AmendedDrawingModel", name := "actions", desc := "()I" } : Jvm.MethodName) prog_9_method_46_code (1 : Nat) (Option.some Jvm.ClassFile.FieldType.int)) ∈ TT := tt_mem 894 rfl rfl
set_option maxRecDepth 20000 in
theorem w_896 : (Jvm.Cond.instanceMethod ({ cls := "AmendedDrawingModel", name := "argument", desc := "(II)I" } : Jvm.MethodName)) ∈ TT := tt_mem 896 rfl rfl
set_option maxRecDepth 20000 in
theorem w_897 : (Jvm.Cond.selects "AmendedDrawingModel" ({ cls := "AmendedDrawingModel", name := "argument", desc := "(II)I" } : Jvm.MethodName) ({ cls := "AmendedDrawingModel", name := "argument", desc := "(II)I" } : Jvm.MethodName)) ∈ TT := tt_mem 897 rfl rfl
set_option maxRecDepth 20000 in
theorem w_898 : (Jvm.Cond.code ({ cls := "AmendedDrawingModel", name := "argument", desc := "(II)I" } : Jvm.MethodName) prog_9_method_47_code (3 : Nat) (Option.some Jvm.ClassFile.FieldType.int)) ∈ TT := tt_mem 898 rfl rfl
set_option maxRecDepth 20000 in
theorem w_900 : (Jvm.Cond.instanceMethod ({ cls := "AmendedDrawingModel", name := "effect", desc := "(I)I" } : Jvm.MethodName)) ∈ TT := tt_mem 900 rfl rfl
set_option maxRecDepth 20000 in
theorem w_901 : (Jvm.Cond.selects "AmendedDrawingModel" ({ cls := "AmendedDrawingModel", name := "effect", desc := "(I)I" } : Jvm.MethodName) ({ cls := "AmendedDrawingModel", name := "effect", desc := "(I)I" } : Jvm.MethodName)) ∈ TT := tt_mem 901 rfl rfl
set_option maxRecDepth 20000 in
theorem w_902 : (Jvm.Cond.code ({ cls := "AmendedDrawingModel", name := "effect", desc := "(I)I" } : Jvm.MethodName) prog_9_method_48_code (2 : Nat) (Option.some Jvm.ClassFile.FieldType.int)) ∈ TT := tt_mem 902 rfl rfl
set_option maxRecDepth 20000 in
theorem w_904 : (Jvm.Cond.instanceMethod ({ cls := "AmendedDrawingModel", name := "needed", desc := "(II)I" } : Jvm.MethodName)) ∈ TT := tt_mem 904 rfl rfl
set_option maxRecDepth 20000 in
theorem w_905 : (Jvm.Cond.selects "AmendedDrawingModel" ({ cls := "AmendedDrawingModel", name := "needed", desc := "(II)I" } : Jvm.MethodName) ({ cls := "AmendedDrawingModel", name := "needed", desc := "(II)I" } : Jvm.MethodName)) ∈ TT := tt_mem 905 rfl rfl
set_option maxRecDepth 20000 in
theorem w_906 : (Jvm.Cond.code ({ cls := "AmendedDrawingModel", name := "needed", desc := "(II)I" } : Jvm.MethodName) prog_9_method_49_code (6 : Nat) (Option.some Jvm.ClassFile.FieldType.int)) ∈ TT := tt_mem 906 rfl rfl
set_option maxRecDepth 20000 in
theorem w_908 : (Jvm.Cond.instanceMethod ({ cls := "AmendedDrawingModel", name := "needs", desc := "(II)I" } : Jvm.MethodName)) ∈ TT := tt_mem 908 rfl rfl
set_option maxRecDepth 20000 in
theorem w_909 : (Jvm.Cond.selects "AmendedDrawingModel" ({ cls := "AmendedDrawingModel", name := "needs", desc := "(II)I" } : Jvm.MethodName) ({ cls := "AmendedDrawingModel", name := "needs", desc := "(II)I" } : Jvm.MethodName)) ∈ TT := tt_mem 909 rfl rfl
set_option maxRecDepth 20000 in
theorem w_910 : (Jvm.Cond.code ({ cls := "AmendedDrawingModel", name := "needs", desc := "(II)I" } : Jvm.MethodName) prog_9_method_50_code (7 : Nat) (Option.some Jvm.ClassFile.FieldType.int)) ∈ TT := tt_mem 910 rfl rfl
set_option maxRecDepth 20000 in
theorem w_912 : (Jvm.Cond.instanceMethod ({ cls := "AmendedDrawingModel", name := "objects", desc := "()I" } : Jvm.MethodName)) ∈ TT := tt_mem 912 rfl rfl
set_option maxRecDepth 20000 in
theorem w_913 : (Jvm.Cond.selects "AmendedDrawingModel" ({ cls := "AmendedDrawingModel", name := "objects", desc := "()I" } : Jvm.MethodName) ({ cls := "AmendedDrawingModel", name := "objects", desc := "()I" } : Jvm.MethodName)) ∈ TT := tt_mem 913 rfl rfl
set_option maxRecDepth 20000 in
theorem w_914 : (Jvm.Cond.code ({ cls := "AmendedDrawingModel", name := "objects", desc := "()I" } : Jvm.MethodName) prog_9_method_51_code (1 : Nat) (Option.some Jvm.ClassFile.FieldType.int)) ∈ TT := tt_mem 914 rfl rfl
set_option maxRecDepth 20000 in
theorem w_916 : (Jvm.Cond.instanceMethod ({ cls := "AmendedDrawingModel", name := "object", desc := "(II)I" } : Jvm.MethodName)) ∈ TT := tt_mem 916 rfl rfl
set_option maxRecDepth 20000 in
theorem w_917 : (Jvm.Cond.selects "AmendedDrawingModel" ({ cls := "AmendedDrawingModel", name := "object", desc := "(II)I" } : Jvm.MethodName) ({ cls := "AmendedDrawingModel", name := "object", desc := "(II)I" } : Jvm.MethodName)) ∈ TT := tt_mem 917 rfl rfl
set_option maxRecDepth 20000 in
theorem w_918 : (Jvm.Cond.code ({ cls := "AmendedDrawingModel", name := "object", desc := "(II)I" } : Jvm.MethodName) prog_9_method_52_code (3 : Nat) (Option.some Jvm.ClassFile.FieldType.int)) ∈ TT := tt_mem 918 rfl rfl
set_option maxRecDepth 20000 in
theorem w_920 : (Jvm.Cond.instanceMethod ({ cls := "AmendedDrawingModel", name := "hit", desc := "(II)I" } : Jvm.MethodName)) ∈ TT := tt_mem 920 rfl rfl
set_option maxRecDepth 20000 in
theorem w_921 : (Jvm.Cond.selects "AmendedDrawingModel" ({ cls := "AmendedDrawingModel", name := "hit", desc := "(II)I" } : Jvm.MethodName) ({ cls := "AmendedDrawingModel", name := "hit", desc := "(II)I" } : Jvm.MethodName)) ∈ TT := tt_mem 921 rfl rfl
set_option maxRecDepth 20000 in
theorem w_922 : (Jvm.Cond.code ({ cls := "AmendedDrawingModel", name := "hit", desc := "(II)I" } : Jvm.MethodName) prog_9_method_56_code (4 : Nat) (Option.some Jvm.ClassFile.FieldType.int)) ∈ TT := tt_mem 922 rfl rfl
set_option maxRecDepth 20000 in
theorem w_923 : (Jvm.Cond.methodLink "AmendedDrawingModel" (205 : Nat) ({ cls := "AmendedDrawingModel", name := "covering", desc := "(II)I" } : Jvm.MethodName)) ∈ TT := tt_mem 923 rfl rfl
set_option maxRecDepth 20000 in
theorem w_925 : (Jvm.Cond.instanceMethod ({ cls := "AmendedDrawingModel", name := "covering", desc := "(II)I" } : Jvm.MethodName)) ∈ TT := tt_mem 925 rfl rfl
set_option maxRecDepth 20000 in
theorem w_926 : (Jvm.Cond.code ({ cls := "AmendedDrawingModel", name := "covering", desc := "(II)I" } : Jvm.MethodName) prog_9_method_55_code (5 : Nat) (Option.some Jvm.ClassFile.FieldType.int)) ∈ TT := tt_mem 926 rfl rfl
set_option maxRecDepth 20000 in
theorem w_927 : (Jvm.Cond.methodLink "AmendedDrawingModel" (202 : Nat) ({ cls := "AmendedDrawingModel", name := "covers", desc := "(III)Z" } : Jvm.MethodName)) ∈ TT := tt_mem 927 rfl rfl
set_option maxRecDepth 20000 in
theorem w_929 : (Jvm.Cond.instanceMethod ({ cls := "AmendedDrawingModel", name := "covers", desc := "(III)Z" } : Jvm.MethodName)) ∈ TT := tt_mem 929 rfl rfl
set_option maxRecDepth 20000 in
theorem w_930 : (Jvm.Cond.code ({ cls := "AmendedDrawingModel", name := "covers", desc := "(III)Z" } : Jvm.MethodName) prog_9_method_54_code (12 : Nat) (Option.some Jvm.ClassFile.FieldType.boolean)) ∈ TT := tt_mem 930 rfl rfl
set_option maxRecDepth 20000 in
theorem w_931 : (Jvm.Cond.constantLong "AmendedDrawingModel" (196 : Nat) (2 : Int64)) ∈ TT := tt_mem 931 rfl rfl
set_option maxRecDepth 20000 in
theorem w_932 : (Jvm.Cond.methodLink "AmendedDrawingModel" (198 : Nat) ({ cls := "AmendedDrawingModel", name := "size", desc := "(J)J" } : Jvm.MethodName)) ∈ TT := tt_mem 932 rfl rfl
set_option maxRecDepth 20000 in
theorem w_933 : (Jvm.Cond.static ({ cls := "AmendedDrawingModel", name := "size", desc := "(J)J" } : Jvm.MethodName)) ∈ TT := tt_mem 933 rfl rfl
set_option maxRecDepth 20000 in
theorem w_934 : (Jvm.Cond.code ({ cls := "AmendedDrawingModel", name := "size", desc := "(J)J" } : Jvm.MethodName) prog_9_method_53_code (2 : Nat) (Option.some Jvm.ClassFile.FieldType.long)) ∈ TT := tt_mem 934 rfl rfl
set_option maxRecDepth 20000 in
theorem w_936 : (Jvm.Cond.instanceMethod ({ cls := "AmendedDrawingModel", name := "shown", desc := "(IIII)I" } : Jvm.MethodName)) ∈ TT := tt_mem 936 rfl rfl
set_option maxRecDepth 20000 in
theorem w_937 : (Jvm.Cond.selects "AmendedDrawingModel" ({ cls := "AmendedDrawingModel", name := "shown", desc := "(IIII)I" } : Jvm.MethodName) ({ cls := "AmendedDrawingModel", name := "shown", desc := "(IIII)I" } : Jvm.MethodName)) ∈ TT := tt_mem 937 rfl rfl
set_option maxRecDepth 20000 in
theorem w_938 : (Jvm.Cond.code ({ cls := "AmendedDrawingModel", name := "shown", desc := "(IIII)I" } : Jvm.MethodName) prog_9_method_57_code (8 : Nat) (Option.some Jvm.ClassFile.FieldType.int)) ∈ TT := tt_mem 938 rfl rfl
set_option maxRecDepth 20000 in
theorem w_940 : (Jvm.Cond.instanceMethod ({ cls := "AmendedDrawingModel", name := "inside", desc := "(IIIII)I" } : Jvm.MethodName)) ∈ TT := tt_mem 940 rfl rfl
set_option maxRecDepth 20000 in
theorem w_941 : (Jvm.Cond.selects "AmendedDrawingModel" ({ cls := "AmendedDrawingModel", name := "inside", desc := "(IIIII)I" } : Jvm.MethodName) ({ cls := "AmendedDrawingModel", name := "inside", desc := "(IIIII)I" } : Jvm.MethodName)) ∈ TT := tt_mem 941 rfl rfl
set_option maxRecDepth 20000 in
theorem w_942 : (Jvm.Cond.code ({ cls := "AmendedDrawingModel", name := "inside", desc := "(IIIII)I" } : Jvm.MethodName) prog_9_method_58_code (9 : Nat) (Option.some Jvm.ClassFile.FieldType.int)) ∈ TT := tt_mem 942 rfl rfl
set_option maxRecDepth 20000 in
theorem w_max1 : Cond.static Lib.Math.max.name ∈ TT := tt_mem 422 rfl rfl
set_option maxRecDepth 20000 in
theorem w_max3 : Cond.code Lib.Math.max.name Lib.Math.max.code 2 (some .int) ∈ TT := tt_mem 423 rfl rfl
set_option maxRecDepth 20000 in
theorem w_min1 : Cond.static Lib.Math.min.name ∈ TT := tt_mem 419 rfl rfl
set_option maxRecDepth 20000 in
theorem w_min3 : Cond.code Lib.Math.min.name Lib.Math.min.code 2 (some .int) ∈ TT := tt_mem 420 rfl rfl
set_option maxRecDepth 20000 in
theorem w_abs1 : Cond.static Lib.Math.abs.name ∈ TT := tt_mem 228 rfl rfl
set_option maxRecDepth 20000 in
theorem w_abs3 : Cond.code Lib.Math.abs.name Lib.Math.abs.code 1 (some .int) ∈ TT := tt_mem 229 rfl rfl
set_option maxRecDepth 20000 in
theorem w_math : Cond.initialized "java/lang/Math" ∈ TT := tt_mem 14 rfl rfl
set_option maxRecDepth 20000 in
theorem w_cp1 : Cond.native arraycopyName ∈ TT := tt_mem 365 rfl rfl
set_option maxRecDepth 20000 in
theorem w_cp2 : Cond.static arraycopyName ∈ TT := tt_mem 364 rfl rfl
set_option maxRecDepth 20000 in
theorem w_cp3 : Cond.initialized "java/lang/System" ∈ TT := tt_mem 13 rfl rfl
