-- BIRTH: those that make, by program (wip/whole/birth3.py)
def gh_0 : gh_M := fun _ _ _ => 0
def mi_X0_init : gh_MI := (RX0, yX0_init, cX0_init, 2, none)
def mi_X1_init : gh_MI := (RX1, yX1_init, cX1_init, 1, none)
def mi_X2_init : gh_MI := (RX2, yX2_init, cX2_init, 1, none)
def mi_X3_init : gh_MI := (RX3, yX3_init, cX3_init, 1, none)
def mi_X4_init : gh_MI := (RX4, yX4_init, cX4_init, 1, none)
def mi_X5_init : gh_MI := (RX5, yX5_init, cX5_init, 1, none)
def mi_X6_init : gh_MI := (RX6, yX6_init, cX6_init, 2, none)
def mi_X7_init : gh_MI := (RX7, yX7_init, cX7_init, 2, none)
theorem bw_1 : (Cond.initialized "GhostTrain") ∈ gh_G := List.mem_filter.mpr ⟨List.mem_append_right _ (List.mem_of_getElem? (i := 1) (by decide +kernel)), rfl⟩
theorem bw_2 : (Cond.initialized "GhostTrain$Tape") ∈ gh_G := List.mem_filter.mpr ⟨List.mem_append_right _ (List.mem_of_getElem? (i := 2) (by decide +kernel)), rfl⟩
theorem bw_3 : (Cond.initialized "GhostTrain$Train") ∈ gh_G := List.mem_filter.mpr ⟨List.mem_append_right _ (List.mem_of_getElem? (i := 3) (by decide +kernel)), rfl⟩
theorem bw_4 : (Cond.initialized "GhostTrain$Acts") ∈ gh_G := List.mem_filter.mpr ⟨List.mem_append_right _ (List.mem_of_getElem? (i := 4) (by decide +kernel)), rfl⟩
theorem bw_5 : (Cond.initialized "GhostTrain$Foresight") ∈ gh_G := List.mem_filter.mpr ⟨List.mem_append_right _ (List.mem_of_getElem? (i := 5) (by decide +kernel)), rfl⟩
theorem bw_6 : (Cond.initialized "GhostTrain$Asker") ∈ gh_G := List.mem_filter.mpr ⟨List.mem_append_right _ (List.mem_of_getElem? (i := 6) (by decide +kernel)), rfl⟩
theorem bw_7 : (Cond.initialized "GhostTrain$Row") ∈ gh_G := List.mem_filter.mpr ⟨List.mem_append_right _ (List.mem_of_getElem? (i := 7) (by decide +kernel)), rfl⟩
theorem bw_8 : (Cond.initialized "GhostTrainModel") ∈ gh_G := List.mem_filter.mpr ⟨List.mem_append_right _ (List.mem_of_getElem? (i := 8) (by decide +kernel)), rfl⟩
theorem bw_16 : (Cond.instanceMethod ({ cls := "GhostTrain", name := "<init>", desc := "()V" } : MethodName)) ∈ gh_G := List.mem_filter.mpr ⟨List.mem_append_right _ (List.mem_of_getElem? (i := 16) (by decide +kernel)), rfl⟩
theorem bw_17 : (Cond.code ({ cls := "GhostTrain", name := "<init>", desc := "()V" } : MethodName) prog_1_method_1_code (2 : Nat) (Option.none : Option FieldType)) ∈ gh_G := List.mem_filter.mpr ⟨List.mem_append_right _ (List.mem_of_getElem? (i := 17) (by decide +kernel)), rfl⟩
theorem bw_18 : (Cond.methodLink "GhostTrain" (1 : Nat) ({ cls := "java/lang/Object", name := "<init>", desc := "()V" } : MethodName)) ∈ gh_G := List.mem_filter.mpr ⟨List.mem_append_right _ (List.mem_of_getElem? (i := 18) (by decide +kernel)), rfl⟩
theorem bw_19 : (Cond.instanceMethod ({ cls := "java/lang/Object", name := "<init>", desc := "()V" } : MethodName)) ∈ gh_G := List.mem_filter.mpr ⟨List.mem_append_right _ (List.mem_of_getElem? (i := 19) (by decide +kernel)), rfl⟩
theorem bw_20 : (Cond.code ({ cls := "java/lang/Object", name := "<init>", desc := "()V" } : MethodName) object_method_1_code (1 : Nat) (Option.none : Option FieldType)) ∈ gh_G := List.mem_filter.mpr ⟨List.mem_append_right _ (List.mem_of_getElem? (i := 20) (by decide +kernel)), rfl⟩
theorem bw_21 : (Cond.classLink "GhostTrain" (9 : Nat) "GhostTrain$Row") ∈ gh_G := List.mem_filter.mpr ⟨List.mem_append_right _ (List.mem_of_getElem? (i := 21) (by decide +kernel)), rfl⟩
theorem bw_23 : (Cond.classLink "GhostTrain" (15 : Nat) "GhostTrain$Tape") ∈ gh_G := List.mem_filter.mpr ⟨List.mem_append_right _ (List.mem_of_getElem? (i := 23) (by decide +kernel)), rfl⟩
theorem bw_24 : (Cond.instantiable "GhostTrain$Tape" (4 : Nat)) ∈ gh_G := List.mem_filter.mpr ⟨List.mem_append_right _ (List.mem_of_getElem? (i := 24) (by decide +kernel)), rfl⟩
theorem bw_25 : (Cond.methodLinkNest "GhostTrain" (17 : Nat) ({ cls := "GhostTrain$Tape", name := "<init>", desc := "()V" } : MethodName) "GhostTrain") ∈ lw_tbl := List.mem_append_right _ (List.mem_of_getElem? (i := 25) (by decide +kernel))
theorem bw_26 : (Cond.instanceMethod ({ cls := "GhostTrain$Tape", name := "<init>", desc := "()V" } : MethodName)) ∈ gh_G := List.mem_filter.mpr ⟨List.mem_append_right _ (List.mem_of_getElem? (i := 26) (by decide +kernel)), rfl⟩
theorem bw_27 : (Cond.code ({ cls := "GhostTrain$Tape", name := "<init>", desc := "()V" } : MethodName) prog_6_method_1_code (1 : Nat) (Option.none : Option FieldType)) ∈ gh_G := List.mem_filter.mpr ⟨List.mem_append_right _ (List.mem_of_getElem? (i := 27) (by decide +kernel)), rfl⟩
theorem bw_28 : (Cond.methodLink "GhostTrain$Tape" (3 : Nat) ({ cls := "java/lang/Object", name := "<init>", desc := "()V" } : MethodName)) ∈ gh_G := List.mem_filter.mpr ⟨List.mem_append_right _ (List.mem_of_getElem? (i := 28) (by decide +kernel)), rfl⟩
theorem bw_29 : (Cond.fieldLink "GhostTrain$Tape" (9 : Nat) "GhostTrain$Tape" "bytes" "[I") ∈ gh_G := List.mem_filter.mpr ⟨List.mem_append_right _ (List.mem_of_getElem? (i := 29) (by decide +kernel)), rfl⟩
theorem bw_46 : (Cond.arrayClass FieldType.int) ∈ gh_G := List.mem_filter.mpr ⟨List.mem_append_right _ (List.mem_of_getElem? (i := 46) (by decide +kernel)), rfl⟩
theorem bw_47 : (Cond.classLink "GhostTrain" (22 : Nat) "GhostTrain$Train") ∈ gh_G := List.mem_filter.mpr ⟨List.mem_append_right _ (List.mem_of_getElem? (i := 47) (by decide +kernel)), rfl⟩
theorem bw_48 : (Cond.instantiable "GhostTrain$Train" (19 : Nat)) ∈ gh_G := List.mem_filter.mpr ⟨List.mem_append_right _ (List.mem_of_getElem? (i := 48) (by decide +kernel)), rfl⟩
theorem bw_49 : (Cond.methodLinkNest "GhostTrain" (24 : Nat) ({ cls := "GhostTrain$Train", name := "<init>", desc := "()V" } : MethodName) "GhostTrain") ∈ lw_tbl := List.mem_append_right _ (List.mem_of_getElem? (i := 49) (by decide +kernel))
theorem bw_50 : (Cond.instanceMethod ({ cls := "GhostTrain$Train", name := "<init>", desc := "()V" } : MethodName)) ∈ gh_G := List.mem_filter.mpr ⟨List.mem_append_right _ (List.mem_of_getElem? (i := 50) (by decide +kernel)), rfl⟩
theorem bw_51 : (Cond.code ({ cls := "GhostTrain$Train", name := "<init>", desc := "()V" } : MethodName) prog_7_method_1_code (1 : Nat) (Option.none : Option FieldType)) ∈ gh_G := List.mem_filter.mpr ⟨List.mem_append_right _ (List.mem_of_getElem? (i := 51) (by decide +kernel)), rfl⟩
theorem bw_52 : (Cond.methodLink "GhostTrain$Train" (3 : Nat) ({ cls := "java/lang/Object", name := "<init>", desc := "()V" } : MethodName)) ∈ gh_G := List.mem_filter.mpr ⟨List.mem_append_right _ (List.mem_of_getElem? (i := 52) (by decide +kernel)), rfl⟩
theorem bw_66 : (Cond.fieldLink "GhostTrain$Train" (9 : Nat) "GhostTrain$Train" "kind" "[I") ∈ gh_G := List.mem_filter.mpr ⟨List.mem_append_right _ (List.mem_of_getElem? (i := 66) (by decide +kernel)), rfl⟩
theorem bw_70 : (Cond.fieldLink "GhostTrain$Train" (15 : Nat) "GhostTrain$Train" "spot" "[I") ∈ gh_G := List.mem_filter.mpr ⟨List.mem_append_right _ (List.mem_of_getElem? (i := 70) (by decide +kernel)), rfl⟩
theorem bw_73 : (Cond.fieldLink "GhostTrain$Train" (18 : Nat) "GhostTrain$Train" "power" "[I") ∈ gh_G := List.mem_filter.mpr ⟨List.mem_append_right _ (List.mem_of_getElem? (i := 73) (by decide +kernel)), rfl⟩
theorem bw_77 : (Cond.fieldLink "GhostTrain$Train" (21 : Nat) "GhostTrain$Train" "on" "[Z") ∈ gh_G := List.mem_filter.mpr ⟨List.mem_append_right _ (List.mem_of_getElem? (i := 77) (by decide +kernel)), rfl⟩
theorem bw_79 : (Cond.fieldLink "GhostTrain$Train" (25 : Nat) "GhostTrain$Train" "met" "[I") ∈ gh_G := List.mem_filter.mpr ⟨List.mem_append_right _ (List.mem_of_getElem? (i := 79) (by decide +kernel)), rfl⟩
theorem bw_82 : (Cond.fieldLink "GhostTrain$Train" (28 : Nat) "GhostTrain$Train" "riders" "[I") ∈ gh_G := List.mem_filter.mpr ⟨List.mem_append_right _ (List.mem_of_getElem? (i := 82) (by decide +kernel)), rfl⟩
theorem bw_84 : (Cond.fieldLink "GhostTrain$Train" (31 : Nat) "GhostTrain$Train" "nerve" "[I") ∈ gh_G := List.mem_filter.mpr ⟨List.mem_append_right _ (List.mem_of_getElem? (i := 84) (by decide +kernel)), rfl⟩
theorem bw_87 : (Cond.fieldLink "GhostTrain$Train" (34 : Nat) "GhostTrain$Train" "pace" "[I") ∈ gh_G := List.mem_filter.mpr ⟨List.mem_append_right _ (List.mem_of_getElem? (i := 87) (by decide +kernel)), rfl⟩
theorem bw_89 : (Cond.fieldLink "GhostTrain$Train" (37 : Nat) "GhostTrain$Train" "where" "[I") ∈ gh_G := List.mem_filter.mpr ⟨List.mem_append_right _ (List.mem_of_getElem? (i := 89) (by decide +kernel)), rfl⟩
theorem bw_92 : (Cond.fieldLink "GhostTrain$Train" (40 : Nat) "GhostTrain$Train" "fear" "[I") ∈ gh_G := List.mem_filter.mpr ⟨List.mem_append_right _ (List.mem_of_getElem? (i := 92) (by decide +kernel)), rfl⟩
theorem bw_95 : (Cond.fieldLink "GhostTrain$Train" (43 : Nat) "GhostTrain$Train" "screams" "[I") ∈ gh_G := List.mem_filter.mpr ⟨List.mem_append_right _ (List.mem_of_getElem? (i := 95) (by decide +kernel)), rfl⟩
theorem bw_98 : (Cond.fieldLink "GhostTrain$Train" (46 : Nat) "GhostTrain$Train" "halted" "[Z") ∈ gh_G := List.mem_filter.mpr ⟨List.mem_append_right _ (List.mem_of_getElem? (i := 98) (by decide +kernel)), rfl⟩
theorem bw_100 : (Cond.fieldLink "GhostTrain$Train" (49 : Nat) "GhostTrain$Train" "rank" "[I") ∈ gh_G := List.mem_filter.mpr ⟨List.mem_append_right _ (List.mem_of_getElem? (i := 100) (by decide +kernel)), rfl⟩
theorem bw_102 : (Cond.fieldLink "GhostTrain$Train" (52 : Nat) "GhostTrain$Train" "inCell" "[I") ∈ gh_G := List.mem_filter.mpr ⟨List.mem_append_right _ (List.mem_of_getElem? (i := 102) (by decide +kernel)), rfl⟩
theorem bw_143 : (Cond.arrayClass FieldType.boolean) ∈ gh_G := List.mem_filter.mpr ⟨List.mem_append_right _ (List.mem_of_getElem? (i := 143) (by decide +kernel)), rfl⟩
theorem bw_144 : (Cond.classLink "GhostTrain" (32 : Nat) "GhostTrain$Acts") ∈ gh_G := List.mem_filter.mpr ⟨List.mem_append_right _ (List.mem_of_getElem? (i := 144) (by decide +kernel)), rfl⟩
theorem bw_145 : (Cond.instantiable "GhostTrain$Acts" (3 : Nat)) ∈ gh_G := List.mem_filter.mpr ⟨List.mem_append_right _ (List.mem_of_getElem? (i := 145) (by decide +kernel)), rfl⟩
theorem bw_146 : (Cond.methodLinkNest "GhostTrain" (34 : Nat) ({ cls := "GhostTrain$Acts", name := "<init>", desc := "()V" } : MethodName) "GhostTrain") ∈ lw_tbl := List.mem_append_right _ (List.mem_of_getElem? (i := 146) (by decide +kernel))
theorem bw_147 : (Cond.instanceMethod ({ cls := "GhostTrain$Acts", name := "<init>", desc := "()V" } : MethodName)) ∈ gh_G := List.mem_filter.mpr ⟨List.mem_append_right _ (List.mem_of_getElem? (i := 147) (by decide +kernel)), rfl⟩
theorem bw_148 : (Cond.code ({ cls := "GhostTrain$Acts", name := "<init>", desc := "()V" } : MethodName) prog_2_method_1_code (2 : Nat) (Option.none : Option FieldType)) ∈ gh_G := List.mem_filter.mpr ⟨List.mem_append_right _ (List.mem_of_getElem? (i := 148) (by decide +kernel)), rfl⟩
theorem bw_149 : (Cond.methodLink "GhostTrain$Acts" (3 : Nat) ({ cls := "java/lang/Object", name := "<init>", desc := "()V" } : MethodName)) ∈ gh_G := List.mem_filter.mpr ⟨List.mem_append_right _ (List.mem_of_getElem? (i := 149) (by decide +kernel)), rfl⟩
theorem bw_150 : (Cond.classLink "GhostTrain$Acts" (9 : Nat) "GhostTrain$Train") ∈ gh_G := List.mem_filter.mpr ⟨List.mem_append_right _ (List.mem_of_getElem? (i := 150) (by decide +kernel)), rfl⟩
theorem bw_152 : (Cond.methodLinkNest "GhostTrain$Acts" (17 : Nat) ({ cls := "GhostTrain$Train", name := "<init>", desc := "()V" } : MethodName) "GhostTrain") ∈ lw_tbl := List.mem_append_right _ (List.mem_of_getElem? (i := 152) (by decide +kernel))
theorem bw_153 : (Cond.fieldLink "GhostTrain$Acts" (11 : Nat) "GhostTrain$Acts" "before" "[LGhostTrain$Train;") ∈ gh_G := List.mem_filter.mpr ⟨List.mem_append_right _ (List.mem_of_getElem? (i := 153) (by decide +kernel)), rfl⟩
theorem bw_164 : (Cond.classLink "GhostTrain" (43 : Nat) "GhostTrain$Foresight") ∈ gh_G := List.mem_filter.mpr ⟨List.mem_append_right _ (List.mem_of_getElem? (i := 164) (by decide +kernel)), rfl⟩
theorem bw_165 : (Cond.instantiable "GhostTrain$Foresight" (9 : Nat)) ∈ gh_G := List.mem_filter.mpr ⟨List.mem_append_right _ (List.mem_of_getElem? (i := 165) (by decide +kernel)), rfl⟩
theorem bw_166 : (Cond.methodLinkNest "GhostTrain" (45 : Nat) ({ cls := "GhostTrain$Foresight", name := "<init>", desc := "()V" } : MethodName) "GhostTrain") ∈ lw_tbl := List.mem_append_right _ (List.mem_of_getElem? (i := 166) (by decide +kernel))
theorem bw_167 : (Cond.instanceMethod ({ cls := "GhostTrain$Foresight", name := "<init>", desc := "()V" } : MethodName)) ∈ gh_G := List.mem_filter.mpr ⟨List.mem_append_right _ (List.mem_of_getElem? (i := 167) (by decide +kernel)), rfl⟩
theorem bw_168 : (Cond.code ({ cls := "GhostTrain$Foresight", name := "<init>", desc := "()V" } : MethodName) prog_4_method_1_code (1 : Nat) (Option.none : Option FieldType)) ∈ gh_G := List.mem_filter.mpr ⟨List.mem_append_right _ (List.mem_of_getElem? (i := 168) (by decide +kernel)), rfl⟩
theorem bw_169 : (Cond.methodLink "GhostTrain$Foresight" (3 : Nat) ({ cls := "java/lang/Object", name := "<init>", desc := "()V" } : MethodName)) ∈ gh_G := List.mem_filter.mpr ⟨List.mem_append_right _ (List.mem_of_getElem? (i := 169) (by decide +kernel)), rfl⟩
theorem bw_170 : (Cond.classLink "GhostTrain$Foresight" (9 : Nat) "GhostTrain$Train") ∈ gh_G := List.mem_filter.mpr ⟨List.mem_append_right _ (List.mem_of_getElem? (i := 170) (by decide +kernel)), rfl⟩
theorem bw_171 : (Cond.methodLinkNest "GhostTrain$Foresight" (11 : Nat) ({ cls := "GhostTrain$Train", name := "<init>", desc := "()V" } : MethodName) "GhostTrain") ∈ lw_tbl := List.mem_append_right _ (List.mem_of_getElem? (i := 171) (by decide +kernel))
theorem bw_172 : (Cond.fieldLink "GhostTrain$Foresight" (12 : Nat) "GhostTrain$Foresight" "trial" "LGhostTrain$Train;") ∈ gh_G := List.mem_filter.mpr ⟨List.mem_append_right _ (List.mem_of_getElem? (i := 172) (by decide +kernel)), rfl⟩
theorem bw_173 : (Cond.fieldLink "GhostTrain$Foresight" (18 : Nat) "GhostTrain$Foresight" "told" "[I") ∈ gh_G := List.mem_filter.mpr ⟨List.mem_append_right _ (List.mem_of_getElem? (i := 173) (by decide +kernel)), rfl⟩
theorem bw_175 : (Cond.fieldLink "GhostTrain$Foresight" (22 : Nat) "GhostTrain$Foresight" "bestOrder" "[I") ∈ gh_G := List.mem_filter.mpr ⟨List.mem_append_right _ (List.mem_of_getElem? (i := 175) (by decide +kernel)), rfl⟩
theorem bw_177 : (Cond.fieldLink "GhostTrain$Foresight" (25 : Nat) "GhostTrain$Foresight" "tried" "[I") ∈ gh_G := List.mem_filter.mpr ⟨List.mem_append_right _ (List.mem_of_getElem? (i := 177) (by decide +kernel)), rfl⟩
theorem bw_178 : (Cond.fieldLink "GhostTrain$Foresight" (28 : Nat) "GhostTrain$Foresight" "best" "[I") ∈ gh_G := List.mem_filter.mpr ⟨List.mem_append_right _ (List.mem_of_getElem? (i := 178) (by decide +kernel)), rfl⟩
theorem bw_182 : (Cond.fieldLink "GhostTrain$Foresight" (31 : Nat) "GhostTrain$Foresight" "comesOf" "[I") ∈ gh_G := List.mem_filter.mpr ⟨List.mem_append_right _ (List.mem_of_getElem? (i := 182) (by decide +kernel)), rfl⟩
theorem bw_202 : (Cond.classLink "GhostTrain" (50 : Nat) "GhostTrain$Asker") ∈ gh_G := List.mem_filter.mpr ⟨List.mem_append_right _ (List.mem_of_getElem? (i := 202) (by decide +kernel)), rfl⟩
theorem bw_203 : (Cond.instantiable "GhostTrain$Asker" (2 : Nat)) ∈ gh_G := List.mem_filter.mpr ⟨List.mem_append_right _ (List.mem_of_getElem? (i := 203) (by decide +kernel)), rfl⟩
theorem bw_204 : (Cond.methodLinkNest "GhostTrain" (52 : Nat) ({ cls := "GhostTrain$Asker", name := "<init>", desc := "()V" } : MethodName) "GhostTrain") ∈ lw_tbl := List.mem_append_right _ (List.mem_of_getElem? (i := 204) (by decide +kernel))
theorem bw_205 : (Cond.instanceMethod ({ cls := "GhostTrain$Asker", name := "<init>", desc := "()V" } : MethodName)) ∈ gh_G := List.mem_filter.mpr ⟨List.mem_append_right _ (List.mem_of_getElem? (i := 205) (by decide +kernel)), rfl⟩
theorem bw_206 : (Cond.code ({ cls := "GhostTrain$Asker", name := "<init>", desc := "()V" } : MethodName) prog_3_method_1_code (1 : Nat) (Option.none : Option FieldType)) ∈ gh_G := List.mem_filter.mpr ⟨List.mem_append_right _ (List.mem_of_getElem? (i := 206) (by decide +kernel)), rfl⟩
theorem bw_207 : (Cond.methodLink "GhostTrain$Asker" (3 : Nat) ({ cls := "java/lang/Object", name := "<init>", desc := "()V" } : MethodName)) ∈ gh_G := List.mem_filter.mpr ⟨List.mem_append_right _ (List.mem_of_getElem? (i := 207) (by decide +kernel)), rfl⟩
theorem bw_208 : (Cond.fieldLink "GhostTrain$Asker" (9 : Nat) "GhostTrain$Asker" "bodies" "[I") ∈ gh_G := List.mem_filter.mpr ⟨List.mem_append_right _ (List.mem_of_getElem? (i := 208) (by decide +kernel)), rfl⟩
theorem bw_217 : (Cond.instantiable "GhostTrain$Row" (4 : Nat)) ∈ gh_G := List.mem_filter.mpr ⟨List.mem_append_right _ (List.mem_of_getElem? (i := 217) (by decide +kernel)), rfl⟩
theorem bw_218 : (Cond.methodLinkNest "GhostTrain" (57 : Nat) ({ cls := "GhostTrain$Row", name := "<init>", desc := "()V" } : MethodName) "GhostTrain") ∈ lw_tbl := List.mem_append_right _ (List.mem_of_getElem? (i := 218) (by decide +kernel))
theorem bw_219 : (Cond.instanceMethod ({ cls := "GhostTrain$Row", name := "<init>", desc := "()V" } : MethodName)) ∈ gh_G := List.mem_filter.mpr ⟨List.mem_append_right _ (List.mem_of_getElem? (i := 219) (by decide +kernel)), rfl⟩
theorem bw_220 : (Cond.code ({ cls := "GhostTrain$Row", name := "<init>", desc := "()V" } : MethodName) prog_5_method_1_code (1 : Nat) (Option.none : Option FieldType)) ∈ gh_G := List.mem_filter.mpr ⟨List.mem_append_right _ (List.mem_of_getElem? (i := 220) (by decide +kernel)), rfl⟩
theorem bw_221 : (Cond.methodLink "GhostTrain$Row" (3 : Nat) ({ cls := "java/lang/Object", name := "<init>", desc := "()V" } : MethodName)) ∈ gh_G := List.mem_filter.mpr ⟨List.mem_append_right _ (List.mem_of_getElem? (i := 221) (by decide +kernel)), rfl⟩
theorem bw_228 : (Cond.fieldLink "GhostTrain$Row" (9 : Nat) "GhostTrain$Row" "items" "[I") ∈ gh_G := List.mem_filter.mpr ⟨List.mem_append_right _ (List.mem_of_getElem? (i := 228) (by decide +kernel)), rfl⟩
theorem bw_240 : (Cond.fieldLink "GhostTrain" (11 : Nat) "GhostTrain" "rows" "[LGhostTrain$Row;") ∈ gh_G := List.mem_filter.mpr ⟨List.mem_append_right _ (List.mem_of_getElem? (i := 240) (by decide +kernel)), rfl⟩
theorem bw_241 : (Cond.fieldLink "GhostTrain" (18 : Nat) "GhostTrain" "tape" "LGhostTrain$Tape;") ∈ gh_G := List.mem_filter.mpr ⟨List.mem_append_right _ (List.mem_of_getElem? (i := 241) (by decide +kernel)), rfl⟩
theorem bw_242 : (Cond.fieldLink "GhostTrain" (25 : Nat) "GhostTrain" "train" "LGhostTrain$Train;") ∈ gh_G := List.mem_filter.mpr ⟨List.mem_append_right _ (List.mem_of_getElem? (i := 242) (by decide +kernel)), rfl⟩
theorem bw_243 : (Cond.fieldLink "GhostTrain" (29 : Nat) "GhostTrain" "draft" "LGhostTrain$Train;") ∈ gh_G := List.mem_filter.mpr ⟨List.mem_append_right _ (List.mem_of_getElem? (i := 243) (by decide +kernel)), rfl⟩
theorem bw_244 : (Cond.fieldLink "GhostTrain" (35 : Nat) "GhostTrain" "acts" "LGhostTrain$Acts;") ∈ gh_G := List.mem_filter.mpr ⟨List.mem_append_right _ (List.mem_of_getElem? (i := 244) (by decide +kernel)), rfl⟩
theorem bw_245 : (Cond.fieldLink "GhostTrain" (39 : Nat) "GhostTrain" "images" "[LGhostTrain$Train;") ∈ gh_G := List.mem_filter.mpr ⟨List.mem_append_right _ (List.mem_of_getElem? (i := 245) (by decide +kernel)), rfl⟩
theorem bw_246 : (Cond.fieldLink "GhostTrain" (46 : Nat) "GhostTrain" "foresight" "LGhostTrain$Foresight;") ∈ gh_G := List.mem_filter.mpr ⟨List.mem_append_right _ (List.mem_of_getElem? (i := 246) (by decide +kernel)), rfl⟩
theorem bw_247 : (Cond.fieldLink "GhostTrain" (53 : Nat) "GhostTrain" "asker" "LGhostTrain$Asker;") ∈ gh_G := List.mem_filter.mpr ⟨List.mem_append_right _ (List.mem_of_getElem? (i := 247) (by decide +kernel)), rfl⟩
theorem bw_818 : (Cond.instanceMethod ({ cls := "GhostTrainModel", name := "<init>", desc := "()V" } : MethodName)) ∈ gh_G := List.mem_filter.mpr ⟨List.mem_append_right _ (List.mem_of_getElem? (i := 818) (by decide +kernel)), rfl⟩
theorem bw_819 : (Cond.code ({ cls := "GhostTrainModel", name := "<init>", desc := "()V" } : MethodName) prog_9_method_1_code (2 : Nat) (Option.none : Option FieldType)) ∈ gh_G := List.mem_filter.mpr ⟨List.mem_append_right _ (List.mem_of_getElem? (i := 819) (by decide +kernel)), rfl⟩
theorem bw_820 : (Cond.methodLink "GhostTrainModel" (1 : Nat) ({ cls := "java/lang/Object", name := "<init>", desc := "()V" } : MethodName)) ∈ gh_G := List.mem_filter.mpr ⟨List.mem_append_right _ (List.mem_of_getElem? (i := 820) (by decide +kernel)), rfl⟩
theorem bw_821 : (Cond.fieldLink "GhostTrainModel" (7 : Nat) "GhostTrainModel" "w" "[I") ∈ gh_G := List.mem_filter.mpr ⟨List.mem_append_right _ (List.mem_of_getElem? (i := 821) (by decide +kernel)), rfl⟩
theorem bw_824 : (Cond.fieldLink "GhostTrainModel" (13 : Nat) "GhostTrainModel" "rank" "[I") ∈ gh_G := List.mem_filter.mpr ⟨List.mem_append_right _ (List.mem_of_getElem? (i := 824) (by decide +kernel)), rfl⟩
theorem bw_825 : (Cond.fieldLink "GhostTrainModel" (16 : Nat) "GhostTrainModel" "best" "[I") ∈ gh_G := List.mem_filter.mpr ⟨List.mem_append_right _ (List.mem_of_getElem? (i := 825) (by decide +kernel)), rfl⟩
theorem bw_827 : (Cond.fieldLink "GhostTrainModel" (19 : Nat) "GhostTrainModel" "howled" "[I") ∈ gh_G := List.mem_filter.mpr ⟨List.mem_append_right _ (List.mem_of_getElem? (i := 827) (by decide +kernel)), rfl⟩
theorem bw_828 : (Cond.fieldLink "GhostTrainModel" (22 : Nat) "GhostTrainModel" "tape" "[I") ∈ gh_G := List.mem_filter.mpr ⟨List.mem_append_right _ (List.mem_of_getElem? (i := 828) (by decide +kernel)), rfl⟩
theorem bw_831 : (Cond.fieldLink "GhostTrainModel" (25 : Nat) "GhostTrainModel" "items" "[I") ∈ gh_G := List.mem_filter.mpr ⟨List.mem_append_right _ (List.mem_of_getElem? (i := 831) (by decide +kernel)), rfl⟩
theorem bw_832 : (Cond.fieldLink "GhostTrainModel" (28 : Nat) "GhostTrainModel" "lanes" "[I") ∈ gh_G := List.mem_filter.mpr ⟨List.mem_append_right _ (List.mem_of_getElem? (i := 832) (by decide +kernel)), rfl⟩
theorem bw_833 : (Cond.fieldLink "GhostTrainModel" (31 : Nat) "GhostTrainModel" "sizes" "[I") ∈ gh_G := List.mem_filter.mpr ⟨List.mem_append_right _ (List.mem_of_getElem? (i := 833) (by decide +kernel)), rfl⟩
theorem bw_835 : (Cond.fieldLink "GhostTrainModel" (34 : Nat) "GhostTrainModel" "trace" "[I") ∈ gh_G := List.mem_filter.mpr ⟨List.mem_append_right _ (List.mem_of_getElem? (i := 835) (by decide +kernel)), rfl⟩
theorem bw_840 : (Cond.fieldLink "GhostTrainModel" (37 : Nat) "GhostTrainModel" "order" "[I") ∈ gh_G := List.mem_filter.mpr ⟨List.mem_append_right _ (List.mem_of_getElem? (i := 840) (by decide +kernel)), rfl⟩
theorem bw_841 : (Cond.fieldLink "GhostTrainModel" (40 : Nat) "GhostTrainModel" "worth" "[I") ∈ gh_G := List.mem_filter.mpr ⟨List.mem_append_right _ (List.mem_of_getElem? (i := 841) (by decide +kernel)), rfl⟩
theorem bw_842 : (Cond.fieldLink "GhostTrainModel" (43 : Nat) "GhostTrainModel" "behind" "[I") ∈ gh_G := List.mem_filter.mpr ⟨List.mem_append_right _ (List.mem_of_getElem? (i := 842) (by decide +kernel)), rfl⟩
theorem ok_X0_init : gn_okI mi_X0_init := ⟨⟨bw_4, bw_148, by decide +kernel, by decide⟩, bw_147, rfl, rfl⟩
theorem ok_X1_init : gn_okI mi_X1_init := ⟨⟨bw_6, bw_206, by decide +kernel, by decide⟩, bw_205, rfl, rfl⟩
theorem ok_X2_init : gn_okI mi_X2_init := ⟨⟨bw_5, bw_168, by decide +kernel, by decide⟩, bw_167, rfl, rfl⟩
theorem ok_X3_init : gn_okI mi_X3_init := ⟨⟨bw_7, bw_220, by decide +kernel, by decide⟩, bw_219, rfl, rfl⟩
theorem ok_X4_init : gn_okI mi_X4_init := ⟨⟨bw_2, bw_27, by decide +kernel, by decide⟩, bw_26, rfl, rfl⟩
theorem ok_X5_init : gn_okI mi_X5_init := ⟨⟨bw_3, bw_51, by decide +kernel, by decide⟩, bw_50, rfl, rfl⟩
theorem ok_X6_init : gn_okI mi_X6_init := ⟨⟨bw_1, bw_17, by decide +kernel, by decide⟩, bw_16, rfl, rfl⟩
theorem ok_X7_init : gn_okI mi_X7_init := ⟨⟨bw_8, bw_819, by decide +kernel, by decide⟩, bw_818, rfl, rfl⟩
theorem df_X0 (t : Nat) : ∀ j, j < 3 → defaultValue (gh_ty (gh_ci 21) j) = frV (gh_fl 21 t)[j]? := fun j hj => match j, hj with
  | 0, _ => rfl
  | 1, _ => rfl
  | 2, _ => rfl
  | j + 3, hj => absurd hj (by omega)
theorem df_X1 (t : Nat) : ∀ j, j < 2 → defaultValue (gh_ty (gh_ci 30) j) = frV (gh_fl 30 t)[j]? := fun j hj => match j, hj with
  | 0, _ => rfl
  | 1, _ => rfl
  | j + 2, hj => absurd hj (by omega)
theorem df_X2 (t : Nat) : ∀ j, j < 9 → defaultValue (gh_ty (gh_ci 24) j) = frV (gh_fl 24 t)[j]? := fun j hj => match j, hj with
  | 0, _ => rfl
  | 1, _ => rfl
  | 2, _ => rfl
  | 3, _ => rfl
  | 4, _ => rfl
  | 5, _ => rfl
  | 6, _ => rfl
  | 7, _ => rfl
  | 8, _ => rfl
  | j + 9, hj => absurd hj (by omega)
theorem df_X3 (t : Nat) : ∀ j, j < 4 → defaultValue (gh_ty (gh_ci 2) j) = frV (gh_fl 2 t)[j]? := fun j hj => match j, hj with
  | 0, _ => rfl
  | 1, _ => rfl
  | 2, _ => rfl
  | 3, _ => rfl
  | j + 4, hj => absurd hj (by omega)
theorem df_X4 (t : Nat) : ∀ j, j < 4 → defaultValue (gh_ty (gh_ci 4) j) = frV (gh_fl 4 t)[j]? := fun j hj => match j, hj with
  | 0, _ => rfl
  | 1, _ => rfl
  | 2, _ => rfl
  | 3, _ => rfl
  | j + 4, hj => absurd hj (by omega)
theorem df_X5 (t : Nat) : ∀ j, j < 19 → defaultValue (gh_ty (gh_ci 6) j) = frV (gh_fl 6 t)[j]? := fun j hj => match j, hj with
  | 0, _ => rfl
  | 1, _ => rfl
  | 2, _ => rfl
  | 3, _ => rfl
  | 4, _ => rfl
  | 5, _ => rfl
  | 6, _ => rfl
  | 7, _ => rfl
  | 8, _ => rfl
  | 9, _ => rfl
  | 10, _ => rfl
  | 11, _ => rfl
  | 12, _ => rfl
  | 13, _ => rfl
  | 14, _ => rfl
  | 15, _ => rfl
  | 16, _ => rfl
  | 17, _ => rfl
  | 18, _ => rfl
  | j + 19, hj => absurd hj (by omega)
theorem df_X6 (t : Nat) : ∀ j, j < 10 → defaultValue (gh_ty (gh_ci 0) j) = frV (gh_fl 0 t)[j]? := fun j hj => match j, hj with
  | 0, _ => rfl
  | 1, _ => rfl
  | 2, _ => rfl
  | 3, _ => rfl
  | 4, _ => rfl
  | 5, _ => rfl
  | 6, _ => rfl
  | 7, _ => rfl
  | 8, _ => rfl
  | 9, _ => rfl
  | j + 10, hj => absurd hj (by omega)
theorem df_X7 (t : Nat) : ∀ j, j < 22 → defaultValue (gh_ty (gh_ci 32) j) = frV (gh_fl 32 t)[j]? := fun j hj => match j, hj with
  | 0, _ => rfl
  | 1, _ => rfl
  | 2, _ => rfl
  | 3, _ => rfl
  | 4, _ => rfl
  | 5, _ => rfl
  | 6, _ => rfl
  | 7, _ => rfl
  | 8, _ => rfl
  | 9, _ => rfl
  | 10, _ => rfl
  | 11, _ => rfl
  | 12, _ => rfl
  | 13, _ => rfl
  | 14, _ => rfl
  | 15, _ => rfl
  | 16, _ => rfl
  | 17, _ => rfl
  | 18, _ => rfl
  | 19, _ => rfl
  | 20, _ => rfl
  | 21, _ => rfl
  | j + 22, hj => absurd hj (by omega)
theorem fr_X5 {t v : Nat} (hv : v ≤ evT t) : ∀ (j : Nat) (z : Nat × Nat), (gh_fl 6 t)[j]? = some (some z) → v ≤ evn z.1 z.2 := fun j z h => match j, h with
  | 0, h => by cases h
  | 1, h => by cases h
  | 2, h => by cases h
  | 3, h => by cases h
  | 4, h => by cases h
  | 5, h => by cases h; exact Nat.le_trans hv (Nat.le_add_right _ _)
  | 6, h => by cases h; exact Nat.le_trans hv (Nat.le_add_right _ _)
  | 7, h => by cases h; exact Nat.le_trans hv (Nat.le_add_right _ _)
  | 8, h => by cases h; exact Nat.le_trans hv (Nat.le_add_right _ _)
  | 9, h => by cases h; exact Nat.le_trans hv (Nat.le_add_right _ _)
  | 10, h => by cases h; exact Nat.le_trans hv (Nat.le_add_right _ _)
  | 11, h => by cases h; exact Nat.le_trans hv (Nat.le_add_right _ _)
  | 12, h => by cases h; exact Nat.le_trans hv (Nat.le_add_right _ _)
  | 13, h => by cases h; exact Nat.le_trans hv (Nat.le_add_right _ _)
  | 14, h => by cases h; exact Nat.le_trans hv (Nat.le_add_right _ _)
  | 15, h => by cases h; exact Nat.le_trans hv (Nat.le_add_right _ _)
  | 16, h => by cases h; exact Nat.le_trans hv (Nat.le_add_right _ _)
  | 17, h => by cases h; exact Nat.le_trans hv (Nat.le_add_right _ _)
  | 18, h => by cases h; exact Nat.le_trans hv (Nat.le_add_right _ _)
  | j + 19, h => by cases h
theorem fr_X3 {t v : Nat} (ht : t < 8) (hv : v ≤ 419 + 2 * t) : ∀ (j : Nat) (z : Nat × Nat), (gh_fl 2 t)[j]? = some (some z) → v ≤ evn z.1 z.2 := fun j z h => match j, h with
  | 0, h => by cases h
  | 1, h => by cases h
  | 2, h => by cases h
  | 3, h => by cases h; exact (by show v ≤ (if t < 8 then 419 + 2 * t else 0); rw [if_pos ht]; exact hv)
  | j + 4, h => by cases h
theorem fr_X0 {t v : Nat} (hv : v ≤ 33) : ∀ (j : Nat) (z : Nat × Nat), (gh_fl 21 t)[j]? = some (some z) → v ≤ evn z.1 z.2 := fun j z h => match j, h with
  | 0, h => by cases h; exact Nat.le_trans hv (by decide)
  | 1, h => by cases h
  | 2, h => by cases h
  | j + 3, h => by cases h
theorem fr_X1 {t v : Nat} (hv : v ≤ 417) : ∀ (j : Nat) (z : Nat × Nat), (gh_fl 30 t)[j]? = some (some z) → v ≤ evn z.1 z.2 := fun j z h => match j, h with
  | 0, h => by cases h; exact Nat.le_trans hv (by decide)
  | 1, h => by cases h
  | j + 2, h => by cases h
theorem fr_X2 {t v : Nat} (hv : v ≤ 396) : ∀ (j : Nat) (z : Nat × Nat), (gh_fl 24 t)[j]? = some (some z) → v ≤ evn z.1 z.2 := fun j z h => match j, h with
  | 0, h => by cases h; exact Nat.le_trans hv (by decide)
  | 1, h => by cases h; exact Nat.le_trans hv (by decide)
  | 2, h => by cases h
  | 3, h => by cases h; exact Nat.le_trans hv (by decide)
  | 4, h => by cases h; exact Nat.le_trans hv (by decide)
  | 5, h => by cases h; exact Nat.le_trans hv (by decide)
  | 6, h => by cases h
  | 7, h => by cases h
  | 8, h => by cases h; exact Nat.le_trans hv (by decide)
  | j + 9, h => by cases h
theorem fr_X4 {t v : Nat} (hv : v ≤ 1) : ∀ (j : Nat) (z : Nat × Nat), (gh_fl 4 t)[j]? = some (some z) → v ≤ evn z.1 z.2 := fun j z h => match j, h with
  | 0, h => by cases h; exact Nat.le_trans hv (by decide)
  | 1, h => by cases h
  | 2, h => by cases h
  | 3, h => by cases h
  | j + 4, h => by cases h
theorem fr_X6 {t v : Nat} (hv : v ≤ 0) : ∀ (j : Nat) (z : Nat × Nat), (gh_fl 0 t)[j]? = some (some z) → v ≤ evn z.1 z.2 := fun j z h => match j, h with
  | 0, h => by cases h; exact Nat.le_trans hv (by decide)
  | 1, h => by cases h; exact Nat.le_trans hv (by decide)
  | 2, h => by cases h; exact Nat.le_trans hv (by decide)
  | 3, h => by cases h; exact Nat.le_trans hv (by decide)
  | 4, h => by cases h; exact Nat.le_trans hv (by decide)
  | 5, h => by cases h; exact Nat.le_trans hv (by decide)
  | 6, h => by cases h; exact Nat.le_trans hv (by decide)
  | 7, h => by cases h; exact Nat.le_trans hv (by decide)
  | 8, h => by cases h
  | 9, h => by cases h
  | j + 10, h => by cases h
theorem fr_X7 {t v : Nat} (hv : v ≤ 465) : ∀ (j : Nat) (z : Nat × Nat), (gh_fl 32 t)[j]? = some (some z) → v ≤ evn z.1 z.2 := fun j z h => match j, h with
  | 0, h => by cases h; exact Nat.le_trans hv (by decide)
  | 1, h => by cases h
  | 2, h => by cases h
  | 3, h => by cases h; exact Nat.le_trans hv (by decide)
  | 4, h => by cases h; exact Nat.le_trans hv (by decide)
  | 5, h => by cases h
  | 6, h => by cases h; exact Nat.le_trans hv (by decide)
  | 7, h => by cases h; exact Nat.le_trans hv (by decide)
  | 8, h => by cases h
  | 9, h => by cases h
  | 10, h => by cases h; exact Nat.le_trans hv (by decide)
  | 11, h => by cases h; exact Nat.le_trans hv (by decide)
  | 12, h => by cases h; exact Nat.le_trans hv (by decide)
  | 13, h => by cases h
  | 14, h => by cases h; exact Nat.le_trans hv (by decide)
  | 15, h => by cases h
  | 16, h => by cases h
  | 17, h => by cases h
  | 18, h => by cases h
  | 19, h => by cases h; exact Nat.le_trans hv (by decide)
  | 20, h => by cases h; exact Nat.le_trans hv (by decide)
  | 21, h => by cases h; exact Nat.le_trans hv (by decide)
  | j + 22, h => by cases h
theorem oT_a {i : Nat} (h : i < 24) : ordT (2 + i) = 36 + 15 * i ∧ evT (2 + i) = 34 + 15 * i := by
  unfold ordT evT
  rw [if_neg (by omega), if_neg (by omega), if_pos (by omega), if_neg (by omega), if_neg (by omega), if_pos (by omega)]
  omega
theorem oT_b {i : Nat} (h : i < 2) : ordT (26 + i) = 436 + 15 * i ∧ evT (26 + i) = 435 + 15 * i := by
  unfold ordT evT
  rw [if_neg (by omega), if_neg (by omega), if_neg (by omega), if_pos (by omega), if_neg (by omega), if_neg (by omega), if_neg (by omega), if_pos (by omega)]
  omega
theorem dn_X5_0 : gh_at mi_X5_init 0 (.aload_n 0) 1 1 := ⟨by decide +kernel, rfl⟩
theorem dn_X5_1 : gh_at mi_X5_init 1 (.invokespecial 3) 3 4 := ⟨by decide +kernel, rfl⟩
theorem dn_X5_4 : gh_at mi_X5_init 4 (.aload_n 0) 1 5 := ⟨by decide +kernel, rfl⟩
theorem dn_X5_5 : gh_at mi_X5_init 5 (.iconst 5) 1 6 := ⟨by decide +kernel, rfl⟩
theorem dn_X5_6 : gh_at mi_X5_init 6 (.newarray .int) 2 8 := ⟨by decide +kernel, rfl⟩
theorem dn_X5_8 : gh_at mi_X5_init 8 (.putfield 9) 3 11 := ⟨by decide +kernel, rfl⟩
theorem dn_X5_11 : gh_at mi_X5_init 11 (.aload_n 0) 1 12 := ⟨by decide +kernel, rfl⟩
theorem dn_X5_12 : gh_at mi_X5_init 12 (.iconst 5) 1 13 := ⟨by decide +kernel, rfl⟩
theorem dn_X5_13 : gh_at mi_X5_init 13 (.newarray .int) 2 15 := ⟨by decide +kernel, rfl⟩
theorem dn_X5_15 : gh_at mi_X5_init 15 (.putfield 15) 3 18 := ⟨by decide +kernel, rfl⟩
theorem dn_X5_18 : gh_at mi_X5_init 18 (.aload_n 0) 1 19 := ⟨by decide +kernel, rfl⟩
theorem dn_X5_19 : gh_at mi_X5_init 19 (.iconst 5) 1 20 := ⟨by decide +kernel, rfl⟩
theorem dn_X5_20 : gh_at mi_X5_init 20 (.newarray .int) 2 22 := ⟨by decide +kernel, rfl⟩
theorem dn_X5_22 : gh_at mi_X5_init 22 (.putfield 18) 3 25 := ⟨by decide +kernel, rfl⟩
theorem dn_X5_25 : gh_at mi_X5_init 25 (.aload_n 0) 1 26 := ⟨by decide +kernel, rfl⟩
theorem dn_X5_26 : gh_at mi_X5_init 26 (.iconst 5) 1 27 := ⟨by decide +kernel, rfl⟩
theorem dn_X5_27 : gh_at mi_X5_init 27 (.newarray .boolean) 2 29 := ⟨by decide +kernel, rfl⟩
theorem dn_X5_29 : gh_at mi_X5_init 29 (.putfield 21) 3 32 := ⟨by decide +kernel, rfl⟩
theorem dn_X5_32 : gh_at mi_X5_init 32 (.aload_n 0) 1 33 := ⟨by decide +kernel, rfl⟩
theorem dn_X5_33 : gh_at mi_X5_init 33 (.iconst 5) 1 34 := ⟨by decide +kernel, rfl⟩
theorem dn_X5_34 : gh_at mi_X5_init 34 (.newarray .int) 2 36 := ⟨by decide +kernel, rfl⟩
theorem dn_X5_36 : gh_at mi_X5_init 36 (.putfield 25) 3 39 := ⟨by decide +kernel, rfl⟩
theorem dn_X5_39 : gh_at mi_X5_init 39 (.aload_n 0) 1 40 := ⟨by decide +kernel, rfl⟩
theorem dn_X5_40 : gh_at mi_X5_init 40 (.bipush 6) 2 42 := ⟨by decide +kernel, rfl⟩
theorem dn_X5_42 : gh_at mi_X5_init 42 (.newarray .int) 2 44 := ⟨by decide +kernel, rfl⟩
theorem dn_X5_44 : gh_at mi_X5_init 44 (.putfield 28) 3 47 := ⟨by decide +kernel, rfl⟩
theorem dn_X5_47 : gh_at mi_X5_init 47 (.aload_n 0) 1 48 := ⟨by decide +kernel, rfl⟩
theorem dn_X5_48 : gh_at mi_X5_init 48 (.bipush 6) 2 50 := ⟨by decide +kernel, rfl⟩
theorem dn_X5_50 : gh_at mi_X5_init 50 (.newarray .int) 2 52 := ⟨by decide +kernel, rfl⟩
theorem dn_X5_52 : gh_at mi_X5_init 52 (.putfield 31) 3 55 := ⟨by decide +kernel, rfl⟩
theorem dn_X5_55 : gh_at mi_X5_init 55 (.aload_n 0) 1 56 := ⟨by decide +kernel, rfl⟩
theorem dn_X5_56 : gh_at mi_X5_init 56 (.bipush 6) 2 58 := ⟨by decide +kernel, rfl⟩
theorem dn_X5_58 : gh_at mi_X5_init 58 (.newarray .int) 2 60 := ⟨by decide +kernel, rfl⟩
theorem dn_X5_60 : gh_at mi_X5_init 60 (.putfield 34) 3 63 := ⟨by decide +kernel, rfl⟩
theorem dn_X5_63 : gh_at mi_X5_init 63 (.aload_n 0) 1 64 := ⟨by decide +kernel, rfl⟩
theorem dn_X5_64 : gh_at mi_X5_init 64 (.bipush 6) 2 66 := ⟨by decide +kernel, rfl⟩
theorem dn_X5_66 : gh_at mi_X5_init 66 (.newarray .int) 2 68 := ⟨by decide +kernel, rfl⟩
theorem dn_X5_68 : gh_at mi_X5_init 68 (.putfield 37) 3 71 := ⟨by decide +kernel, rfl⟩
theorem dn_X5_71 : gh_at mi_X5_init 71 (.aload_n 0) 1 72 := ⟨by decide +kernel, rfl⟩
theorem dn_X5_72 : gh_at mi_X5_init 72 (.bipush 6) 2 74 := ⟨by decide +kernel, rfl⟩
theorem dn_X5_74 : gh_at mi_X5_init 74 (.newarray .int) 2 76 := ⟨by decide +kernel, rfl⟩
theorem dn_X5_76 : gh_at mi_X5_init 76 (.putfield 40) 3 79 := ⟨by decide +kernel, rfl⟩
theorem dn_X5_79 : gh_at mi_X5_init 79 (.aload_n 0) 1 80 := ⟨by decide +kernel, rfl⟩
theorem dn_X5_80 : gh_at mi_X5_init 80 (.bipush 6) 2 82 := ⟨by decide +kernel, rfl⟩
theorem dn_X5_82 : gh_at mi_X5_init 82 (.newarray .int) 2 84 := ⟨by decide +kernel, rfl⟩
theorem dn_X5_84 : gh_at mi_X5_init 84 (.putfield 43) 3 87 := ⟨by decide +kernel, rfl⟩
theorem dn_X5_87 : gh_at mi_X5_init 87 (.aload_n 0) 1 88 := ⟨by decide +kernel, rfl⟩
theorem dn_X5_88 : gh_at mi_X5_init 88 (.bipush 6) 2 90 := ⟨by decide +kernel, rfl⟩
theorem dn_X5_90 : gh_at mi_X5_init 90 (.newarray .boolean) 2 92 := ⟨by decide +kernel, rfl⟩
theorem dn_X5_92 : gh_at mi_X5_init 92 (.putfield 46) 3 95 := ⟨by decide +kernel, rfl⟩
theorem dn_X5_95 : gh_at mi_X5_init 95 (.aload_n 0) 1 96 := ⟨by decide +kernel, rfl⟩
theorem dn_X5_96 : gh_at mi_X5_init 96 (.bipush 6) 2 98 := ⟨by decide +kernel, rfl⟩
theorem dn_X5_98 : gh_at mi_X5_init 98 (.newarray .int) 2 100 := ⟨by decide +kernel, rfl⟩
theorem dn_X5_100 : gh_at mi_X5_init 100 (.putfield 49) 3 103 := ⟨by decide +kernel, rfl⟩
theorem dn_X5_103 : gh_at mi_X5_init 103 (.aload_n 0) 1 104 := ⟨by decide +kernel, rfl⟩
theorem dn_X5_104 : gh_at mi_X5_init 104 (.bipush 12) 2 106 := ⟨by decide +kernel, rfl⟩
theorem dn_X5_106 : gh_at mi_X5_init 106 (.newarray .int) 2 108 := ⟨by decide +kernel, rfl⟩
theorem dn_X5_108 : gh_at mi_X5_init 108 (.putfield 52) 3 111 := ⟨by decide +kernel, rfl⟩
theorem dn_X5_111 : gh_at mi_X5_init 111 (.return_) 1 112 := ⟨by decide +kernel, rfl⟩
theorem dn_X3_0 : gh_at mi_X3_init 0 (.aload_n 0) 1 1 := ⟨by decide +kernel, rfl⟩
theorem dn_X3_1 : gh_at mi_X3_init 1 (.invokespecial 3) 3 4 := ⟨by decide +kernel, rfl⟩
theorem dn_X3_4 : gh_at mi_X3_init 4 (.aload_n 0) 1 5 := ⟨by decide +kernel, rfl⟩
theorem dn_X3_5 : gh_at mi_X3_init 5 (.bipush 40) 2 7 := ⟨by decide +kernel, rfl⟩
theorem dn_X3_7 : gh_at mi_X3_init 7 (.newarray .int) 2 9 := ⟨by decide +kernel, rfl⟩
theorem dn_X3_9 : gh_at mi_X3_init 9 (.putfield 9) 3 12 := ⟨by decide +kernel, rfl⟩
theorem dn_X3_12 : gh_at mi_X3_init 12 (.return_) 1 13 := ⟨by decide +kernel, rfl⟩
theorem dn_X4_0 : gh_at mi_X4_init 0 (.aload_n 0) 1 1 := ⟨by decide +kernel, rfl⟩
theorem dn_X4_1 : gh_at mi_X4_init 1 (.invokespecial 3) 3 4 := ⟨by decide +kernel, rfl⟩
theorem dn_X4_4 : gh_at mi_X4_init 4 (.aload_n 0) 1 5 := ⟨by decide +kernel, rfl⟩
theorem dn_X4_5 : gh_at mi_X4_init 5 (.bipush 100) 2 7 := ⟨by decide +kernel, rfl⟩
theorem dn_X4_7 : gh_at mi_X4_init 7 (.newarray .int) 2 9 := ⟨by decide +kernel, rfl⟩
theorem dn_X4_9 : gh_at mi_X4_init 9 (.putfield 9) 3 12 := ⟨by decide +kernel, rfl⟩
theorem dn_X4_12 : gh_at mi_X4_init 12 (.return_) 1 13 := ⟨by decide +kernel, rfl⟩
theorem dn_X1_0 : gh_at mi_X1_init 0 (.aload_n 0) 1 1 := ⟨by decide +kernel, rfl⟩
theorem dn_X1_1 : gh_at mi_X1_init 1 (.invokespecial 3) 3 4 := ⟨by decide +kernel, rfl⟩
theorem dn_X1_4 : gh_at mi_X1_init 4 (.aload_n 0) 1 5 := ⟨by decide +kernel, rfl⟩
theorem dn_X1_5 : gh_at mi_X1_init 5 (.bipush 16) 2 7 := ⟨by decide +kernel, rfl⟩
theorem dn_X1_7 : gh_at mi_X1_init 7 (.newarray .int) 2 9 := ⟨by decide +kernel, rfl⟩
theorem dn_X1_9 : gh_at mi_X1_init 9 (.putfield 9) 3 12 := ⟨by decide +kernel, rfl⟩
theorem dn_X1_12 : gh_at mi_X1_init 12 (.return_) 1 13 := ⟨by decide +kernel, rfl⟩
theorem dn_X2_0 : gh_at mi_X2_init 0 (.aload_n 0) 1 1 := ⟨by decide +kernel, rfl⟩
theorem dn_X2_1 : gh_at mi_X2_init 1 (.invokespecial 3) 3 4 := ⟨by decide +kernel, rfl⟩
theorem dn_X2_4 : gh_at mi_X2_init 4 (.aload_n 0) 1 5 := ⟨by decide +kernel, rfl⟩
theorem dn_X2_5 : gh_at mi_X2_init 5 (.new 9) 3 8 := ⟨by decide +kernel, rfl⟩
theorem dn_X2_8 : gh_at mi_X2_init 8 (.dup) 1 9 := ⟨by decide +kernel, rfl⟩
theorem dn_X2_9 : gh_at mi_X2_init 9 (.invokespecial 11) 3 12 := ⟨by decide +kernel, rfl⟩
theorem dn_X2_12 : gh_at mi_X2_init 12 (.putfield 12) 3 15 := ⟨by decide +kernel, rfl⟩
theorem dn_X2_15 : gh_at mi_X2_init 15 (.aload_n 0) 1 16 := ⟨by decide +kernel, rfl⟩
theorem dn_X2_16 : gh_at mi_X2_init 16 (.bipush 12) 2 18 := ⟨by decide +kernel, rfl⟩
theorem dn_X2_18 : gh_at mi_X2_init 18 (.newarray .int) 2 20 := ⟨by decide +kernel, rfl⟩
theorem dn_X2_20 : gh_at mi_X2_init 20 (.putfield 18) 3 23 := ⟨by decide +kernel, rfl⟩
theorem dn_X2_23 : gh_at mi_X2_init 23 (.aload_n 0) 1 24 := ⟨by decide +kernel, rfl⟩
theorem dn_X2_24 : gh_at mi_X2_init 24 (.bipush 6) 2 26 := ⟨by decide +kernel, rfl⟩
theorem dn_X2_26 : gh_at mi_X2_init 26 (.newarray .int) 2 28 := ⟨by decide +kernel, rfl⟩
theorem dn_X2_28 : gh_at mi_X2_init 28 (.putfield 22) 3 31 := ⟨by decide +kernel, rfl⟩
theorem dn_X2_31 : gh_at mi_X2_init 31 (.aload_n 0) 1 32 := ⟨by decide +kernel, rfl⟩
theorem dn_X2_32 : gh_at mi_X2_init 32 (.bipush 6) 2 34 := ⟨by decide +kernel, rfl⟩
theorem dn_X2_34 : gh_at mi_X2_init 34 (.newarray .int) 2 36 := ⟨by decide +kernel, rfl⟩
theorem dn_X2_36 : gh_at mi_X2_init 36 (.putfield 25) 3 39 := ⟨by decide +kernel, rfl⟩
theorem dn_X2_39 : gh_at mi_X2_init 39 (.aload_n 0) 1 40 := ⟨by decide +kernel, rfl⟩
theorem dn_X2_40 : gh_at mi_X2_init 40 (.bipush 6) 2 42 := ⟨by decide +kernel, rfl⟩
theorem dn_X2_42 : gh_at mi_X2_init 42 (.newarray .int) 2 44 := ⟨by decide +kernel, rfl⟩
theorem dn_X2_44 : gh_at mi_X2_init 44 (.putfield 28) 3 47 := ⟨by decide +kernel, rfl⟩
theorem dn_X2_47 : gh_at mi_X2_init 47 (.aload_n 0) 1 48 := ⟨by decide +kernel, rfl⟩
theorem dn_X2_48 : gh_at mi_X2_init 48 (.bipush 32) 2 50 := ⟨by decide +kernel, rfl⟩
theorem dn_X2_50 : gh_at mi_X2_init 50 (.newarray .int) 2 52 := ⟨by decide +kernel, rfl⟩
theorem dn_X2_52 : gh_at mi_X2_init 52 (.putfield 31) 3 55 := ⟨by decide +kernel, rfl⟩
theorem dn_X2_55 : gh_at mi_X2_init 55 (.return_) 1 56 := ⟨by decide +kernel, rfl⟩
theorem dn_X0_15 : gh_at mi_X0_init 15 (.iload_n 1) 1 16 := ⟨by decide +kernel, rfl⟩
theorem dn_X0_16 : gh_at mi_X0_init 16 (.bipush 24) 2 18 := ⟨by decide +kernel, rfl⟩
theorem dn_X0_18 : gh_at mi_X0_init 18 (.if_icmp .ge 22) 3 21 := ⟨by decide +kernel, rfl⟩
theorem dn_X0_40 : gh_at mi_X0_init 40 (.return_) 1 41 := ⟨by decide +kernel, rfl⟩
theorem dn_X0_21 : gh_at mi_X0_init 21 (.aload_n 0) 1 22 := ⟨by decide +kernel, rfl⟩
theorem dn_X0_22 : gh_at mi_X0_init 22 (.getfield 11) 3 25 := ⟨by decide +kernel, rfl⟩
theorem dn_X0_25 : gh_at mi_X0_init 25 (.iload_n 1) 1 26 := ⟨by decide +kernel, rfl⟩
theorem dn_X0_26 : gh_at mi_X0_init 26 (.new 9) 3 29 := ⟨by decide +kernel, rfl⟩
theorem dn_X0_29 : gh_at mi_X0_init 29 (.dup) 1 30 := ⟨by decide +kernel, rfl⟩
theorem dn_X0_30 : gh_at mi_X0_init 30 (.invokespecial 17) 3 33 := ⟨by decide +kernel, rfl⟩
theorem dn_X0_33 : gh_at mi_X0_init 33 (.aastore) 1 34 := ⟨by decide +kernel, rfl⟩
theorem dn_X0_34 : gh_at mi_X0_init 34 (.iinc 1 1) 3 37 := ⟨by decide +kernel, rfl⟩
theorem dn_X0_37 : gh_at mi_X0_init 37 (.goto (-22)) 3 40 := ⟨by decide +kernel, rfl⟩
theorem dn_X0_0 : gh_at mi_X0_init 0 (.aload_n 0) 1 1 := ⟨by decide +kernel, rfl⟩
theorem dn_X0_1 : gh_at mi_X0_init 1 (.invokespecial 3) 3 4 := ⟨by decide +kernel, rfl⟩
theorem dn_X0_4 : gh_at mi_X0_init 4 (.aload_n 0) 1 5 := ⟨by decide +kernel, rfl⟩
theorem dn_X0_5 : gh_at mi_X0_init 5 (.bipush 24) 2 7 := ⟨by decide +kernel, rfl⟩
theorem dn_X0_7 : gh_at mi_X0_init 7 (.anewarray 9) 3 10 := ⟨by decide +kernel, rfl⟩
theorem dn_X0_10 : gh_at mi_X0_init 10 (.putfield 11) 3 13 := ⟨by decide +kernel, rfl⟩
theorem dn_X0_13 : gh_at mi_X0_init 13 (.iconst 0) 1 14 := ⟨by decide +kernel, rfl⟩
theorem dn_X0_14 : gh_at mi_X0_init 14 (.istore_n 1) 1 15 := ⟨by decide +kernel, rfl⟩
theorem dn_X7_104 : gh_at mi_X7_init 104 (.iload_n 1) 1 105 := ⟨by decide +kernel, rfl⟩
theorem dn_X7_105 : gh_at mi_X7_init 105 (.bipush 8) 2 107 := ⟨by decide +kernel, rfl⟩
theorem dn_X7_107 : gh_at mi_X7_init 107 (.if_icmp .ge 16) 3 110 := ⟨by decide +kernel, rfl⟩
theorem dn_X7_123 : gh_at mi_X7_init 123 (.return_) 1 124 := ⟨by decide +kernel, rfl⟩
theorem dn_X7_110 : gh_at mi_X7_init 110 (.aload_n 0) 1 111 := ⟨by decide +kernel, rfl⟩
theorem dn_X7_111 : gh_at mi_X7_init 111 (.getfield 31) 3 114 := ⟨by decide +kernel, rfl⟩
theorem dn_X7_114 : gh_at mi_X7_init 114 (.iload_n 1) 1 115 := ⟨by decide +kernel, rfl⟩
theorem dn_X7_115 : gh_at mi_X7_init 115 (.iconst (-1)) 1 116 := ⟨by decide +kernel, rfl⟩
theorem dn_X7_116 : gh_at mi_X7_init 116 (.iastore) 1 117 := ⟨by decide +kernel, rfl⟩
theorem dn_X7_117 : gh_at mi_X7_init 117 (.iinc 1 1) 3 120 := ⟨by decide +kernel, rfl⟩
theorem dn_X7_120 : gh_at mi_X7_init 120 (.goto (-16)) 3 123 := ⟨by decide +kernel, rfl⟩
theorem dn_X7_0 : gh_at mi_X7_init 0 (.aload_n 0) 1 1 := ⟨by decide +kernel, rfl⟩
theorem dn_X7_1 : gh_at mi_X7_init 1 (.invokespecial 1) 3 4 := ⟨by decide +kernel, rfl⟩
theorem dn_X7_4 : gh_at mi_X7_init 4 (.aload_n 0) 1 5 := ⟨by decide +kernel, rfl⟩
theorem dn_X7_5 : gh_at mi_X7_init 5 (.sipush 1988) 3 8 := ⟨by decide +kernel, rfl⟩
theorem dn_X7_8 : gh_at mi_X7_init 8 (.newarray .int) 2 10 := ⟨by decide +kernel, rfl⟩
theorem dn_X7_10 : gh_at mi_X7_init 10 (.putfield 7) 3 13 := ⟨by decide +kernel, rfl⟩
theorem dn_X7_13 : gh_at mi_X7_init 13 (.aload_n 0) 1 14 := ⟨by decide +kernel, rfl⟩
theorem dn_X7_14 : gh_at mi_X7_init 14 (.bipush 6) 2 16 := ⟨by decide +kernel, rfl⟩
theorem dn_X7_16 : gh_at mi_X7_init 16 (.newarray .int) 2 18 := ⟨by decide +kernel, rfl⟩
theorem dn_X7_18 : gh_at mi_X7_init 18 (.putfield 13) 3 21 := ⟨by decide +kernel, rfl⟩
theorem dn_X7_21 : gh_at mi_X7_init 21 (.aload_n 0) 1 22 := ⟨by decide +kernel, rfl⟩
theorem dn_X7_22 : gh_at mi_X7_init 22 (.bipush 6) 2 24 := ⟨by decide +kernel, rfl⟩
theorem dn_X7_24 : gh_at mi_X7_init 24 (.newarray .int) 2 26 := ⟨by decide +kernel, rfl⟩
theorem dn_X7_26 : gh_at mi_X7_init 26 (.putfield 16) 3 29 := ⟨by decide +kernel, rfl⟩
theorem dn_X7_29 : gh_at mi_X7_init 29 (.aload_n 0) 1 30 := ⟨by decide +kernel, rfl⟩
theorem dn_X7_30 : gh_at mi_X7_init 30 (.bipush 6) 2 32 := ⟨by decide +kernel, rfl⟩
theorem dn_X7_32 : gh_at mi_X7_init 32 (.newarray .int) 2 34 := ⟨by decide +kernel, rfl⟩
theorem dn_X7_34 : gh_at mi_X7_init 34 (.putfield 19) 3 37 := ⟨by decide +kernel, rfl⟩
theorem dn_X7_37 : gh_at mi_X7_init 37 (.aload_n 0) 1 38 := ⟨by decide +kernel, rfl⟩
theorem dn_X7_38 : gh_at mi_X7_init 38 (.bipush 100) 2 40 := ⟨by decide +kernel, rfl⟩
theorem dn_X7_40 : gh_at mi_X7_init 40 (.newarray .int) 2 42 := ⟨by decide +kernel, rfl⟩
theorem dn_X7_42 : gh_at mi_X7_init 42 (.putfield 22) 3 45 := ⟨by decide +kernel, rfl⟩
theorem dn_X7_45 : gh_at mi_X7_init 45 (.aload_n 0) 1 46 := ⟨by decide +kernel, rfl⟩
theorem dn_X7_46 : gh_at mi_X7_init 46 (.sipush 320) 3 49 := ⟨by decide +kernel, rfl⟩
theorem dn_X7_49 : gh_at mi_X7_init 49 (.newarray .int) 2 51 := ⟨by decide +kernel, rfl⟩
theorem dn_X7_51 : gh_at mi_X7_init 51 (.putfield 25) 3 54 := ⟨by decide +kernel, rfl⟩
theorem dn_X7_54 : gh_at mi_X7_init 54 (.aload_n 0) 1 55 := ⟨by decide +kernel, rfl⟩
theorem dn_X7_55 : gh_at mi_X7_init 55 (.bipush 8) 2 57 := ⟨by decide +kernel, rfl⟩
theorem dn_X7_57 : gh_at mi_X7_init 57 (.newarray .int) 2 59 := ⟨by decide +kernel, rfl⟩
theorem dn_X7_59 : gh_at mi_X7_init 59 (.putfield 28) 3 62 := ⟨by decide +kernel, rfl⟩
theorem dn_X7_62 : gh_at mi_X7_init 62 (.aload_n 0) 1 63 := ⟨by decide +kernel, rfl⟩
theorem dn_X7_63 : gh_at mi_X7_init 63 (.bipush 8) 2 65 := ⟨by decide +kernel, rfl⟩
theorem dn_X7_65 : gh_at mi_X7_init 65 (.newarray .int) 2 67 := ⟨by decide +kernel, rfl⟩
theorem dn_X7_67 : gh_at mi_X7_init 67 (.putfield 31) 3 70 := ⟨by decide +kernel, rfl⟩
theorem dn_X7_70 : gh_at mi_X7_init 70 (.aload_n 0) 1 71 := ⟨by decide +kernel, rfl⟩
theorem dn_X7_71 : gh_at mi_X7_init 71 (.bipush 16) 2 73 := ⟨by decide +kernel, rfl⟩
theorem dn_X7_73 : gh_at mi_X7_init 73 (.newarray .int) 2 75 := ⟨by decide +kernel, rfl⟩
theorem dn_X7_75 : gh_at mi_X7_init 75 (.putfield 34) 3 78 := ⟨by decide +kernel, rfl⟩
theorem dn_X7_78 : gh_at mi_X7_init 78 (.aload_n 0) 1 79 := ⟨by decide +kernel, rfl⟩
theorem dn_X7_79 : gh_at mi_X7_init 79 (.bipush 6) 2 81 := ⟨by decide +kernel, rfl⟩
theorem dn_X7_81 : gh_at mi_X7_init 81 (.newarray .int) 2 83 := ⟨by decide +kernel, rfl⟩
theorem dn_X7_83 : gh_at mi_X7_init 83 (.putfield 37) 3 86 := ⟨by decide +kernel, rfl⟩
theorem dn_X7_86 : gh_at mi_X7_init 86 (.aload_n 0) 1 87 := ⟨by decide +kernel, rfl⟩
theorem dn_X7_87 : gh_at mi_X7_init 87 (.bipush 32) 2 89 := ⟨by decide +kernel, rfl⟩
theorem dn_X7_89 : gh_at mi_X7_init 89 (.newarray .int) 2 91 := ⟨by decide +kernel, rfl⟩
theorem dn_X7_91 : gh_at mi_X7_init 91 (.putfield 40) 3 94 := ⟨by decide +kernel, rfl⟩
theorem dn_X7_94 : gh_at mi_X7_init 94 (.aload_n 0) 1 95 := ⟨by decide +kernel, rfl⟩
theorem dn_X7_95 : gh_at mi_X7_init 95 (.bipush 32) 2 97 := ⟨by decide +kernel, rfl⟩
theorem dn_X7_97 : gh_at mi_X7_init 97 (.newarray .int) 2 99 := ⟨by decide +kernel, rfl⟩
theorem dn_X7_99 : gh_at mi_X7_init 99 (.putfield 43) 3 102 := ⟨by decide +kernel, rfl⟩
theorem dn_X7_102 : gh_at mi_X7_init 102 (.iconst 0) 1 103 := ⟨by decide +kernel, rfl⟩
theorem dn_X7_103 : gh_at mi_X7_init 103 (.istore_n 1) 1 104 := ⟨by decide +kernel, rfl⟩
theorem dn_X6_116 : gh_at mi_X6_init 116 (.iload_n 1) 1 117 := ⟨by decide +kernel, rfl⟩
theorem dn_X6_117 : gh_at mi_X6_init 117 (.iconst 2) 1 118 := ⟨by decide +kernel, rfl⟩
theorem dn_X6_118 : gh_at mi_X6_init 118 (.if_icmp .ge 22) 3 121 := ⟨by decide +kernel, rfl⟩
theorem dn_X6_140 : gh_at mi_X6_init 140 (.return_) 1 141 := ⟨by decide +kernel, rfl⟩
theorem dn_X6_121 : gh_at mi_X6_init 121 (.aload_n 0) 1 122 := ⟨by decide +kernel, rfl⟩
theorem dn_X6_122 : gh_at mi_X6_init 122 (.getfield 39) 3 125 := ⟨by decide +kernel, rfl⟩
theorem dn_X6_125 : gh_at mi_X6_init 125 (.iload_n 1) 1 126 := ⟨by decide +kernel, rfl⟩
theorem dn_X6_126 : gh_at mi_X6_init 126 (.new 22) 3 129 := ⟨by decide +kernel, rfl⟩
theorem dn_X6_129 : gh_at mi_X6_init 129 (.dup) 1 130 := ⟨by decide +kernel, rfl⟩
theorem dn_X6_130 : gh_at mi_X6_init 130 (.invokespecial 24) 3 133 := ⟨by decide +kernel, rfl⟩
theorem dn_X6_133 : gh_at mi_X6_init 133 (.aastore) 1 134 := ⟨by decide +kernel, rfl⟩
theorem dn_X6_134 : gh_at mi_X6_init 134 (.iinc 1 1) 3 137 := ⟨by decide +kernel, rfl⟩
theorem dn_X6_137 : gh_at mi_X6_init 137 (.goto (-21)) 3 140 := ⟨by decide +kernel, rfl⟩
theorem dn_X6_89 : gh_at mi_X6_init 89 (.iload_n 1) 1 90 := ⟨by decide +kernel, rfl⟩
theorem dn_X6_90 : gh_at mi_X6_init 90 (.bipush 8) 2 92 := ⟨by decide +kernel, rfl⟩
theorem dn_X6_92 : gh_at mi_X6_init 92 (.if_icmp .ge 22) 3 95 := ⟨by decide +kernel, rfl⟩
theorem dn_X6_114 : gh_at mi_X6_init 114 (.iconst 0) 1 115 := ⟨by decide +kernel, rfl⟩
theorem dn_X6_115 : gh_at mi_X6_init 115 (.istore_n 1) 1 116 := ⟨by decide +kernel, rfl⟩
theorem dn_X6_95 : gh_at mi_X6_init 95 (.aload_n 0) 1 96 := ⟨by decide +kernel, rfl⟩
theorem dn_X6_96 : gh_at mi_X6_init 96 (.getfield 11) 3 99 := ⟨by decide +kernel, rfl⟩
theorem dn_X6_99 : gh_at mi_X6_init 99 (.iload_n 1) 1 100 := ⟨by decide +kernel, rfl⟩
theorem dn_X6_100 : gh_at mi_X6_init 100 (.new 9) 3 103 := ⟨by decide +kernel, rfl⟩
theorem dn_X6_103 : gh_at mi_X6_init 103 (.dup) 1 104 := ⟨by decide +kernel, rfl⟩
theorem dn_X6_104 : gh_at mi_X6_init 104 (.invokespecial 57) 3 107 := ⟨by decide +kernel, rfl⟩
theorem dn_X6_107 : gh_at mi_X6_init 107 (.aastore) 1 108 := ⟨by decide +kernel, rfl⟩
theorem dn_X6_108 : gh_at mi_X6_init 108 (.iinc 1 1) 3 111 := ⟨by decide +kernel, rfl⟩
theorem dn_X6_111 : gh_at mi_X6_init 111 (.goto (-22)) 3 114 := ⟨by decide +kernel, rfl⟩
theorem dn_X6_0 : gh_at mi_X6_init 0 (.aload_n 0) 1 1 := ⟨by decide +kernel, rfl⟩
theorem dn_X6_1 : gh_at mi_X6_init 1 (.invokespecial 1) 3 4 := ⟨by decide +kernel, rfl⟩
theorem dn_X6_4 : gh_at mi_X6_init 4 (.aload_n 0) 1 5 := ⟨by decide +kernel, rfl⟩
theorem dn_X6_5 : gh_at mi_X6_init 5 (.bipush 8) 2 7 := ⟨by decide +kernel, rfl⟩
theorem dn_X6_7 : gh_at mi_X6_init 7 (.anewarray 9) 3 10 := ⟨by decide +kernel, rfl⟩
theorem dn_X6_10 : gh_at mi_X6_init 10 (.putfield 11) 3 13 := ⟨by decide +kernel, rfl⟩
theorem dn_X6_13 : gh_at mi_X6_init 13 (.aload_n 0) 1 14 := ⟨by decide +kernel, rfl⟩
theorem dn_X6_14 : gh_at mi_X6_init 14 (.new 15) 3 17 := ⟨by decide +kernel, rfl⟩
theorem dn_X6_17 : gh_at mi_X6_init 17 (.dup) 1 18 := ⟨by decide +kernel, rfl⟩
theorem dn_X6_18 : gh_at mi_X6_init 18 (.invokespecial 17) 3 21 := ⟨by decide +kernel, rfl⟩
theorem dn_X6_21 : gh_at mi_X6_init 21 (.putfield 18) 3 24 := ⟨by decide +kernel, rfl⟩
theorem dn_X6_24 : gh_at mi_X6_init 24 (.aload_n 0) 1 25 := ⟨by decide +kernel, rfl⟩
theorem dn_X6_25 : gh_at mi_X6_init 25 (.new 22) 3 28 := ⟨by decide +kernel, rfl⟩
theorem dn_X6_28 : gh_at mi_X6_init 28 (.dup) 1 29 := ⟨by decide +kernel, rfl⟩
theorem dn_X6_29 : gh_at mi_X6_init 29 (.invokespecial 24) 3 32 := ⟨by decide +kernel, rfl⟩
theorem dn_X6_32 : gh_at mi_X6_init 32 (.putfield 25) 3 35 := ⟨by decide +kernel, rfl⟩
theorem dn_X6_35 : gh_at mi_X6_init 35 (.aload_n 0) 1 36 := ⟨by decide +kernel, rfl⟩
theorem dn_X6_36 : gh_at mi_X6_init 36 (.new 22) 3 39 := ⟨by decide +kernel, rfl⟩
theorem dn_X6_39 : gh_at mi_X6_init 39 (.dup) 1 40 := ⟨by decide +kernel, rfl⟩
theorem dn_X6_40 : gh_at mi_X6_init 40 (.invokespecial 24) 3 43 := ⟨by decide +kernel, rfl⟩
theorem dn_X6_43 : gh_at mi_X6_init 43 (.putfield 29) 3 46 := ⟨by decide +kernel, rfl⟩
theorem dn_X6_46 : gh_at mi_X6_init 46 (.aload_n 0) 1 47 := ⟨by decide +kernel, rfl⟩
theorem dn_X6_47 : gh_at mi_X6_init 47 (.new 32) 3 50 := ⟨by decide +kernel, rfl⟩
theorem dn_X6_50 : gh_at mi_X6_init 50 (.dup) 1 51 := ⟨by decide +kernel, rfl⟩
theorem dn_X6_51 : gh_at mi_X6_init 51 (.invokespecial 34) 3 54 := ⟨by decide +kernel, rfl⟩
theorem dn_X6_54 : gh_at mi_X6_init 54 (.putfield 35) 3 57 := ⟨by decide +kernel, rfl⟩
theorem dn_X6_57 : gh_at mi_X6_init 57 (.aload_n 0) 1 58 := ⟨by decide +kernel, rfl⟩
theorem dn_X6_58 : gh_at mi_X6_init 58 (.iconst 2) 1 59 := ⟨by decide +kernel, rfl⟩
theorem dn_X6_59 : gh_at mi_X6_init 59 (.anewarray 22) 3 62 := ⟨by decide +kernel, rfl⟩
theorem dn_X6_62 : gh_at mi_X6_init 62 (.putfield 39) 3 65 := ⟨by decide +kernel, rfl⟩
theorem dn_X6_65 : gh_at mi_X6_init 65 (.aload_n 0) 1 66 := ⟨by decide +kernel, rfl⟩
theorem dn_X6_66 : gh_at mi_X6_init 66 (.new 43) 3 69 := ⟨by decide +kernel, rfl⟩
theorem dn_X6_69 : gh_at mi_X6_init 69 (.dup) 1 70 := ⟨by decide +kernel, rfl⟩
theorem dn_X6_70 : gh_at mi_X6_init 70 (.invokespecial 45) 3 73 := ⟨by decide +kernel, rfl⟩
theorem dn_X6_73 : gh_at mi_X6_init 73 (.putfield 46) 3 76 := ⟨by decide +kernel, rfl⟩
theorem dn_X6_76 : gh_at mi_X6_init 76 (.aload_n 0) 1 77 := ⟨by decide +kernel, rfl⟩
theorem dn_X6_77 : gh_at mi_X6_init 77 (.new 50) 3 80 := ⟨by decide +kernel, rfl⟩
theorem dn_X6_80 : gh_at mi_X6_init 80 (.dup) 1 81 := ⟨by decide +kernel, rfl⟩
theorem dn_X6_81 : gh_at mi_X6_init 81 (.invokespecial 52) 3 84 := ⟨by decide +kernel, rfl⟩
theorem dn_X6_84 : gh_at mi_X6_init 84 (.putfield 53) 3 87 := ⟨by decide +kernel, rfl⟩
theorem dn_X6_87 : gh_at mi_X6_init 87 (.iconst 0) 1 88 := ⟨by decide +kernel, rfl⟩
theorem dn_X6_88 : gh_at mi_X6_init 88 (.istore_n 1) 1 89 := ⟨by decide +kernel, rfl⟩
set_option maxRecDepth 20000 in
theorem c_Train {t n v : Nat} (ht : t < 29) (hn : n = ordT t + 1) (hv : v = evT t) : gn_Calls 1 mi_X5_init 6 t n v gh_0 (n + 14) (v + 14) gh_0 := by
  subst hn hv
  refine gn_begin (by decide) rfl 0 rfl (fun wd x hE => ?_) (by omega)
  refine gn_aload_n dn_X5_0 rfl ?_
  refine gn_obj dn_X5_1 bw_52 bw_19 bw_20 (by omega) (by decide) ?_
  refine gn_aload_n dn_X5_4 rfl ?_
  refine gn_iconst dn_X5_5 (u := nI 5) (by decide) ?_
  refine gn_newa (k := 7) (t := t) (N := 5) (z := 0) (aty := .int) dn_X5_6 (by decide) ht rfl (Or.inl ⟨rfl, rfl⟩) bw_46 rfl (by decide) rfl (by rw [hE.2.1]; omega) (fun _ => rfl) ?_
  refine gn_putR (k := 6) (t := t) (j := 5) (z := (7, t)) (C := RX5) (T := TX5) (N := 19) dn_X5_8 rfl (by decide) bw_66 (by decide) ht rfl rfl (by show ordT t + 0 < _; omega) rfl rfl rfl rfl rfl ?_
  refine gn_aload_n dn_X5_11 rfl ?_
  refine gn_iconst dn_X5_12 (u := nI 5) (by decide) ?_
  refine gn_newa (k := 8) (t := t) (N := 5) (z := 0) (aty := .int) dn_X5_13 (by decide) ht rfl (Or.inl ⟨rfl, rfl⟩) bw_46 rfl (by decide) rfl (by rw [hE.2.1]; omega) (fun _ => rfl) ?_
  refine gn_putR (k := 6) (t := t) (j := 6) (z := (8, t)) (C := RX5) (T := TX5) (N := 19) dn_X5_15 rfl (by decide) bw_70 (by decide) ht rfl rfl (by show ordT t + 0 < _; omega) rfl rfl rfl rfl rfl ?_
  refine gn_aload_n dn_X5_18 rfl ?_
  refine gn_iconst dn_X5_19 (u := nI 5) (by decide) ?_
  refine gn_newa (k := 9) (t := t) (N := 5) (z := 0) (aty := .int) dn_X5_20 (by decide) ht rfl (Or.inl ⟨rfl, rfl⟩) bw_46 rfl (by decide) rfl (by rw [hE.2.1]; omega) (fun _ => rfl) ?_
  refine gn_putR (k := 6) (t := t) (j := 7) (z := (9, t)) (C := RX5) (T := TX5) (N := 19) dn_X5_22 rfl (by decide) bw_73 (by decide) ht rfl rfl (by show ordT t + 0 < _; omega) rfl rfl rfl rfl rfl ?_
  refine gn_aload_n dn_X5_25 rfl ?_
  refine gn_iconst dn_X5_26 (u := nI 5) (by decide) ?_
  refine gn_newa (k := 10) (t := t) (N := 5) (z := 1) (aty := .boolean) dn_X5_27 (by decide) ht rfl (Or.inr ⟨rfl, rfl⟩) bw_143 rfl (by decide) rfl (by rw [hE.2.1]; omega) (fun _ => rfl) ?_
  refine gn_putR (k := 6) (t := t) (j := 8) (z := (10, t)) (C := RX5) (T := TX5) (N := 19) dn_X5_29 rfl (by decide) bw_77 (by decide) ht rfl rfl (by show ordT t + 0 < _; omega) rfl rfl rfl rfl rfl ?_
  refine gn_aload_n dn_X5_32 rfl ?_
  refine gn_iconst dn_X5_33 (u := nI 5) (by decide) ?_
  refine gn_newa (k := 11) (t := t) (N := 5) (z := 0) (aty := .int) dn_X5_34 (by decide) ht rfl (Or.inl ⟨rfl, rfl⟩) bw_46 rfl (by decide) rfl (by rw [hE.2.1]; omega) (fun _ => rfl) ?_
  refine gn_putR (k := 6) (t := t) (j := 9) (z := (11, t)) (C := RX5) (T := TX5) (N := 19) dn_X5_36 rfl (by decide) bw_79 (by decide) ht rfl rfl (by show ordT t + 0 < _; omega) rfl rfl rfl rfl rfl ?_
  refine gn_aload_n dn_X5_39 rfl ?_
  refine gn_bipush dn_X5_40 (u := nI 6) (by decide) ?_
  refine gn_newa (k := 12) (t := t) (N := 6) (z := 0) (aty := .int) dn_X5_42 (by decide) ht rfl (Or.inl ⟨rfl, rfl⟩) bw_46 rfl (by decide) rfl (by rw [hE.2.1]; omega) (fun _ => rfl) ?_
  refine gn_putR (k := 6) (t := t) (j := 10) (z := (12, t)) (C := RX5) (T := TX5) (N := 19) dn_X5_44 rfl (by decide) bw_82 (by decide) ht rfl rfl (by show ordT t + 0 < _; omega) rfl rfl rfl rfl rfl ?_
  refine gn_aload_n dn_X5_47 rfl ?_
  refine gn_bipush dn_X5_48 (u := nI 6) (by decide) ?_
  refine gn_newa (k := 13) (t := t) (N := 6) (z := 0) (aty := .int) dn_X5_50 (by decide) ht rfl (Or.inl ⟨rfl, rfl⟩) bw_46 rfl (by decide) rfl (by rw [hE.2.1]; omega) (fun _ => rfl) ?_
  refine gn_putR (k := 6) (t := t) (j := 11) (z := (13, t)) (C := RX5) (T := TX5) (N := 19) dn_X5_52 rfl (by decide) bw_84 (by decide) ht rfl rfl (by show ordT t + 0 < _; omega) rfl rfl rfl rfl rfl ?_
  refine gn_aload_n dn_X5_55 rfl ?_
  refine gn_bipush dn_X5_56 (u := nI 6) (by decide) ?_
  refine gn_newa (k := 14) (t := t) (N := 6) (z := 0) (aty := .int) dn_X5_58 (by decide) ht rfl (Or.inl ⟨rfl, rfl⟩) bw_46 rfl (by decide) rfl (by rw [hE.2.1]; omega) (fun _ => rfl) ?_
  refine gn_putR (k := 6) (t := t) (j := 12) (z := (14, t)) (C := RX5) (T := TX5) (N := 19) dn_X5_60 rfl (by decide) bw_87 (by decide) ht rfl rfl (by show ordT t + 0 < _; omega) rfl rfl rfl rfl rfl ?_
  refine gn_aload_n dn_X5_63 rfl ?_
  refine gn_bipush dn_X5_64 (u := nI 6) (by decide) ?_
  refine gn_newa (k := 15) (t := t) (N := 6) (z := 0) (aty := .int) dn_X5_66 (by decide) ht rfl (Or.inl ⟨rfl, rfl⟩) bw_46 rfl (by decide) rfl (by rw [hE.2.1]; omega) (fun _ => rfl) ?_
  refine gn_putR (k := 6) (t := t) (j := 13) (z := (15, t)) (C := RX5) (T := TX5) (N := 19) dn_X5_68 rfl (by decide) bw_89 (by decide) ht rfl rfl (by show ordT t + 0 < _; omega) rfl rfl rfl rfl rfl ?_
  refine gn_aload_n dn_X5_71 rfl ?_
  refine gn_bipush dn_X5_72 (u := nI 6) (by decide) ?_
  refine gn_newa (k := 16) (t := t) (N := 6) (z := 0) (aty := .int) dn_X5_74 (by decide) ht rfl (Or.inl ⟨rfl, rfl⟩) bw_46 rfl (by decide) rfl (by rw [hE.2.1]; omega) (fun _ => rfl) ?_
  refine gn_putR (k := 6) (t := t) (j := 14) (z := (16, t)) (C := RX5) (T := TX5) (N := 19) dn_X5_76 rfl (by decide) bw_92 (by decide) ht rfl rfl (by show ordT t + 0 < _; omega) rfl rfl rfl rfl rfl ?_
  refine gn_aload_n dn_X5_79 rfl ?_
  refine gn_bipush dn_X5_80 (u := nI 6) (by decide) ?_
  refine gn_newa (k := 17) (t := t) (N := 6) (z := 0) (aty := .int) dn_X5_82 (by decide) ht rfl (Or.inl ⟨rfl, rfl⟩) bw_46 rfl (by decide) rfl (by rw [hE.2.1]; omega) (fun _ => rfl) ?_
  refine gn_putR (k := 6) (t := t) (j := 15) (z := (17, t)) (C := RX5) (T := TX5) (N := 19) dn_X5_84 rfl (by decide) bw_95 (by decide) ht rfl rfl (by show ordT t + 0 < _; omega) rfl rfl rfl rfl rfl ?_
  refine gn_aload_n dn_X5_87 rfl ?_
  refine gn_bipush dn_X5_88 (u := nI 6) (by decide) ?_
  refine gn_newa (k := 18) (t := t) (N := 6) (z := 1) (aty := .boolean) dn_X5_90 (by decide) ht rfl (Or.inr ⟨rfl, rfl⟩) bw_143 rfl (by decide) rfl (by rw [hE.2.1]; omega) (fun _ => rfl) ?_
  refine gn_putR (k := 6) (t := t) (j := 16) (z := (18, t)) (C := RX5) (T := TX5) (N := 19) dn_X5_92 rfl (by decide) bw_98 (by decide) ht rfl rfl (by show ordT t + 0 < _; omega) rfl rfl rfl rfl rfl ?_
  refine gn_aload_n dn_X5_95 rfl ?_
  refine gn_bipush dn_X5_96 (u := nI 6) (by decide) ?_
  refine gn_newa (k := 19) (t := t) (N := 6) (z := 0) (aty := .int) dn_X5_98 (by decide) ht rfl (Or.inl ⟨rfl, rfl⟩) bw_46 rfl (by decide) rfl (by rw [hE.2.1]; omega) (fun _ => rfl) ?_
  refine gn_putR (k := 6) (t := t) (j := 17) (z := (19, t)) (C := RX5) (T := TX5) (N := 19) dn_X5_100 rfl (by decide) bw_100 (by decide) ht rfl rfl (by show ordT t + 0 < _; omega) rfl rfl rfl rfl rfl ?_
  refine gn_aload_n dn_X5_103 rfl ?_
  refine gn_bipush dn_X5_104 (u := nI 12) (by decide) ?_
  refine gn_newa (k := 20) (t := t) (N := 12) (z := 0) (aty := .int) dn_X5_106 (by decide) ht rfl (Or.inl ⟨rfl, rfl⟩) bw_46 rfl (by decide) rfl (by rw [hE.2.1]; omega) (fun _ => rfl) ?_
  refine gn_putR (k := 6) (t := t) (j := 18) (z := (20, t)) (C := RX5) (T := TX5) (N := 19) dn_X5_108 rfl (by decide) bw_102 (by decide) ht rfl rfl (by show ordT t + 0 < _; omega) rfl rfl rfl rfl rfl ?_
  exact gn_vret dn_X5_111 hE rfl
theorem c_Row {t n v : Nat} (ht : t < 8) (hn : n = 421 + 2 * t) (hv : v = 419 + 2 * t) : gn_Calls 1 mi_X3_init 2 t n v gh_0 (n + 1) (v + 1) gh_0 := by
  subst hn hv
  refine gn_begin (by decide) rfl 0 rfl (fun wd x hE => ?_) (by omega)
  refine gn_aload_n dn_X3_0 rfl ?_
  refine gn_obj dn_X3_1 bw_221 bw_19 bw_20 (by omega) (by decide) ?_
  refine gn_aload_n dn_X3_4 rfl ?_
  refine gn_bipush dn_X3_5 (u := nI 40) (by decide) ?_
  refine gn_newa (k := 3) (t := t) (N := 40) (z := 0) (aty := .int) dn_X3_7 (by decide) ht rfl (Or.inl ⟨rfl, rfl⟩) bw_46 rfl (by decide) rfl (by rw [hE.2.1]; omega) (fun _ => rfl) ?_
  refine gn_putR (k := 2) (t := t) (j := 3) (z := (3, t)) (C := RX3) (T := TX3) (N := 4) dn_X3_9 rfl (by decide) bw_228 (by decide) ht rfl rfl (by show 420 + 2 * t < _; omega) (by show (if t < 8 then 419 + 2 * t else 0) = _; rw [if_pos ht]) rfl rfl rfl rfl ?_
  exact gn_vret dn_X3_12 hE rfl
theorem c_Tape : gn_Calls 1 mi_X4_init 4 0 3 1 gh_0 4 2 gh_0 := by
  refine gn_begin (by decide) rfl 0 rfl (fun wd x hE => ?_) (by omega)
  refine gn_aload_n dn_X4_0 rfl ?_
  refine gn_obj dn_X4_1 bw_28 bw_19 bw_20 (by omega) (by decide) ?_
  refine gn_aload_n dn_X4_4 rfl ?_
  refine gn_bipush dn_X4_5 (u := nI 100) (by decide) ?_
  refine gn_newa (k := 5) (t := 0) (N := 100) (z := 0) (aty := .int) dn_X4_7 (by decide) (by decide) rfl (Or.inl ⟨rfl, rfl⟩) bw_46 rfl (by decide) rfl (by rw [hE.2.1]; omega) (fun _ => rfl) ?_
  refine gn_putR (k := 4) (t := 0) (j := 0) (z := (5, 0)) (C := RX4) (T := TX4) (N := 4) dn_X4_9 rfl (by decide) bw_29 (by decide) (by decide) rfl rfl (by decide) rfl rfl rfl rfl rfl ?_
  exact gn_vret dn_X4_12 hE rfl
theorem c_Asker : gn_Calls 1 mi_X1_init 30 0 419 417 gh_0 420 418 gh_0 := by
  refine gn_begin (by decide) rfl 0 rfl (fun wd x hE => ?_) (by omega)
  refine gn_aload_n dn_X1_0 rfl ?_
  refine gn_obj dn_X1_1 bw_207 bw_19 bw_20 (by omega) (by decide) ?_
  refine gn_aload_n dn_X1_4 rfl ?_
  refine gn_bipush dn_X1_5 (u := nI 16) (by decide) ?_
  refine gn_newa (k := 31) (t := 0) (N := 16) (z := 0) (aty := .int) dn_X1_7 (by decide) (by decide) rfl (Or.inl ⟨rfl, rfl⟩) bw_46 rfl (by decide) rfl (by rw [hE.2.1]; omega) (fun _ => rfl) ?_
  refine gn_putR (k := 30) (t := 0) (j := 0) (z := (31, 0)) (C := RX1) (T := TX1) (N := 2) dn_X1_9 rfl (by decide) bw_208 (by decide) (by decide) rfl rfl (by decide) rfl rfl rfl rfl rfl ?_
  exact gn_vret dn_X1_12 hE rfl
theorem c_Fore : gn_Calls 2 mi_X2_init 24 0 398 396 gh_0 418 416 gh_0 := by
  refine gn_begin (by decide) rfl 0 rfl (fun wd x hE => ?_) (by omega)
  refine gn_aload_n dn_X2_0 rfl ?_
  refine gn_obj dn_X2_1 bw_169 bw_19 bw_20 (by omega) (by decide) ?_
  refine gn_aload_n dn_X2_4 rfl ?_
  refine gn_new (k := 6) (t := 28) (C := RX5) (T := TX5) (N := 19) dn_X2_5 (by decide) (by decide) rfl rfl bw_170 bw_48 bw_3 (by decide) rfl (df_X5 _) rfl (by rw [hE.2.1]; omega) (fr_X5 (by decide)) (fun _ => rfl) ?_
  refine gn_dup dn_X2_8 ?_
  refine gn_call (mi' := mi_X5_init) dn_X2_9 (Or.inr ⟨"GhostTrain", bw_171⟩) ok_X5_init (by decide) (Nat.le_of_ble_eq_true rfl) (by omega) (by rw [hE.2.1]; omega) (c_Train (t := 28) (by decide) rfl rfl) ?_
  refine gn_putR (k := 24) (t := 0) (j := 0) (z := (6, 28)) (C := RX2) (T := TX2) (N := 9) dn_X2_12 rfl (by decide) bw_172 (by decide) (by decide) rfl rfl (by decide) rfl rfl rfl rfl rfl ?_
  refine gn_aload_n dn_X2_15 rfl ?_
  refine gn_bipush dn_X2_16 (u := nI 12) (by decide) ?_
  refine gn_newa (k := 25) (t := 0) (N := 12) (z := 0) (aty := .int) dn_X2_18 (by decide) (by decide) rfl (Or.inl ⟨rfl, rfl⟩) bw_46 rfl (by decide) rfl (by rw [hE.2.1]; omega) (fun _ => rfl) ?_
  refine gn_putR (k := 24) (t := 0) (j := 1) (z := (25, 0)) (C := RX2) (T := TX2) (N := 9) dn_X2_20 rfl (by decide) bw_173 (by decide) (by decide) rfl rfl (by decide) rfl rfl rfl rfl rfl ?_
  refine gn_aload_n dn_X2_23 rfl ?_
  refine gn_bipush dn_X2_24 (u := nI 6) (by decide) ?_
  refine gn_newa (k := 26) (t := 0) (N := 6) (z := 0) (aty := .int) dn_X2_26 (by decide) (by decide) rfl (Or.inl ⟨rfl, rfl⟩) bw_46 rfl (by decide) rfl (by rw [hE.2.1]; omega) (fun _ => rfl) ?_
  refine gn_putR (k := 24) (t := 0) (j := 3) (z := (26, 0)) (C := RX2) (T := TX2) (N := 9) dn_X2_28 rfl (by decide) bw_175 (by decide) (by decide) rfl rfl (by decide) rfl rfl rfl rfl rfl ?_
  refine gn_aload_n dn_X2_31 rfl ?_
  refine gn_bipush dn_X2_32 (u := nI 6) (by decide) ?_
  refine gn_newa (k := 27) (t := 0) (N := 6) (z := 0) (aty := .int) dn_X2_34 (by decide) (by decide) rfl (Or.inl ⟨rfl, rfl⟩) bw_46 rfl (by decide) rfl (by rw [hE.2.1]; omega) (fun _ => rfl) ?_
  refine gn_putR (k := 24) (t := 0) (j := 4) (z := (27, 0)) (C := RX2) (T := TX2) (N := 9) dn_X2_36 rfl (by decide) bw_177 (by decide) (by decide) rfl rfl (by decide) rfl rfl rfl rfl rfl ?_
  refine gn_aload_n dn_X2_39 rfl ?_
  refine gn_bipush dn_X2_40 (u := nI 6) (by decide) ?_
  refine gn_newa (k := 28) (t := 0) (N := 6) (z := 0) (aty := .int) dn_X2_42 (by decide) (by decide) rfl (Or.inl ⟨rfl, rfl⟩) bw_46 rfl (by decide) rfl (by rw [hE.2.1]; omega) (fun _ => rfl) ?_
  refine gn_putR (k := 24) (t := 0) (j := 5) (z := (28, 0)) (C := RX2) (T := TX2) (N := 9) dn_X2_44 rfl (by decide) bw_178 (by decide) (by decide) rfl rfl (by decide) rfl rfl rfl rfl rfl ?_
  refine gn_aload_n dn_X2_47 rfl ?_
  refine gn_bipush dn_X2_48 (u := nI 32) (by decide) ?_
  refine gn_newa (k := 29) (t := 0) (N := 32) (z := 0) (aty := .int) dn_X2_50 (by decide) (by decide) rfl (Or.inl ⟨rfl, rfl⟩) bw_46 rfl (by decide) rfl (by rw [hE.2.1]; omega) (fun _ => rfl) ?_
  refine gn_putR (k := 24) (t := 0) (j := 8) (z := (29, 0)) (C := RX2) (T := TX2) (N := 9) dn_X2_52 rfl (by decide) bw_182 (by decide) (by decide) rfl rfl (by decide) rfl rfl rfl rfl rfl ?_
  exact gn_vret dn_X2_55 hE rfl
theorem c_Acts_l {wd : gh_Wd} {x : gh_X} (hE : gn_E wd 35 396 394 gh_0 x) : ∀ (r i n v : Nat), i + r = 24 → n = 36 + 15 * i → v = 34 + 15 * i → gn_J mi_X0_init 2 wd x n v gh_0 15 [some (vR 21 0), some (vI (nI i))] []
  | 0, i, n, v, hi, hn, hv => by
    have e : i = 24 := by omega
    subst e hn hv
    refine gn_iload_n dn_X0_15 rfl ?_
    refine gn_bipush dn_X0_16 (u := nI 24) (by decide) ?_
    refine gn_icmp_ge (tgt := 40) dn_X0_18 rfl (fun _ => ?_) (fun h => absurd (Int32.le_refl _) h)
    exact gn_vret dn_X0_40 hE rfl
  | r + 1, i, n, v, hi, hn, hv => by
    have hi24 : i < 24 := by omega
    obtain ⟨o1, o2⟩ := oT_a hi24
    refine gn_iload_n dn_X0_15 rfl ?_
    refine gn_bipush dn_X0_16 (u := nI 24) (by decide) ?_
    refine gn_icmp_ge (tgt := 40) dn_X0_18 rfl (fun h => absurd h (nI_ge hi24 (by omega))) (fun _ => ?_)
    refine gn_aload_n dn_X0_21 rfl ?_
    refine gn_getR (k := 21) (t := 0) (j := 0) (z := (22, 0)) dn_X0_22 ⟨RX0, TX0, 3, rfl, by decide, Or.inl bw_153⟩ (by decide) (by decide) rfl rfl (by show 34 < n; omega) (by show 33 < v; omega) ?_
    refine gn_iload_n dn_X0_25 rfl ?_
    refine gn_new (k := 6) (t := (2 + i)) (C := RX5) (T := TX5) (N := 19) dn_X0_26 (by decide) (by show 2 + i < 29; omega) rfl rfl bw_150 bw_48 bw_3 (by decide) rfl (df_X5 _) (by show ordT (2 + i) + 0 = _; omega) (by rw [hE.2.1]; omega) (fr_X5 (by omega)) (fun _ => rfl) ?_
    refine gn_dup dn_X0_29 ?_
    refine gn_call (mi' := mi_X5_init) dn_X0_30 (Or.inr ⟨"GhostTrain", bw_152⟩) ok_X5_init (by decide) (Nat.le_of_ble_eq_true rfl) (by omega) (by rw [hE.2.1]; omega) (c_Train (t := 2 + i) (by omega) (by omega) (by omega)) ?_
    refine gn_aast (k := 22) (t := 0) (c0 := 1) (N := 24) (j := i) (C := RX5) (T := TX5) (NN := 19) dn_X0_33 (by decide) (by decide) rfl rfl rfl rfl hi24 (by decide) (by show 35 < n + 1 + 14; omega) (Nat.le_of_ble_eq_true rfl) (by show 2 + i < 29; omega) rfl (by show ordT (2 + i) + 0 < _; omega) (by show evT (2 + i) + 14 = _; omega) ?_
    refine gn_iinc (u := nI (i + 1)) dn_X0_34 rfl (by rw [← nI_add]; rfl) (by decide) rfl rfl ?_
    refine gn_goto (tgt := 15) dn_X0_37 rfl ?_
    exact c_Acts_l hE r (i + 1) _ _ (by omega) (by omega) (by omega)
theorem c_Acts : gn_Calls 2 mi_X0_init 21 0 35 33 gh_0 396 394 gh_0 := by
  refine gn_begin (by decide) rfl 1 rfl (fun wd x hE => ?_) (by omega)
  refine gn_aload_n dn_X0_0 rfl ?_
  refine gn_obj dn_X0_1 bw_149 bw_19 bw_20 (by omega) (by decide) ?_
  refine gn_aload_n dn_X0_4 rfl ?_
  refine gn_bipush dn_X0_5 (u := nI 24) (by decide) ?_
  refine gn_anew (k := 22) (t := 0) (N := 24) (a := 1) (C := RX5) dn_X0_7 (by decide) (by decide) rfl bw_150 (fun U h => h.2.2.2) rfl rfl (by decide) rfl (by rw [hE.2.1]; omega) (fun j hj => by show 33 ≤ evT (2 + j) + 14; have := (oT_a hj).2; omega) ?_
  refine gn_putR (k := 21) (t := 0) (j := 0) (z := (22, 0)) (C := RX0) (T := TX0) (N := 3) dn_X0_10 rfl (by decide) bw_153 (by decide) (by decide) rfl rfl (by decide) rfl rfl rfl rfl rfl ?_
  refine gn_iconst dn_X0_13 (u := nI 0) (by decide) ?_
  refine gn_istore_n (L' := [some (vR 21 0), some (vI (nI 0))]) dn_X0_14 (by decide) rfl rfl ?_
  exact c_Acts_l hE 24 0 _ _ (by omega) (by omega) (by omega)
def mdM : Nat → gh_M
  | 0 => gh_0
  | i + 1 => gh_st (mdM i) 40 0 i (-1 : Int32)
theorem c_Model_l {wd : gh_Wd} {x : gh_X} (hE : gn_E wd 467 479 477 (mdM 8) x) : ∀ (r i : Nat), i + r = 8 → gn_J mi_X7_init 1 wd x 479 477 (mdM i) 104 [some (vR 32 0), some (vI (nI i))] []
  | 0, i, hi => by
    have e : i = 8 := by omega
    subst e
    refine gn_iload_n dn_X7_104 rfl ?_
    refine gn_bipush dn_X7_105 (u := nI 8) (by decide) ?_
    refine gn_icmp_ge (tgt := 123) dn_X7_107 rfl (fun _ => ?_) (fun h => absurd (Int32.le_refl _) h)
    exact gn_vret dn_X7_123 hE rfl
  | r + 1, i, hi => by
    have hi8 : i < 8 := by omega
    refine gn_iload_n dn_X7_104 rfl ?_
    refine gn_bipush dn_X7_105 (u := nI 8) (by decide) ?_
    refine gn_icmp_ge (tgt := 123) dn_X7_107 rfl (fun h => absurd h (nI_ge hi8 (by omega))) (fun _ => ?_)
    refine gn_aload_n dn_X7_110 rfl ?_
    refine gn_getR (k := 32) (t := 0) (j := 12) (z := (40, 0)) dn_X7_111 ⟨RX7, TX7, 22, rfl, by decide, Or.inl bw_833⟩ (by decide) (by decide) rfl rfl (by decide) (by decide) ?_
    refine gn_iload_n dn_X7_114 rfl ?_
    refine gn_iconst dn_X7_115 (u := (-1 : Int32)) (by decide) ?_
    refine gn_iast (k := 40) (t := 0) (N := 8) (j := i) dn_X7_116 (by decide) (by decide) rfl rfl hi8 (by decide) (by decide) ?_
    refine gn_iinc (u := nI (i + 1)) dn_X7_117 rfl (by rw [← nI_add]; rfl) (by decide) rfl rfl ?_
    refine gn_goto (tgt := 104) dn_X7_120 rfl ?_
    exact c_Model_l hE r (i + 1) (by omega)
set_option maxRecDepth 20000 in
theorem c_Model : gn_Calls 1 mi_X7_init 32 0 467 465 gh_0 479 477 (mdM 8) := by
  refine gn_begin (by decide) rfl 1 rfl (fun wd x hE => ?_) (by omega)
  refine gn_aload_n dn_X7_0 rfl ?_
  refine gn_obj dn_X7_1 bw_820 bw_19 bw_20 (by omega) (by decide) ?_
  refine gn_aload_n dn_X7_4 rfl ?_
  refine gn_sipush dn_X7_5 (u := nI 1988) (by decide) ?_
  refine gn_newa (k := 33) (t := 0) (N := 1988) (z := 0) (aty := .int) dn_X7_8 (by decide) (by decide) rfl (Or.inl ⟨rfl, rfl⟩) bw_46 rfl (by decide) rfl (by rw [hE.2.1]; omega) (fun _ => rfl) ?_
  refine gn_putR (k := 32) (t := 0) (j := 0) (z := (33, 0)) (C := RX7) (T := TX7) (N := 22) dn_X7_10 rfl (by decide) bw_821 (by decide) (by decide) rfl rfl (by decide) rfl rfl rfl rfl rfl ?_
  refine gn_aload_n dn_X7_13 rfl ?_
  refine gn_bipush dn_X7_14 (u := nI 6) (by decide) ?_
  refine gn_newa (k := 34) (t := 0) (N := 6) (z := 0) (aty := .int) dn_X7_16 (by decide) (by decide) rfl (Or.inl ⟨rfl, rfl⟩) bw_46 rfl (by decide) rfl (by rw [hE.2.1]; omega) (fun _ => rfl) ?_
  refine gn_putR (k := 32) (t := 0) (j := 3) (z := (34, 0)) (C := RX7) (T := TX7) (N := 22) dn_X7_18 rfl (by decide) bw_824 (by decide) (by decide) rfl rfl (by decide) rfl rfl rfl rfl rfl ?_
  refine gn_aload_n dn_X7_21 rfl ?_
  refine gn_bipush dn_X7_22 (u := nI 6) (by decide) ?_
  refine gn_newa (k := 35) (t := 0) (N := 6) (z := 0) (aty := .int) dn_X7_24 (by decide) (by decide) rfl (Or.inl ⟨rfl, rfl⟩) bw_46 rfl (by decide) rfl (by rw [hE.2.1]; omega) (fun _ => rfl) ?_
  refine gn_putR (k := 32) (t := 0) (j := 4) (z := (35, 0)) (C := RX7) (T := TX7) (N := 22) dn_X7_26 rfl (by decide) bw_825 (by decide) (by decide) rfl rfl (by decide) rfl rfl rfl rfl rfl ?_
  refine gn_aload_n dn_X7_29 rfl ?_
  refine gn_bipush dn_X7_30 (u := nI 6) (by decide) ?_
  refine gn_newa (k := 36) (t := 0) (N := 6) (z := 0) (aty := .int) dn_X7_32 (by decide) (by decide) rfl (Or.inl ⟨rfl, rfl⟩) bw_46 rfl (by decide) rfl (by rw [hE.2.1]; omega) (fun _ => rfl) ?_
  refine gn_putR (k := 32) (t := 0) (j := 6) (z := (36, 0)) (C := RX7) (T := TX7) (N := 22) dn_X7_34 rfl (by decide) bw_827 (by decide) (by decide) rfl rfl (by decide) rfl rfl rfl rfl rfl ?_
  refine gn_aload_n dn_X7_37 rfl ?_
  refine gn_bipush dn_X7_38 (u := nI 100) (by decide) ?_
  refine gn_newa (k := 37) (t := 0) (N := 100) (z := 0) (aty := .int) dn_X7_40 (by decide) (by decide) rfl (Or.inl ⟨rfl, rfl⟩) bw_46 rfl (by decide) rfl (by rw [hE.2.1]; omega) (fun _ => rfl) ?_
  refine gn_putR (k := 32) (t := 0) (j := 7) (z := (37, 0)) (C := RX7) (T := TX7) (N := 22) dn_X7_42 rfl (by decide) bw_828 (by decide) (by decide) rfl rfl (by decide) rfl rfl rfl rfl rfl ?_
  refine gn_aload_n dn_X7_45 rfl ?_
  refine gn_sipush dn_X7_46 (u := nI 320) (by decide) ?_
  refine gn_newa (k := 38) (t := 0) (N := 320) (z := 0) (aty := .int) dn_X7_49 (by decide) (by decide) rfl (Or.inl ⟨rfl, rfl⟩) bw_46 rfl (by decide) rfl (by rw [hE.2.1]; omega) (fun _ => rfl) ?_
  refine gn_putR (k := 32) (t := 0) (j := 10) (z := (38, 0)) (C := RX7) (T := TX7) (N := 22) dn_X7_51 rfl (by decide) bw_831 (by decide) (by decide) rfl rfl (by decide) rfl rfl rfl rfl rfl ?_
  refine gn_aload_n dn_X7_54 rfl ?_
  refine gn_bipush dn_X7_55 (u := nI 8) (by decide) ?_
  refine gn_newa (k := 39) (t := 0) (N := 8) (z := 0) (aty := .int) dn_X7_57 (by decide) (by decide) rfl (Or.inl ⟨rfl, rfl⟩) bw_46 rfl (by decide) rfl (by rw [hE.2.1]; omega) (fun _ => rfl) ?_
  refine gn_putR (k := 32) (t := 0) (j := 11) (z := (39, 0)) (C := RX7) (T := TX7) (N := 22) dn_X7_59 rfl (by decide) bw_832 (by decide) (by decide) rfl rfl (by decide) rfl rfl rfl rfl rfl ?_
  refine gn_aload_n dn_X7_62 rfl ?_
  refine gn_bipush dn_X7_63 (u := nI 8) (by decide) ?_
  refine gn_newa (k := 40) (t := 0) (N := 8) (z := 0) (aty := .int) dn_X7_65 (by decide) (by decide) rfl (Or.inl ⟨rfl, rfl⟩) bw_46 rfl (by decide) rfl (by rw [hE.2.1]; omega) (fun _ => rfl) ?_
  refine gn_putR (k := 32) (t := 0) (j := 12) (z := (40, 0)) (C := RX7) (T := TX7) (N := 22) dn_X7_67 rfl (by decide) bw_833 (by decide) (by decide) rfl rfl (by decide) rfl rfl rfl rfl rfl ?_
  refine gn_aload_n dn_X7_70 rfl ?_
  refine gn_bipush dn_X7_71 (u := nI 16) (by decide) ?_
  refine gn_newa (k := 41) (t := 0) (N := 16) (z := 0) (aty := .int) dn_X7_73 (by decide) (by decide) rfl (Or.inl ⟨rfl, rfl⟩) bw_46 rfl (by decide) rfl (by rw [hE.2.1]; omega) (fun _ => rfl) ?_
  refine gn_putR (k := 32) (t := 0) (j := 14) (z := (41, 0)) (C := RX7) (T := TX7) (N := 22) dn_X7_75 rfl (by decide) bw_835 (by decide) (by decide) rfl rfl (by decide) rfl rfl rfl rfl rfl ?_
  refine gn_aload_n dn_X7_78 rfl ?_
  refine gn_bipush dn_X7_79 (u := nI 6) (by decide) ?_
  refine gn_newa (k := 42) (t := 0) (N := 6) (z := 0) (aty := .int) dn_X7_81 (by decide) (by decide) rfl (Or.inl ⟨rfl, rfl⟩) bw_46 rfl (by decide) rfl (by rw [hE.2.1]; omega) (fun _ => rfl) ?_
  refine gn_putR (k := 32) (t := 0) (j := 19) (z := (42, 0)) (C := RX7) (T := TX7) (N := 22) dn_X7_83 rfl (by decide) bw_840 (by decide) (by decide) rfl rfl (by decide) rfl rfl rfl rfl rfl ?_
  refine gn_aload_n dn_X7_86 rfl ?_
  refine gn_bipush dn_X7_87 (u := nI 32) (by decide) ?_
  refine gn_newa (k := 43) (t := 0) (N := 32) (z := 0) (aty := .int) dn_X7_89 (by decide) (by decide) rfl (Or.inl ⟨rfl, rfl⟩) bw_46 rfl (by decide) rfl (by rw [hE.2.1]; omega) (fun _ => rfl) ?_
  refine gn_putR (k := 32) (t := 0) (j := 20) (z := (43, 0)) (C := RX7) (T := TX7) (N := 22) dn_X7_91 rfl (by decide) bw_841 (by decide) (by decide) rfl rfl (by decide) rfl rfl rfl rfl rfl ?_
  refine gn_aload_n dn_X7_94 rfl ?_
  refine gn_bipush dn_X7_95 (u := nI 32) (by decide) ?_
  refine gn_newa (k := 44) (t := 0) (N := 32) (z := 0) (aty := .int) dn_X7_97 (by decide) (by decide) rfl (Or.inl ⟨rfl, rfl⟩) bw_46 rfl (by decide) rfl (by rw [hE.2.1]; omega) (fun _ => rfl) ?_
  refine gn_putR (k := 32) (t := 0) (j := 21) (z := (44, 0)) (C := RX7) (T := TX7) (N := 22) dn_X7_99 rfl (by decide) bw_842 (by decide) (by decide) rfl rfl (by decide) rfl rfl rfl rfl rfl ?_
  refine gn_iconst dn_X7_102 (u := nI 0) (by decide) ?_
  refine gn_istore_n (L' := [some (vR 32 0), some (vI (nI 0))]) dn_X7_103 (by decide) rfl rfl ?_
  exact c_Model_l hE 8 0 (by omega)
theorem c_Ghost_im {wd : gh_Wd} {x : gh_X} (hE : gn_E wd 1 466 465 gh_0 x) : ∀ (r i n v : Nat), i + r = 2 → n = 436 + 15 * i → v = 435 + 15 * i → gn_J mi_X6_init 3 wd x n v gh_0 116 [some (vR 0 0), some (vI (nI i))] []
  | 0, i, n, v, hi, hn, hv => by
    have e : i = 2 := by omega
    subst e hn hv
    refine gn_iload_n dn_X6_116 rfl ?_
    refine gn_iconst dn_X6_117 (u := nI 2) (by decide) ?_
    refine gn_icmp_ge (tgt := 140) dn_X6_118 rfl (fun _ => ?_) (fun h => absurd (Int32.le_refl _) h)
    exact gn_vret dn_X6_140 hE rfl
  | r + 1, i, n, v, hi, hn, hv => by
    have hi2 : i < 2 := by omega
    obtain ⟨o1, o2⟩ := oT_b hi2
    refine gn_iload_n dn_X6_116 rfl ?_
    refine gn_iconst dn_X6_117 (u := nI 2) (by decide) ?_
    refine gn_icmp_ge (tgt := 140) dn_X6_118 rfl (fun h => absurd h (nI_ge hi2 (by omega))) (fun _ => ?_)
    refine gn_aload_n dn_X6_121 rfl ?_
    refine gn_getR (k := 0) (t := 0) (j := 5) (z := (23, 0)) dn_X6_122 ⟨RX6, TX6, 10, rfl, by decide, Or.inl bw_245⟩ (by decide) (by decide) rfl rfl (by show 0 < n; omega) (by show 395 < v; omega) ?_
    refine gn_iload_n dn_X6_125 rfl ?_
    refine gn_new (k := 6) (t := (26 + i)) (C := RX5) (T := TX5) (N := 19) dn_X6_126 (by decide) (by show 26 + i < 29; omega) rfl rfl bw_47 bw_48 bw_3 (by decide) rfl (df_X5 _) (by show ordT (26 + i) + 0 = _; omega) (by rw [hE.2.1]; omega) (fr_X5 (by omega)) (fun _ => rfl) ?_
    refine gn_dup dn_X6_129 ?_
    refine gn_call (mi' := mi_X5_init) dn_X6_130 (Or.inr ⟨"GhostTrain", bw_49⟩) ok_X5_init (by decide) (Nat.le_of_ble_eq_true rfl) (by omega) (by rw [hE.2.1]; omega) (c_Train (t := 26 + i) (by omega) (by omega) (by omega)) ?_
    refine gn_aast (k := 23) (t := 0) (c0 := 1) (N := 2) (j := i) (C := RX5) (T := TX5) (NN := 19) dn_X6_133 (by decide) (by decide) rfl rfl rfl rfl hi2 (by decide) (by show 396 < n + 1 + 14; omega) (Nat.le_of_ble_eq_true rfl) (by show 26 + i < 29; omega) rfl (by show ordT (26 + i) + 0 < _; omega) (by show evT (26 + i) + 14 = _; omega) ?_
    refine gn_iinc (u := nI (i + 1)) dn_X6_134 rfl (by rw [← nI_add]; rfl) (by decide) rfl rfl ?_
    refine gn_goto (tgt := 116) dn_X6_137 rfl ?_
    exact c_Ghost_im hE r (i + 1) _ _ (by omega) (by omega) (by omega)
theorem c_Ghost_ro {wd : gh_Wd} {x : gh_X} (hE : gn_E wd 1 466 465 gh_0 x) : ∀ (r i n v : Nat), i + r = 8 → n = 420 + 2 * i → v = 419 + 2 * i → gn_J mi_X6_init 3 wd x n v gh_0 89 [some (vR 0 0), some (vI (nI i))] []
  | 0, i, n, v, hi, hn, hv => by
    have e : i = 8 := by omega
    subst e hn hv
    refine gn_iload_n dn_X6_89 rfl ?_
    refine gn_bipush dn_X6_90 (u := nI 8) (by decide) ?_
    refine gn_icmp_ge (tgt := 114) dn_X6_92 rfl (fun _ => ?_) (fun h => absurd (Int32.le_refl _) h)
    refine gn_iconst dn_X6_114 (u := nI 0) (by decide) ?_
    refine gn_istore_n (L' := [some (vR 0 0), some (vI (nI 0))]) dn_X6_115 (by decide) rfl rfl ?_
    exact c_Ghost_im hE 2 0 _ _ (by omega) (by omega) (by omega)
  | r + 1, i, n, v, hi, hn, hv => by
    have hi8 : i < 8 := by omega
    refine gn_iload_n dn_X6_89 rfl ?_
    refine gn_bipush dn_X6_90 (u := nI 8) (by decide) ?_
    refine gn_icmp_ge (tgt := 114) dn_X6_92 rfl (fun h => absurd h (nI_ge hi8 (by omega))) (fun _ => ?_)
    refine gn_aload_n dn_X6_95 rfl ?_
    refine gn_getR (k := 0) (t := 0) (j := 0) (z := (1, 0)) dn_X6_96 ⟨RX6, TX6, 10, rfl, by decide, Or.inl bw_240⟩ (by decide) (by decide) rfl rfl (by show 0 < n; omega) (by show 0 < v; omega) ?_
    refine gn_iload_n dn_X6_99 rfl ?_
    refine gn_new (k := 2) (t := i) (C := RX3) (T := TX3) (N := 4) dn_X6_100 (by decide) (by show i < 8; omega) rfl rfl bw_21 bw_217 bw_7 (by decide) rfl (df_X3 _) (by show 420 + 2 * i = _; omega) (by rw [hE.2.1]; omega) (fr_X3 hi8 (by omega)) (fun _ => rfl) ?_
    refine gn_dup dn_X6_103 ?_
    refine gn_call (mi' := mi_X3_init) dn_X6_104 (Or.inr ⟨"GhostTrain", bw_218⟩) ok_X3_init (by decide) (Nat.le_of_ble_eq_true rfl) (by omega) (by rw [hE.2.1]; omega) (c_Row (t := i) hi8 (by omega) (by omega)) ?_
    refine gn_aast (k := 1) (t := 0) (c0 := 0) (N := 8) (j := i) (C := RX3) (T := TX3) (NN := 4) dn_X6_107 (by decide) (by decide) rfl rfl rfl rfl hi8 (by decide) (by show 1 < n + 1 + 1; omega) (Nat.le_of_ble_eq_true rfl) (by show i < 8; omega) rfl (by show 420 + 2 * i < _; omega) (by show (if i < 8 then 420 + 2 * i else 0) = _; rw [if_pos hi8]; omega) ?_
    refine gn_iinc (u := nI (i + 1)) dn_X6_108 rfl (by rw [← nI_add]; rfl) (by decide) rfl rfl ?_
    refine gn_goto (tgt := 89) dn_X6_111 rfl ?_
    exact c_Ghost_ro hE r (i + 1) _ _ (by omega) (by omega) (by omega)
set_option maxRecDepth 20000 in
theorem c_Ghost : gn_Calls 3 mi_X6_init 0 0 1 0 gh_0 466 465 gh_0 := by
  refine gn_begin (by decide) rfl 1 rfl (fun wd x hE => ?_) (by omega)
  refine gn_aload_n dn_X6_0 rfl ?_
  refine gn_obj dn_X6_1 bw_18 bw_19 bw_20 (by omega) (by decide) ?_
  refine gn_aload_n dn_X6_4 rfl ?_
  refine gn_bipush dn_X6_5 (u := nI 8) (by decide) ?_
  refine gn_anew (k := 1) (t := 0) (N := 8) (a := 0) (C := RX3) dn_X6_7 (by decide) (by decide) rfl bw_21 (fun U h => h.2.2.1) rfl rfl (by decide) rfl (by rw [hE.2.1]; omega) (fun j hj => Nat.zero_le _) ?_
  refine gn_putR (k := 0) (t := 0) (j := 0) (z := (1, 0)) (C := RX6) (T := TX6) (N := 10) dn_X6_10 rfl (by decide) bw_240 (by decide) (by decide) rfl rfl (by decide) rfl rfl rfl rfl rfl ?_
  refine gn_aload_n dn_X6_13 rfl ?_
  refine gn_new (k := 4) (t := 0) (C := RX4) (T := TX4) (N := 4) dn_X6_14 (by decide) (by decide) rfl rfl bw_23 bw_24 bw_2 (by decide) rfl (df_X4 _) rfl (by rw [hE.2.1]; omega) (fr_X4 (by decide)) (fun _ => rfl) ?_
  refine gn_dup dn_X6_17 ?_
  refine gn_call (mi' := mi_X4_init) dn_X6_18 (Or.inr ⟨"GhostTrain", bw_25⟩) ok_X4_init (by decide) (Nat.le_of_ble_eq_true rfl) (by omega) (by rw [hE.2.1]; omega) c_Tape ?_
  refine gn_putR (k := 0) (t := 0) (j := 1) (z := (4, 0)) (C := RX6) (T := TX6) (N := 10) dn_X6_21 rfl (by decide) bw_241 (by decide) (by decide) rfl rfl (by decide) rfl rfl rfl rfl rfl ?_
  refine gn_aload_n dn_X6_24 rfl ?_
  refine gn_new (k := 6) (t := 0) (C := RX5) (T := TX5) (N := 19) dn_X6_25 (by decide) (by decide) rfl rfl bw_47 bw_48 bw_3 (by decide) rfl (df_X5 _) rfl (by rw [hE.2.1]; omega) (fr_X5 (by decide)) (fun _ => rfl) ?_
  refine gn_dup dn_X6_28 ?_
  refine gn_call (mi' := mi_X5_init) dn_X6_29 (Or.inr ⟨"GhostTrain", bw_49⟩) ok_X5_init (by decide) (Nat.le_of_ble_eq_true rfl) (by omega) (by rw [hE.2.1]; omega) (c_Train (t := 0) (by decide) rfl rfl) ?_
  refine gn_putR (k := 0) (t := 0) (j := 2) (z := (6, 0)) (C := RX6) (T := TX6) (N := 10) dn_X6_32 rfl (by decide) bw_242 (by decide) (by decide) rfl rfl (by decide) rfl rfl rfl rfl rfl ?_
  refine gn_aload_n dn_X6_35 rfl ?_
  refine gn_new (k := 6) (t := 1) (C := RX5) (T := TX5) (N := 19) dn_X6_36 (by decide) (by decide) rfl rfl bw_47 bw_48 bw_3 (by decide) rfl (df_X5 _) rfl (by rw [hE.2.1]; omega) (fr_X5 (by decide)) (fun _ => rfl) ?_
  refine gn_dup dn_X6_39 ?_
  refine gn_call (mi' := mi_X5_init) dn_X6_40 (Or.inr ⟨"GhostTrain", bw_49⟩) ok_X5_init (by decide) (Nat.le_of_ble_eq_true rfl) (by omega) (by rw [hE.2.1]; omega) (c_Train (t := 1) (by decide) rfl rfl) ?_
  refine gn_putR (k := 0) (t := 0) (j := 3) (z := (6, 1)) (C := RX6) (T := TX6) (N := 10) dn_X6_43 rfl (by decide) bw_243 (by decide) (by decide) rfl rfl (by decide) rfl rfl rfl rfl rfl ?_
  refine gn_aload_n dn_X6_46 rfl ?_
  refine gn_new (k := 21) (t := 0) (C := RX0) (T := TX0) (N := 3) dn_X6_47 (by decide) (by decide) rfl rfl bw_144 bw_145 bw_4 (by decide) rfl (df_X0 _) rfl (by rw [hE.2.1]; omega) (fr_X0 (by decide)) (fun _ => rfl) ?_
  refine gn_dup dn_X6_50 ?_
  refine gn_call (mi' := mi_X0_init) dn_X6_51 (Or.inr ⟨"GhostTrain", bw_146⟩) ok_X0_init (by decide) (Nat.le_of_ble_eq_true rfl) (by omega) (by rw [hE.2.1]; omega) c_Acts ?_
  refine gn_putR (k := 0) (t := 0) (j := 4) (z := (21, 0)) (C := RX6) (T := TX6) (N := 10) dn_X6_54 rfl (by decide) bw_244 (by decide) (by decide) rfl rfl (by decide) rfl rfl rfl rfl rfl ?_
  refine gn_aload_n dn_X6_57 rfl ?_
  refine gn_iconst dn_X6_58 (u := nI 2) (by decide) ?_
  refine gn_anew (k := 23) (t := 0) (N := 2) (a := 1) (C := RX5) dn_X6_59 (by decide) (by decide) rfl bw_47 (fun U h => h.2.2.2) rfl rfl (by decide) rfl (by rw [hE.2.1]; omega) (fun j hj => by show 395 ≤ evT (26 + j) + 14; have := (oT_b hj).2; omega) ?_
  refine gn_putR (k := 0) (t := 0) (j := 5) (z := (23, 0)) (C := RX6) (T := TX6) (N := 10) dn_X6_62 rfl (by decide) bw_245 (by decide) (by decide) rfl rfl (by decide) rfl rfl rfl rfl rfl ?_
  refine gn_aload_n dn_X6_65 rfl ?_
  refine gn_new (k := 24) (t := 0) (C := RX2) (T := TX2) (N := 9) dn_X6_66 (by decide) (by decide) rfl rfl bw_164 bw_165 bw_5 (by decide) rfl (df_X2 _) rfl (by rw [hE.2.1]; omega) (fr_X2 (by decide)) (fun _ => rfl) ?_
  refine gn_dup dn_X6_69 ?_
  refine gn_call (mi' := mi_X2_init) dn_X6_70 (Or.inr ⟨"GhostTrain", bw_166⟩) ok_X2_init (by decide) (Nat.le_of_ble_eq_true rfl) (by omega) (by rw [hE.2.1]; omega) c_Fore ?_
  refine gn_putR (k := 0) (t := 0) (j := 6) (z := (24, 0)) (C := RX6) (T := TX6) (N := 10) dn_X6_73 rfl (by decide) bw_246 (by decide) (by decide) rfl rfl (by decide) rfl rfl rfl rfl rfl ?_
  refine gn_aload_n dn_X6_76 rfl ?_
  refine gn_new (k := 30) (t := 0) (C := RX1) (T := TX1) (N := 2) dn_X6_77 (by decide) (by decide) rfl rfl bw_202 bw_203 bw_6 (by decide) rfl (df_X1 _) rfl (by rw [hE.2.1]; omega) (fr_X1 (by decide)) (fun _ => rfl) ?_
  refine gn_dup dn_X6_80 ?_
  refine gn_call (mi' := mi_X1_init) dn_X6_81 (Or.inr ⟨"GhostTrain", bw_204⟩) ok_X1_init (by decide) (Nat.le_of_ble_eq_true rfl) (by omega) (by rw [hE.2.1]; omega) c_Asker ?_
  refine gn_putR (k := 0) (t := 0) (j := 7) (z := (30, 0)) (C := RX6) (T := TX6) (N := 10) dn_X6_84 rfl (by decide) bw_247 (by decide) (by decide) rfl rfl (by decide) rfl rfl rfl rfl rfl ?_
  refine gn_iconst dn_X6_87 (u := nI 0) (by decide) ?_
  refine gn_istore_n (L' := [some (vR 0 0), some (vI (nI 0))]) dn_X6_88 (by decide) rfl rfl ?_
  exact c_Ghost_ro hE 8 0 _ _ (by omega) (by omega) (by omega)
