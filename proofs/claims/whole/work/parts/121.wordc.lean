/-! words of the constructors, and their own names -/
theorem wt_97 : Jvm.Cond.classLink "CallMeltLaw" (7 : Nat) "CallMelt" ∈ lw_tbl := List.mem_of_getElem? (i := 97) (by decide +kernel)
theorem wd_97 : Jvm.Cond.classLink "CallMeltLaw" (7 : Nat) "CallMelt" ∈ lw_u := lw_in wt_97 rfl
theorem wt_98 : Jvm.Cond.instantiable "CallMelt" (6 : Nat) ∈ lw_tbl := List.mem_of_getElem? (i := 98) (by decide +kernel)
theorem wd_98 : Jvm.Cond.instantiable "CallMelt" (6 : Nat) ∈ lw_u := lw_in wt_98 rfl
theorem wt_99 : Jvm.Cond.methodLink "CallMeltLaw" (9 : Nat) ({ cls := "CallMelt", name := "<init>", desc := "()V" } : Jvm.MethodName) ∈ lw_tbl := List.mem_of_getElem? (i := 99) (by decide +kernel)
theorem wd_99 : Jvm.Cond.methodLink "CallMeltLaw" (9 : Nat) ({ cls := "CallMelt", name := "<init>", desc := "()V" } : Jvm.MethodName) ∈ lw_u := lw_in wt_99 rfl
theorem wt_100 : Jvm.Cond.instanceMethod ({ cls := "CallMelt", name := "<init>", desc := "()V" } : Jvm.MethodName) ∈ lw_tbl := List.mem_of_getElem? (i := 100) (by decide +kernel)
theorem wd_100 : Jvm.Cond.instanceMethod ({ cls := "CallMelt", name := "<init>", desc := "()V" } : Jvm.MethodName) ∈ lw_u := lw_in wt_100 rfl
theorem wt_101 : Jvm.Cond.code ({ cls := "CallMelt", name := "<init>", desc := "()V" } : Jvm.MethodName) prog_1_method_1_code (1 : Nat) (Option.none : Option Jvm.ClassFile.FieldType) ∈ lw_tbl := List.mem_of_getElem? (i := 101) (by decide +kernel)
theorem wg_101 : Jvm.Cond.code ({ cls := "CallMelt", name := "<init>", desc := "()V" } : Jvm.MethodName) prog_1_method_1_code (1 : Nat) (Option.none : Option Jvm.ClassFile.FieldType) ∈ lw_g := List.mem_filter.mpr ⟨wt_101, rfl⟩
theorem wd_101 : Jvm.Cond.code ({ cls := "CallMelt", name := "<init>", desc := "()V" } : Jvm.MethodName) prog_1_method_1_code (1 : Nat) (Option.none : Option Jvm.ClassFile.FieldType) ∈ lw_u := lw_in wt_101 rfl
theorem wt_102 : Jvm.Cond.methodLink "CallMelt" (1 : Nat) ({ cls := "java/lang/Object", name := "<init>", desc := "()V" } : Jvm.MethodName) ∈ lw_tbl := List.mem_of_getElem? (i := 102) (by decide +kernel)
theorem wd_102 : Jvm.Cond.methodLink "CallMelt" (1 : Nat) ({ cls := "java/lang/Object", name := "<init>", desc := "()V" } : Jvm.MethodName) ∈ lw_u := lw_in wt_102 rfl
theorem wt_103 : Jvm.Cond.instanceMethod ({ cls := "java/lang/Object", name := "<init>", desc := "()V" } : Jvm.MethodName) ∈ lw_tbl := List.mem_of_getElem? (i := 103) (by decide +kernel)
theorem wd_103 : Jvm.Cond.instanceMethod ({ cls := "java/lang/Object", name := "<init>", desc := "()V" } : Jvm.MethodName) ∈ lw_u := lw_in wt_103 rfl
theorem wt_104 : Jvm.Cond.code ({ cls := "java/lang/Object", name := "<init>", desc := "()V" } : Jvm.MethodName) object_method_1_code (1 : Nat) (Option.none : Option Jvm.ClassFile.FieldType) ∈ lw_tbl := List.mem_of_getElem? (i := 104) (by decide +kernel)
theorem wg_104 : Jvm.Cond.code ({ cls := "java/lang/Object", name := "<init>", desc := "()V" } : Jvm.MethodName) object_method_1_code (1 : Nat) (Option.none : Option Jvm.ClassFile.FieldType) ∈ lw_g := List.mem_filter.mpr ⟨wt_104, rfl⟩
theorem wd_104 : Jvm.Cond.code ({ cls := "java/lang/Object", name := "<init>", desc := "()V" } : Jvm.MethodName) object_method_1_code (1 : Nat) (Option.none : Option Jvm.ClassFile.FieldType) ∈ lw_u := lw_in wt_104 rfl
theorem wt_105 : Jvm.Cond.classLink "CallMelt" (7 : Nat) "CallMelt$Code" ∈ lw_tbl := List.mem_of_getElem? (i := 105) (by decide +kernel)
theorem wd_105 : Jvm.Cond.classLink "CallMelt" (7 : Nat) "CallMelt$Code" ∈ lw_u := lw_in wt_105 rfl
theorem wt_106 : Jvm.Cond.instantiable "CallMelt$Code" (3 : Nat) ∈ lw_tbl := List.mem_of_getElem? (i := 106) (by decide +kernel)
theorem wd_106 : Jvm.Cond.instantiable "CallMelt$Code" (3 : Nat) ∈ lw_u := lw_in wt_106 rfl
theorem wt_107 : Jvm.Cond.methodLinkNest "CallMelt" (9 : Nat) ({ cls := "CallMelt$Code", name := "<init>", desc := "()V" } : Jvm.MethodName) "CallMelt" ∈ lw_tbl := List.mem_of_getElem? (i := 107) (by decide +kernel)
theorem wd_107 : Jvm.Cond.methodLinkNest "CallMelt" (9 : Nat) ({ cls := "CallMelt$Code", name := "<init>", desc := "()V" } : Jvm.MethodName) "CallMelt" ∈ lw_u := lw_inN wt_107 rfl
theorem wt_108 : Jvm.Cond.instanceMethod ({ cls := "CallMelt$Code", name := "<init>", desc := "()V" } : Jvm.MethodName) ∈ lw_tbl := List.mem_of_getElem? (i := 108) (by decide +kernel)
theorem wd_108 : Jvm.Cond.instanceMethod ({ cls := "CallMelt$Code", name := "<init>", desc := "()V" } : Jvm.MethodName) ∈ lw_u := lw_in wt_108 rfl
theorem wt_109 : Jvm.Cond.code ({ cls := "CallMelt$Code", name := "<init>", desc := "()V" } : Jvm.MethodName) prog_3_method_1_code (1 : Nat) (Option.none : Option Jvm.ClassFile.FieldType) ∈ lw_tbl := List.mem_of_getElem? (i := 109) (by decide +kernel)
theorem wg_109 : Jvm.Cond.code ({ cls := "CallMelt$Code", name := "<init>", desc := "()V" } : Jvm.MethodName) prog_3_method_1_code (1 : Nat) (Option.none : Option Jvm.ClassFile.FieldType) ∈ lw_g := List.mem_filter.mpr ⟨wt_109, rfl⟩
theorem wd_109 : Jvm.Cond.code ({ cls := "CallMelt$Code", name := "<init>", desc := "()V" } : Jvm.MethodName) prog_3_method_1_code (1 : Nat) (Option.none : Option Jvm.ClassFile.FieldType) ∈ lw_u := lw_in wt_109 rfl
theorem wt_110 : Jvm.Cond.methodLink "CallMelt$Code" (3 : Nat) ({ cls := "java/lang/Object", name := "<init>", desc := "()V" } : Jvm.MethodName) ∈ lw_tbl := List.mem_of_getElem? (i := 110) (by decide +kernel)
theorem wd_110 : Jvm.Cond.methodLink "CallMelt$Code" (3 : Nat) ({ cls := "java/lang/Object", name := "<init>", desc := "()V" } : Jvm.MethodName) ∈ lw_u := lw_in wt_110 rfl
theorem wt_111 : Jvm.Cond.classLink "CallMelt$Code" (9 : Nat) "CallMelt$Rows" ∈ lw_tbl := List.mem_of_getElem? (i := 111) (by decide +kernel)
theorem wd_111 : Jvm.Cond.classLink "CallMelt$Code" (9 : Nat) "CallMelt$Rows" ∈ lw_u := lw_in wt_111 rfl
theorem wt_112 : Jvm.Cond.instantiable "CallMelt$Rows" (8 : Nat) ∈ lw_tbl := List.mem_of_getElem? (i := 112) (by decide +kernel)
theorem wd_112 : Jvm.Cond.instantiable "CallMelt$Rows" (8 : Nat) ∈ lw_u := lw_in wt_112 rfl
theorem wt_113 : Jvm.Cond.methodLinkNest "CallMelt$Code" (11 : Nat) ({ cls := "CallMelt$Rows", name := "<init>", desc := "()V" } : Jvm.MethodName) "CallMelt" ∈ lw_tbl := List.mem_of_getElem? (i := 113) (by decide +kernel)
theorem wd_113 : Jvm.Cond.methodLinkNest "CallMelt$Code" (11 : Nat) ({ cls := "CallMelt$Rows", name := "<init>", desc := "()V" } : Jvm.MethodName) "CallMelt" ∈ lw_u := lw_inN wt_113 rfl
theorem wt_114 : Jvm.Cond.instanceMethod ({ cls := "CallMelt$Rows", name := "<init>", desc := "()V" } : Jvm.MethodName) ∈ lw_tbl := List.mem_of_getElem? (i := 114) (by decide +kernel)
theorem wd_114 : Jvm.Cond.instanceMethod ({ cls := "CallMelt$Rows", name := "<init>", desc := "()V" } : Jvm.MethodName) ∈ lw_u := lw_in wt_114 rfl
theorem wt_115 : Jvm.Cond.code ({ cls := "CallMelt$Rows", name := "<init>", desc := "()V" } : Jvm.MethodName) prog_7_method_1_code (1 : Nat) (Option.none : Option Jvm.ClassFile.FieldType) ∈ lw_tbl := List.mem_of_getElem? (i := 115) (by decide +kernel)
theorem wg_115 : Jvm.Cond.code ({ cls := "CallMelt$Rows", name := "<init>", desc := "()V" } : Jvm.MethodName) prog_7_method_1_code (1 : Nat) (Option.none : Option Jvm.ClassFile.FieldType) ∈ lw_g := List.mem_filter.mpr ⟨wt_115, rfl⟩
theorem wd_115 : Jvm.Cond.code ({ cls := "CallMelt$Rows", name := "<init>", desc := "()V" } : Jvm.MethodName) prog_7_method_1_code (1 : Nat) (Option.none : Option Jvm.ClassFile.FieldType) ∈ lw_u := lw_in wt_115 rfl
theorem wt_116 : Jvm.Cond.methodLink "CallMelt$Rows" (3 : Nat) ({ cls := "java/lang/Object", name := "<init>", desc := "()V" } : Jvm.MethodName) ∈ lw_tbl := List.mem_of_getElem? (i := 116) (by decide +kernel)
theorem wd_116 : Jvm.Cond.methodLink "CallMelt$Rows" (3 : Nat) ({ cls := "java/lang/Object", name := "<init>", desc := "()V" } : Jvm.MethodName) ∈ lw_u := lw_in wt_116 rfl
theorem wt_156 : Jvm.Cond.arrayClass Jvm.ClassFile.FieldType.int ∈ lw_tbl := List.mem_of_getElem? (i := 156) (by decide +kernel)
theorem wd_156 : Jvm.Cond.arrayClass Jvm.ClassFile.FieldType.int ∈ lw_u := lw_in wt_156 rfl
theorem wt_157 : Jvm.Cond.classLink "CallMelt$Code" (18 : Nat) "CallMelt$Walk" ∈ lw_tbl := List.mem_of_getElem? (i := 157) (by decide +kernel)
theorem wd_157 : Jvm.Cond.classLink "CallMelt$Code" (18 : Nat) "CallMelt$Walk" ∈ lw_u := lw_in wt_157 rfl
theorem wt_158 : Jvm.Cond.instantiable "CallMelt$Walk" (5 : Nat) ∈ lw_tbl := List.mem_of_getElem? (i := 158) (by decide +kernel)
theorem wd_158 : Jvm.Cond.instantiable "CallMelt$Walk" (5 : Nat) ∈ lw_u := lw_in wt_158 rfl
theorem wt_159 : Jvm.Cond.methodLinkNest "CallMelt$Code" (20 : Nat) ({ cls := "CallMelt$Walk", name := "<init>", desc := "()V" } : Jvm.MethodName) "CallMelt" ∈ lw_tbl := List.mem_of_getElem? (i := 159) (by decide +kernel)
theorem wd_159 : Jvm.Cond.methodLinkNest "CallMelt$Code" (20 : Nat) ({ cls := "CallMelt$Walk", name := "<init>", desc := "()V" } : Jvm.MethodName) "CallMelt" ∈ lw_u := lw_inN wt_159 rfl
theorem wt_160 : Jvm.Cond.instanceMethod ({ cls := "CallMelt$Walk", name := "<init>", desc := "()V" } : Jvm.MethodName) ∈ lw_tbl := List.mem_of_getElem? (i := 160) (by decide +kernel)
theorem wd_160 : Jvm.Cond.instanceMethod ({ cls := "CallMelt$Walk", name := "<init>", desc := "()V" } : Jvm.MethodName) ∈ lw_u := lw_in wt_160 rfl
theorem wt_161 : Jvm.Cond.code ({ cls := "CallMelt$Walk", name := "<init>", desc := "()V" } : Jvm.MethodName) prog_8_method_1_code (1 : Nat) (Option.none : Option Jvm.ClassFile.FieldType) ∈ lw_tbl := List.mem_of_getElem? (i := 161) (by decide +kernel)
theorem wg_161 : Jvm.Cond.code ({ cls := "CallMelt$Walk", name := "<init>", desc := "()V" } : Jvm.MethodName) prog_8_method_1_code (1 : Nat) (Option.none : Option Jvm.ClassFile.FieldType) ∈ lw_g := List.mem_filter.mpr ⟨wt_161, rfl⟩
theorem wd_161 : Jvm.Cond.code ({ cls := "CallMelt$Walk", name := "<init>", desc := "()V" } : Jvm.MethodName) prog_8_method_1_code (1 : Nat) (Option.none : Option Jvm.ClassFile.FieldType) ∈ lw_u := lw_in wt_161 rfl
theorem wt_162 : Jvm.Cond.methodLink "CallMelt$Walk" (3 : Nat) ({ cls := "java/lang/Object", name := "<init>", desc := "()V" } : Jvm.MethodName) ∈ lw_tbl := List.mem_of_getElem? (i := 162) (by decide +kernel)
theorem wd_162 : Jvm.Cond.methodLink "CallMelt$Walk" (3 : Nat) ({ cls := "java/lang/Object", name := "<init>", desc := "()V" } : Jvm.MethodName) ∈ lw_u := lw_in wt_162 rfl
theorem wt_194 : Jvm.Cond.fieldLinkNest "CallMelt$Melter" (19 : Nat) "CallMelt$Code" "held" "LCallMelt$Walk;" "CallMelt" ∈ lw_tbl := List.mem_of_getElem? (i := 194) (by decide +kernel)
theorem wd_194 : Jvm.Cond.fieldLinkNest "CallMelt$Melter" (19 : Nat) "CallMelt$Code" "held" "LCallMelt$Walk;" "CallMelt" ∈ lw_u := lw_inN wt_194 rfl
theorem wt_196 : Jvm.Cond.fieldLinkNest "CallMelt$Worker" (29 : Nat) "CallMelt$Code" "held" "LCallMelt$Walk;" "CallMelt" ∈ lw_tbl := List.mem_of_getElem? (i := 196) (by decide +kernel)
theorem wd_196 : Jvm.Cond.fieldLinkNest "CallMelt$Worker" (29 : Nat) "CallMelt$Code" "held" "LCallMelt$Walk;" "CallMelt" ∈ lw_u := lw_inN wt_196 rfl
theorem wt_204 : Jvm.Cond.classLink "CallMelt" (16 : Nat) "CallMelt$Machine" ∈ lw_tbl := List.mem_of_getElem? (i := 204) (by decide +kernel)
theorem wd_204 : Jvm.Cond.classLink "CallMelt" (16 : Nat) "CallMelt$Machine" ∈ lw_u := lw_in wt_204 rfl
theorem wt_205 : Jvm.Cond.instantiable "CallMelt$Machine" (18 : Nat) ∈ lw_tbl := List.mem_of_getElem? (i := 205) (by decide +kernel)
theorem wd_205 : Jvm.Cond.instantiable "CallMelt$Machine" (18 : Nat) ∈ lw_u := lw_in wt_205 rfl
theorem wt_206 : Jvm.Cond.methodLink "CallMelt" (18 : Nat) ({ cls := "CallMelt$Machine", name := "<init>", desc := "(LCallMelt$Code;)V" } : Jvm.MethodName) ∈ lw_tbl := List.mem_of_getElem? (i := 206) (by decide +kernel)
theorem wd_206 : Jvm.Cond.methodLink "CallMelt" (18 : Nat) ({ cls := "CallMelt$Machine", name := "<init>", desc := "(LCallMelt$Code;)V" } : Jvm.MethodName) ∈ lw_u := lw_in wt_206 rfl
theorem wt_207 : Jvm.Cond.instanceMethod ({ cls := "CallMelt$Machine", name := "<init>", desc := "(LCallMelt$Code;)V" } : Jvm.MethodName) ∈ lw_tbl := List.mem_of_getElem? (i := 207) (by decide +kernel)
theorem wd_207 : Jvm.Cond.instanceMethod ({ cls := "CallMelt$Machine", name := "<init>", desc := "(LCallMelt$Code;)V" } : Jvm.MethodName) ∈ lw_u := lw_in wt_207 rfl
theorem wt_208 : Jvm.Cond.code ({ cls := "CallMelt$Machine", name := "<init>", desc := "(LCallMelt$Code;)V" } : Jvm.MethodName) prog_4_method_1_code (2 : Nat) (Option.none : Option Jvm.ClassFile.FieldType) ∈ lw_tbl := List.mem_of_getElem? (i := 208) (by decide +kernel)
theorem wg_208 : Jvm.Cond.code ({ cls := "CallMelt$Machine", name := "<init>", desc := "(LCallMelt$Code;)V" } : Jvm.MethodName) prog_4_method_1_code (2 : Nat) (Option.none : Option Jvm.ClassFile.FieldType) ∈ lw_g := List.mem_filter.mpr ⟨wt_208, rfl⟩
theorem wd_208 : Jvm.Cond.code ({ cls := "CallMelt$Machine", name := "<init>", desc := "(LCallMelt$Code;)V" } : Jvm.MethodName) prog_4_method_1_code (2 : Nat) (Option.none : Option Jvm.ClassFile.FieldType) ∈ lw_u := lw_in wt_208 rfl
theorem wt_209 : Jvm.Cond.methodLink "CallMelt$Machine" (3 : Nat) ({ cls := "java/lang/Object", name := "<init>", desc := "()V" } : Jvm.MethodName) ∈ lw_tbl := List.mem_of_getElem? (i := 209) (by decide +kernel)
theorem wd_209 : Jvm.Cond.methodLink "CallMelt$Machine" (3 : Nat) ({ cls := "java/lang/Object", name := "<init>", desc := "()V" } : Jvm.MethodName) ∈ lw_u := lw_in wt_209 rfl
theorem wt_265 : Jvm.Cond.classLink "CallMelt" (25 : Nat) "CallMelt$Melter" ∈ lw_tbl := List.mem_of_getElem? (i := 265) (by decide +kernel)
theorem wd_265 : Jvm.Cond.classLink "CallMelt" (25 : Nat) "CallMelt$Melter" ∈ lw_u := lw_in wt_265 rfl
theorem wt_266 : Jvm.Cond.instantiable "CallMelt$Melter" (3 : Nat) ∈ lw_tbl := List.mem_of_getElem? (i := 266) (by decide +kernel)
theorem wd_266 : Jvm.Cond.instantiable "CallMelt$Melter" (3 : Nat) ∈ lw_u := lw_in wt_266 rfl
theorem wt_267 : Jvm.Cond.methodLink "CallMelt" (27 : Nat) ({ cls := "CallMelt$Melter", name := "<init>", desc := "(LCallMelt$Code;)V" } : Jvm.MethodName) ∈ lw_tbl := List.mem_of_getElem? (i := 267) (by decide +kernel)
theorem wd_267 : Jvm.Cond.methodLink "CallMelt" (27 : Nat) ({ cls := "CallMelt$Melter", name := "<init>", desc := "(LCallMelt$Code;)V" } : Jvm.MethodName) ∈ lw_u := lw_in wt_267 rfl
theorem wt_268 : Jvm.Cond.instanceMethod ({ cls := "CallMelt$Melter", name := "<init>", desc := "(LCallMelt$Code;)V" } : Jvm.MethodName) ∈ lw_tbl := List.mem_of_getElem? (i := 268) (by decide +kernel)
theorem wd_268 : Jvm.Cond.instanceMethod ({ cls := "CallMelt$Melter", name := "<init>", desc := "(LCallMelt$Code;)V" } : Jvm.MethodName) ∈ lw_u := lw_in wt_268 rfl
theorem wt_269 : Jvm.Cond.code ({ cls := "CallMelt$Melter", name := "<init>", desc := "(LCallMelt$Code;)V" } : Jvm.MethodName) prog_5_method_1_code (2 : Nat) (Option.none : Option Jvm.ClassFile.FieldType) ∈ lw_tbl := List.mem_of_getElem? (i := 269) (by decide +kernel)
theorem wg_269 : Jvm.Cond.code ({ cls := "CallMelt$Melter", name := "<init>", desc := "(LCallMelt$Code;)V" } : Jvm.MethodName) prog_5_method_1_code (2 : Nat) (Option.none : Option Jvm.ClassFile.FieldType) ∈ lw_g := List.mem_filter.mpr ⟨wt_269, rfl⟩
theorem wd_269 : Jvm.Cond.code ({ cls := "CallMelt$Melter", name := "<init>", desc := "(LCallMelt$Code;)V" } : Jvm.MethodName) prog_5_method_1_code (2 : Nat) (Option.none : Option Jvm.ClassFile.FieldType) ∈ lw_u := lw_in wt_269 rfl
theorem wt_270 : Jvm.Cond.methodLink "CallMelt$Melter" (3 : Nat) ({ cls := "java/lang/Object", name := "<init>", desc := "()V" } : Jvm.MethodName) ∈ lw_tbl := List.mem_of_getElem? (i := 270) (by decide +kernel)
theorem wd_270 : Jvm.Cond.methodLink "CallMelt$Melter" (3 : Nat) ({ cls := "java/lang/Object", name := "<init>", desc := "()V" } : Jvm.MethodName) ∈ lw_u := lw_in wt_270 rfl
theorem wt_281 : Jvm.Cond.classLink "CallMelt" (32 : Nat) "CallMelt$Worker" ∈ lw_tbl := List.mem_of_getElem? (i := 281) (by decide +kernel)
theorem wd_281 : Jvm.Cond.classLink "CallMelt" (32 : Nat) "CallMelt$Worker" ∈ lw_u := lw_in wt_281 rfl
theorem wt_282 : Jvm.Cond.instantiable "CallMelt$Worker" (9 : Nat) ∈ lw_tbl := List.mem_of_getElem? (i := 282) (by decide +kernel)
theorem wd_282 : Jvm.Cond.instantiable "CallMelt$Worker" (9 : Nat) ∈ lw_u := lw_in wt_282 rfl
theorem wt_283 : Jvm.Cond.methodLink "CallMelt" (34 : Nat) ({ cls := "CallMelt$Worker", name := "<init>", desc := "(LCallMelt$Code;)V" } : Jvm.MethodName) ∈ lw_tbl := List.mem_of_getElem? (i := 283) (by decide +kernel)
theorem wd_283 : Jvm.Cond.methodLink "CallMelt" (34 : Nat) ({ cls := "CallMelt$Worker", name := "<init>", desc := "(LCallMelt$Code;)V" } : Jvm.MethodName) ∈ lw_u := lw_in wt_283 rfl
theorem wt_284 : Jvm.Cond.instanceMethod ({ cls := "CallMelt$Worker", name := "<init>", desc := "(LCallMelt$Code;)V" } : Jvm.MethodName) ∈ lw_tbl := List.mem_of_getElem? (i := 284) (by decide +kernel)
theorem wd_284 : Jvm.Cond.instanceMethod ({ cls := "CallMelt$Worker", name := "<init>", desc := "(LCallMelt$Code;)V" } : Jvm.MethodName) ∈ lw_u := lw_in wt_284 rfl
theorem wt_285 : Jvm.Cond.code ({ cls := "CallMelt$Worker", name := "<init>", desc := "(LCallMelt$Code;)V" } : Jvm.MethodName) prog_9_method_1_code (2 : Nat) (Option.none : Option Jvm.ClassFile.FieldType) ∈ lw_tbl := List.mem_of_getElem? (i := 285) (by decide +kernel)
theorem wg_285 : Jvm.Cond.code ({ cls := "CallMelt$Worker", name := "<init>", desc := "(LCallMelt$Code;)V" } : Jvm.MethodName) prog_9_method_1_code (2 : Nat) (Option.none : Option Jvm.ClassFile.FieldType) ∈ lw_g := List.mem_filter.mpr ⟨wt_285, rfl⟩
theorem wd_285 : Jvm.Cond.code ({ cls := "CallMelt$Worker", name := "<init>", desc := "(LCallMelt$Code;)V" } : Jvm.MethodName) prog_9_method_1_code (2 : Nat) (Option.none : Option Jvm.ClassFile.FieldType) ∈ lw_u := lw_in wt_285 rfl
theorem wt_286 : Jvm.Cond.methodLink "CallMelt$Worker" (3 : Nat) ({ cls := "java/lang/Object", name := "<init>", desc := "()V" } : Jvm.MethodName) ∈ lw_tbl := List.mem_of_getElem? (i := 286) (by decide +kernel)
theorem wd_286 : Jvm.Cond.methodLink "CallMelt$Worker" (3 : Nat) ({ cls := "java/lang/Object", name := "<init>", desc := "()V" } : Jvm.MethodName) ∈ lw_u := lw_in wt_286 rfl
theorem wt_287 : Jvm.Cond.classLink "CallMelt$Worker" (9 : Nat) "CallMelt$Walk" ∈ lw_tbl := List.mem_of_getElem? (i := 287) (by decide +kernel)
theorem wd_287 : Jvm.Cond.classLink "CallMelt$Worker" (9 : Nat) "CallMelt$Walk" ∈ lw_u := lw_in wt_287 rfl
theorem wt_288 : Jvm.Cond.methodLinkNest "CallMelt$Worker" (11 : Nat) ({ cls := "CallMelt$Walk", name := "<init>", desc := "()V" } : Jvm.MethodName) "CallMelt" ∈ lw_tbl := List.mem_of_getElem? (i := 288) (by decide +kernel)
theorem wd_288 : Jvm.Cond.methodLinkNest "CallMelt$Worker" (11 : Nat) ({ cls := "CallMelt$Walk", name := "<init>", desc := "()V" } : Jvm.MethodName) "CallMelt" ∈ lw_u := lw_inN wt_288 rfl
theorem wt_317 : Jvm.Cond.classLink "CallMelt" (39 : Nat) "CallMelt$Past" ∈ lw_tbl := List.mem_of_getElem? (i := 317) (by decide +kernel)
theorem wd_317 : Jvm.Cond.classLink "CallMelt" (39 : Nat) "CallMelt$Past" ∈ lw_u := lw_in wt_317 rfl
theorem wt_318 : Jvm.Cond.instantiable "CallMelt$Past" (3 : Nat) ∈ lw_tbl := List.mem_of_getElem? (i := 318) (by decide +kernel)
theorem wd_318 : Jvm.Cond.instantiable "CallMelt$Past" (3 : Nat) ∈ lw_u := lw_in wt_318 rfl
theorem wt_319 : Jvm.Cond.methodLinkNest "CallMelt" (41 : Nat) ({ cls := "CallMelt$Past", name := "<init>", desc := "()V" } : Jvm.MethodName) "CallMelt" ∈ lw_tbl := List.mem_of_getElem? (i := 319) (by decide +kernel)
theorem wd_319 : Jvm.Cond.methodLinkNest "CallMelt" (41 : Nat) ({ cls := "CallMelt$Past", name := "<init>", desc := "()V" } : Jvm.MethodName) "CallMelt" ∈ lw_u := lw_inN wt_319 rfl
theorem wt_320 : Jvm.Cond.instanceMethod ({ cls := "CallMelt$Past", name := "<init>", desc := "()V" } : Jvm.MethodName) ∈ lw_tbl := List.mem_of_getElem? (i := 320) (by decide +kernel)
theorem wd_320 : Jvm.Cond.instanceMethod ({ cls := "CallMelt$Past", name := "<init>", desc := "()V" } : Jvm.MethodName) ∈ lw_u := lw_in wt_320 rfl
theorem wt_321 : Jvm.Cond.code ({ cls := "CallMelt$Past", name := "<init>", desc := "()V" } : Jvm.MethodName) prog_6_method_1_code (1 : Nat) (Option.none : Option Jvm.ClassFile.FieldType) ∈ lw_tbl := List.mem_of_getElem? (i := 321) (by decide +kernel)
theorem wg_321 : Jvm.Cond.code ({ cls := "CallMelt$Past", name := "<init>", desc := "()V" } : Jvm.MethodName) prog_6_method_1_code (1 : Nat) (Option.none : Option Jvm.ClassFile.FieldType) ∈ lw_g := List.mem_filter.mpr ⟨wt_321, rfl⟩
theorem wd_321 : Jvm.Cond.code ({ cls := "CallMelt$Past", name := "<init>", desc := "()V" } : Jvm.MethodName) prog_6_method_1_code (1 : Nat) (Option.none : Option Jvm.ClassFile.FieldType) ∈ lw_u := lw_in wt_321 rfl
theorem wt_322 : Jvm.Cond.methodLink "CallMelt$Past" (3 : Nat) ({ cls := "java/lang/Object", name := "<init>", desc := "()V" } : Jvm.MethodName) ∈ lw_tbl := List.mem_of_getElem? (i := 322) (by decide +kernel)
theorem wd_322 : Jvm.Cond.methodLink "CallMelt$Past" (3 : Nat) ({ cls := "java/lang/Object", name := "<init>", desc := "()V" } : Jvm.MethodName) ∈ lw_u := lw_in wt_322 rfl
theorem wt_323 : Jvm.Cond.classLink "CallMelt$Past" (11 : Nat) "CallMelt$Rows" ∈ lw_tbl := List.mem_of_getElem? (i := 323) (by decide +kernel)
theorem wd_323 : Jvm.Cond.classLink "CallMelt$Past" (11 : Nat) "CallMelt$Rows" ∈ lw_u := lw_in wt_323 rfl
theorem wt_336 : Jvm.Cond.classLink "CallMelt" (46 : Nat) "CallMelt$Choice" ∈ lw_tbl := List.mem_of_getElem? (i := 336) (by decide +kernel)
theorem wd_336 : Jvm.Cond.classLink "CallMelt" (46 : Nat) "CallMelt$Choice" ∈ lw_u := lw_in wt_336 rfl
theorem wt_337 : Jvm.Cond.instantiable "CallMelt$Choice" (13 : Nat) ∈ lw_tbl := List.mem_of_getElem? (i := 337) (by decide +kernel)
theorem wd_337 : Jvm.Cond.instantiable "CallMelt$Choice" (13 : Nat) ∈ lw_u := lw_in wt_337 rfl
theorem wt_338 : Jvm.Cond.methodLink "CallMelt" (48 : Nat) ({ cls := "CallMelt$Choice", name := "<init>", desc := "(LCallMelt$Code;LCallMelt$Melter;LCallMelt$Machine;)V" } : Jvm.MethodName) ∈ lw_tbl := List.mem_of_getElem? (i := 338) (by decide +kernel)
theorem wd_338 : Jvm.Cond.methodLink "CallMelt" (48 : Nat) ({ cls := "CallMelt$Choice", name := "<init>", desc := "(LCallMelt$Code;LCallMelt$Melter;LCallMelt$Machine;)V" } : Jvm.MethodName) ∈ lw_u := lw_in wt_338 rfl
theorem wt_339 : Jvm.Cond.instanceMethod ({ cls := "CallMelt$Choice", name := "<init>", desc := "(LCallMelt$Code;LCallMelt$Melter;LCallMelt$Machine;)V" } : Jvm.MethodName) ∈ lw_tbl := List.mem_of_getElem? (i := 339) (by decide +kernel)
theorem wd_339 : Jvm.Cond.instanceMethod ({ cls := "CallMelt$Choice", name := "<init>", desc := "(LCallMelt$Code;LCallMelt$Melter;LCallMelt$Machine;)V" } : Jvm.MethodName) ∈ lw_u := lw_in wt_339 rfl
theorem wt_340 : Jvm.Cond.code ({ cls := "CallMelt$Choice", name := "<init>", desc := "(LCallMelt$Code;LCallMelt$Melter;LCallMelt$Machine;)V" } : Jvm.MethodName) prog_2_method_1_code (4 : Nat) (Option.none : Option Jvm.ClassFile.FieldType) ∈ lw_tbl := List.mem_of_getElem? (i := 340) (by decide +kernel)
theorem wg_340 : Jvm.Cond.code ({ cls := "CallMelt$Choice", name := "<init>", desc := "(LCallMelt$Code;LCallMelt$Melter;LCallMelt$Machine;)V" } : Jvm.MethodName) prog_2_method_1_code (4 : Nat) (Option.none : Option Jvm.ClassFile.FieldType) ∈ lw_g := List.mem_filter.mpr ⟨wt_340, rfl⟩
theorem wd_340 : Jvm.Cond.code ({ cls := "CallMelt$Choice", name := "<init>", desc := "(LCallMelt$Code;LCallMelt$Melter;LCallMelt$Machine;)V" } : Jvm.MethodName) prog_2_method_1_code (4 : Nat) (Option.none : Option Jvm.ClassFile.FieldType) ∈ lw_u := lw_in wt_340 rfl
theorem wt_341 : Jvm.Cond.methodLink "CallMelt$Choice" (3 : Nat) ({ cls := "java/lang/Object", name := "<init>", desc := "()V" } : Jvm.MethodName) ∈ lw_tbl := List.mem_of_getElem? (i := 341) (by decide +kernel)
theorem wd_341 : Jvm.Cond.methodLink "CallMelt$Choice" (3 : Nat) ({ cls := "java/lang/Object", name := "<init>", desc := "()V" } : Jvm.MethodName) ∈ lw_u := lw_in wt_341 rfl
theorem wt_401 : Jvm.Cond.methodLink "CallMeltLaw" (13 : Nat) ({ cls := "CallMelt", name := "number", desc := "(I)I" } : Jvm.MethodName) ∈ lw_tbl := List.mem_of_getElem? (i := 401) (by decide +kernel)
theorem wd_401 : Jvm.Cond.methodLink "CallMeltLaw" (13 : Nat) ({ cls := "CallMelt", name := "number", desc := "(I)I" } : Jvm.MethodName) ∈ lw_u := lw_in wt_401 rfl
theorem wt_458 : Jvm.Cond.methodLink "CallMeltLaw" (18 : Nat) ({ cls := "CallMelt", name := "name", desc := "(I)I" } : Jvm.MethodName) ∈ lw_tbl := List.mem_of_getElem? (i := 458) (by decide +kernel)
theorem wd_458 : Jvm.Cond.methodLink "CallMeltLaw" (18 : Nat) ({ cls := "CallMelt", name := "name", desc := "(I)I" } : Jvm.MethodName) ∈ lw_u := lw_in wt_458 rfl
theorem wt_465 : Jvm.Cond.methodLink "CallMeltLaw" (22 : Nat) ({ cls := "CallMelt", name := "act", desc := "(III)I" } : Jvm.MethodName) ∈ lw_tbl := List.mem_of_getElem? (i := 465) (by decide +kernel)
theorem wd_465 : Jvm.Cond.methodLink "CallMeltLaw" (22 : Nat) ({ cls := "CallMelt", name := "act", desc := "(III)I" } : Jvm.MethodName) ∈ lw_u := lw_in wt_465 rfl
theorem wt_469 : Jvm.Cond.methodLink "CallMeltLaw" (27 : Nat) ({ cls := "CallMelt", name := "join", desc := "(IIII)I" } : Jvm.MethodName) ∈ lw_tbl := List.mem_of_getElem? (i := 469) (by decide +kernel)
theorem wd_469 : Jvm.Cond.methodLink "CallMeltLaw" (27 : Nat) ({ cls := "CallMelt", name := "join", desc := "(IIII)I" } : Jvm.MethodName) ∈ lw_u := lw_in wt_469 rfl
theorem wt_473 : Jvm.Cond.methodLink "CallMeltLaw" (32 : Nat) ({ cls := "CallMelt", name := "set", desc := "(II)I" } : Jvm.MethodName) ∈ lw_tbl := List.mem_of_getElem? (i := 473) (by decide +kernel)
theorem wd_473 : Jvm.Cond.methodLink "CallMeltLaw" (32 : Nat) ({ cls := "CallMelt", name := "set", desc := "(II)I" } : Jvm.MethodName) ∈ lw_u := lw_in wt_473 rfl
theorem wt_477 : Jvm.Cond.methodLink "CallMeltLaw" (37 : Nat) ({ cls := "CallMelt", name := "call", desc := "(IIII)I" } : Jvm.MethodName) ∈ lw_tbl := List.mem_of_getElem? (i := 477) (by decide +kernel)
theorem wd_477 : Jvm.Cond.methodLink "CallMeltLaw" (37 : Nat) ({ cls := "CallMelt", name := "call", desc := "(IIII)I" } : Jvm.MethodName) ∈ lw_u := lw_in wt_477 rfl
theorem wt_489 : Jvm.Cond.methodLink "CallMeltLaw" (41 : Nat) ({ cls := "CallMelt", name := "routine", desc := "(I)I" } : Jvm.MethodName) ∈ lw_tbl := List.mem_of_getElem? (i := 489) (by decide +kernel)
theorem wd_489 : Jvm.Cond.methodLink "CallMeltLaw" (41 : Nat) ({ cls := "CallMelt", name := "routine", desc := "(I)I" } : Jvm.MethodName) ∈ lw_u := lw_in wt_489 rfl
theorem wt_497 : Jvm.Cond.methodLink "CallMeltLaw" (45 : Nat) ({ cls := "CallMelt", name := "body", desc := "(II)I" } : Jvm.MethodName) ∈ lw_tbl := List.mem_of_getElem? (i := 497) (by decide +kernel)
theorem wd_497 : Jvm.Cond.methodLink "CallMeltLaw" (45 : Nat) ({ cls := "CallMelt", name := "body", desc := "(II)I" } : Jvm.MethodName) ∈ lw_u := lw_in wt_497 rfl
theorem wt_538 : Jvm.Cond.methodLink "CallMeltLaw" (49 : Nat) ({ cls := "CallMelt", name := "told", desc := "(II)I" } : Jvm.MethodName) ∈ lw_tbl := List.mem_of_getElem? (i := 538) (by decide +kernel)
theorem wd_538 : Jvm.Cond.methodLink "CallMeltLaw" (49 : Nat) ({ cls := "CallMelt", name := "told", desc := "(II)I" } : Jvm.MethodName) ∈ lw_u := lw_in wt_538 rfl
theorem wt_568 : Jvm.Cond.methodLink "CallMeltLaw" (53 : Nat) ({ cls := "CallMelt", name := "about", desc := "(II)I" } : Jvm.MethodName) ∈ lw_tbl := List.mem_of_getElem? (i := 568) (by decide +kernel)
theorem wd_568 : Jvm.Cond.methodLink "CallMeltLaw" (53 : Nat) ({ cls := "CallMelt", name := "about", desc := "(II)I" } : Jvm.MethodName) ∈ lw_u := lw_in wt_568 rfl
theorem wt_586 : Jvm.Cond.methodLink "CallMeltLaw" (57 : Nat) ({ cls := "CallMelt", name := "same", desc := "(II)I" } : Jvm.MethodName) ∈ lw_tbl := List.mem_of_getElem? (i := 586) (by decide +kernel)
theorem wd_586 : Jvm.Cond.methodLink "CallMeltLaw" (57 : Nat) ({ cls := "CallMelt", name := "same", desc := "(II)I" } : Jvm.MethodName) ∈ lw_u := lw_in wt_586 rfl
theorem wt_594 : Jvm.Cond.methodLink "CallMeltLaw" (61 : Nat) ({ cls := "CallMelt", name := "run", desc := "(IIIII)I" } : Jvm.MethodName) ∈ lw_tbl := List.mem_of_getElem? (i := 594) (by decide +kernel)
theorem wd_594 : Jvm.Cond.methodLink "CallMeltLaw" (61 : Nat) ({ cls := "CallMelt", name := "run", desc := "(IIIII)I" } : Jvm.MethodName) ∈ lw_u := lw_in wt_594 rfl
theorem wt_715 : Jvm.Cond.methodLink "CallMeltLaw" (66 : Nat) ({ cls := "CallMelt", name := "ran", desc := "(I)I" } : Jvm.MethodName) ∈ lw_tbl := List.mem_of_getElem? (i := 715) (by decide +kernel)
theorem wd_715 : Jvm.Cond.methodLink "CallMeltLaw" (66 : Nat) ({ cls := "CallMelt", name := "ran", desc := "(I)I" } : Jvm.MethodName) ∈ lw_u := lw_in wt_715 rfl
theorem wt_723 : Jvm.Cond.methodLink "CallMeltLaw" (70 : Nat) ({ cls := "CallMelt", name := "row", desc := "(I)I" } : Jvm.MethodName) ∈ lw_tbl := List.mem_of_getElem? (i := 723) (by decide +kernel)
theorem wd_723 : Jvm.Cond.methodLink "CallMeltLaw" (70 : Nat) ({ cls := "CallMelt", name := "row", desc := "(I)I" } : Jvm.MethodName) ∈ lw_u := lw_in wt_723 rfl
theorem wt_728 : Jvm.Cond.methodLink "CallMeltLaw" (74 : Nat) ({ cls := "CallMelt", name := "lay", desc := "(II)I" } : Jvm.MethodName) ∈ lw_tbl := List.mem_of_getElem? (i := 728) (by decide +kernel)
theorem wd_728 : Jvm.Cond.methodLink "CallMeltLaw" (74 : Nat) ({ cls := "CallMelt", name := "lay", desc := "(II)I" } : Jvm.MethodName) ∈ lw_u := lw_in wt_728 rfl
theorem wt_733 : Jvm.Cond.methodLink "CallMeltLaw" (78 : Nat) ({ cls := "CallMelt", name := "clearCounts", desc := "()I" } : Jvm.MethodName) ∈ lw_tbl := List.mem_of_getElem? (i := 733) (by decide +kernel)
theorem wd_733 : Jvm.Cond.methodLink "CallMeltLaw" (78 : Nat) ({ cls := "CallMelt", name := "clearCounts", desc := "()I" } : Jvm.MethodName) ∈ lw_u := lw_in wt_733 rfl
theorem wt_744 : Jvm.Cond.methodLink "CallMeltLaw" (83 : Nat) ({ cls := "CallMelt", name := "melt", desc := "(I)I" } : Jvm.MethodName) ∈ lw_tbl := List.mem_of_getElem? (i := 744) (by decide +kernel)
theorem wd_744 : Jvm.Cond.methodLink "CallMeltLaw" (83 : Nat) ({ cls := "CallMelt", name := "melt", desc := "(I)I" } : Jvm.MethodName) ∈ lw_u := lw_in wt_744 rfl
theorem wt_805 : Jvm.Cond.methodLink "CallMeltLaw" (87 : Nat) ({ cls := "CallMelt", name := "gain", desc := "(I)I" } : Jvm.MethodName) ∈ lw_tbl := List.mem_of_getElem? (i := 805) (by decide +kernel)
theorem wd_805 : Jvm.Cond.methodLink "CallMeltLaw" (87 : Nat) ({ cls := "CallMelt", name := "gain", desc := "(I)I" } : Jvm.MethodName) ∈ lw_u := lw_in wt_805 rfl
theorem wt_814 : Jvm.Cond.methodLink "CallMeltLaw" (91 : Nat) ({ cls := "CallMelt", name := "weight", desc := "(I)I" } : Jvm.MethodName) ∈ lw_tbl := List.mem_of_getElem? (i := 814) (by decide +kernel)
theorem wd_814 : Jvm.Cond.methodLink "CallMeltLaw" (91 : Nat) ({ cls := "CallMelt", name := "weight", desc := "(I)I" } : Jvm.MethodName) ∈ lw_u := lw_in wt_814 rfl
theorem wt_819 : Jvm.Cond.methodLink "CallMeltLaw" (95 : Nat) ({ cls := "CallMelt", name := "ahead", desc := "(I)I" } : Jvm.MethodName) ∈ lw_tbl := List.mem_of_getElem? (i := 819) (by decide +kernel)
theorem wd_819 : Jvm.Cond.methodLink "CallMeltLaw" (95 : Nat) ({ cls := "CallMelt", name := "ahead", desc := "(I)I" } : Jvm.MethodName) ∈ lw_u := lw_in wt_819 rfl
theorem wt_883 : Jvm.Cond.methodLink "CallMeltLaw" (99 : Nat) ({ cls := "CallMelt", name := "drop", desc := "()I" } : Jvm.MethodName) ∈ lw_tbl := List.mem_of_getElem? (i := 883) (by decide +kernel)
theorem wd_883 : Jvm.Cond.methodLink "CallMeltLaw" (99 : Nat) ({ cls := "CallMelt", name := "drop", desc := "()I" } : Jvm.MethodName) ∈ lw_u := lw_in wt_883 rfl
theorem wt_896 : Jvm.Cond.methodLink "CallMeltLaw" (103 : Nat) ({ cls := "CallMelt", name := "undo", desc := "()I" } : Jvm.MethodName) ∈ lw_tbl := List.mem_of_getElem? (i := 896) (by decide +kernel)
theorem wd_896 : Jvm.Cond.methodLink "CallMeltLaw" (103 : Nat) ({ cls := "CallMelt", name := "undo", desc := "()I" } : Jvm.MethodName) ∈ lw_u := lw_in wt_896 rfl
theorem wt_906 : Jvm.Cond.methodLink "CallMeltLaw" (107 : Nat) ({ cls := "CallMelt", name := "layout", desc := "(II)I" } : Jvm.MethodName) ∈ lw_tbl := List.mem_of_getElem? (i := 906) (by decide +kernel)
theorem wd_906 : Jvm.Cond.methodLink "CallMeltLaw" (107 : Nat) ({ cls := "CallMelt", name := "layout", desc := "(II)I" } : Jvm.MethodName) ∈ lw_u := lw_in wt_906 rfl
theorem wt_933 : Jvm.Cond.methodLink "CallMeltLaw" (111 : Nat) ({ cls := "CallMelt", name := "laid", desc := "(I)I" } : Jvm.MethodName) ∈ lw_tbl := List.mem_of_getElem? (i := 933) (by decide +kernel)
theorem wd_933 : Jvm.Cond.methodLink "CallMeltLaw" (111 : Nat) ({ cls := "CallMelt", name := "laid", desc := "(I)I" } : Jvm.MethodName) ∈ lw_u := lw_in wt_933 rfl
theorem wt_945 : Jvm.Cond.methodLink "CallMeltLaw" (115 : Nat) ({ cls := "CallMelt", name := "next", desc := "(II)I" } : Jvm.MethodName) ∈ lw_tbl := List.mem_of_getElem? (i := 945) (by decide +kernel)
theorem wd_945 : Jvm.Cond.methodLink "CallMeltLaw" (115 : Nat) ({ cls := "CallMelt", name := "next", desc := "(II)I" } : Jvm.MethodName) ∈ lw_u := lw_in wt_945 rfl
theorem wt_957 : Jvm.Cond.methodLink "CallMeltLaw" (119 : Nat) ({ cls := "CallMelt", name := "count", desc := "(I)I" } : Jvm.MethodName) ∈ lw_tbl := List.mem_of_getElem? (i := 957) (by decide +kernel)
theorem wd_957 : Jvm.Cond.methodLink "CallMeltLaw" (119 : Nat) ({ cls := "CallMelt", name := "count", desc := "(I)I" } : Jvm.MethodName) ∈ lw_u := lw_in wt_957 rfl
theorem wt_974 : Jvm.Cond.classLink "CallMeltLaw" (10 : Nat) "CallMeltModel" ∈ lw_tbl := List.mem_of_getElem? (i := 974) (by decide +kernel)
theorem wd_974 : Jvm.Cond.classLink "CallMeltLaw" (10 : Nat) "CallMeltModel" ∈ lw_u := lw_in wt_974 rfl
theorem wt_975 : Jvm.Cond.instantiable "CallMeltModel" (46 : Nat) ∈ lw_tbl := List.mem_of_getElem? (i := 975) (by decide +kernel)
theorem wd_975 : Jvm.Cond.instantiable "CallMeltModel" (46 : Nat) ∈ lw_u := lw_in wt_975 rfl
theorem wt_976 : Jvm.Cond.methodLink "CallMeltLaw" (12 : Nat) ({ cls := "CallMeltModel", name := "<init>", desc := "()V" } : Jvm.MethodName) ∈ lw_tbl := List.mem_of_getElem? (i := 976) (by decide +kernel)
theorem wd_976 : Jvm.Cond.methodLink "CallMeltLaw" (12 : Nat) ({ cls := "CallMeltModel", name := "<init>", desc := "()V" } : Jvm.MethodName) ∈ lw_u := lw_in wt_976 rfl
theorem wt_977 : Jvm.Cond.instanceMethod ({ cls := "CallMeltModel", name := "<init>", desc := "()V" } : Jvm.MethodName) ∈ lw_tbl := List.mem_of_getElem? (i := 977) (by decide +kernel)
theorem wd_977 : Jvm.Cond.instanceMethod ({ cls := "CallMeltModel", name := "<init>", desc := "()V" } : Jvm.MethodName) ∈ lw_u := lw_in wt_977 rfl
theorem wt_978 : Jvm.Cond.code ({ cls := "CallMeltModel", name := "<init>", desc := "()V" } : Jvm.MethodName) prog_11_method_1_code (1 : Nat) (Option.none : Option Jvm.ClassFile.FieldType) ∈ lw_tbl := List.mem_of_getElem? (i := 978) (by decide +kernel)
theorem wg_978 : Jvm.Cond.code ({ cls := "CallMeltModel", name := "<init>", desc := "()V" } : Jvm.MethodName) prog_11_method_1_code (1 : Nat) (Option.none : Option Jvm.ClassFile.FieldType) ∈ lw_g := List.mem_filter.mpr ⟨wt_978, rfl⟩
theorem wd_978 : Jvm.Cond.code ({ cls := "CallMeltModel", name := "<init>", desc := "()V" } : Jvm.MethodName) prog_11_method_1_code (1 : Nat) (Option.none : Option Jvm.ClassFile.FieldType) ∈ lw_u := lw_in wt_978 rfl
theorem wt_979 : Jvm.Cond.methodLink "CallMeltModel" (1 : Nat) ({ cls := "java/lang/Object", name := "<init>", desc := "()V" } : Jvm.MethodName) ∈ lw_tbl := List.mem_of_getElem? (i := 979) (by decide +kernel)
theorem wd_979 : Jvm.Cond.methodLink "CallMeltModel" (1 : Nat) ({ cls := "java/lang/Object", name := "<init>", desc := "()V" } : Jvm.MethodName) ∈ lw_u := lw_in wt_979 rfl
theorem wt_980 : Jvm.Cond.constant "CallMeltModel" (67 : Nat) (46800 : Int32) ∈ lw_tbl := List.mem_of_getElem? (i := 980) (by decide +kernel)
theorem wd_980 : Jvm.Cond.constant "CallMeltModel" (67 : Nat) (46800 : Int32) ∈ lw_u := lw_in wt_980 rfl
theorem wt_1120 : Jvm.Cond.methodLink "CallMeltLaw" (17 : Nat) ({ cls := "CallMeltModel", name := "number", desc := "(I)I" } : Jvm.MethodName) ∈ lw_tbl := List.mem_of_getElem? (i := 1120) (by decide +kernel)
theorem wd_1120 : Jvm.Cond.methodLink "CallMeltLaw" (17 : Nat) ({ cls := "CallMeltModel", name := "number", desc := "(I)I" } : Jvm.MethodName) ∈ lw_u := lw_in wt_1120 rfl
theorem wt_1163 : Jvm.Cond.methodLink "CallMeltLaw" (21 : Nat) ({ cls := "CallMeltModel", name := "name", desc := "(I)I" } : Jvm.MethodName) ∈ lw_tbl := List.mem_of_getElem? (i := 1163) (by decide +kernel)
theorem wd_1163 : Jvm.Cond.methodLink "CallMeltLaw" (21 : Nat) ({ cls := "CallMeltModel", name := "name", desc := "(I)I" } : Jvm.MethodName) ∈ lw_u := lw_in wt_1163 rfl
theorem wt_1168 : Jvm.Cond.methodLink "CallMeltLaw" (26 : Nat) ({ cls := "CallMeltModel", name := "act", desc := "(III)I" } : Jvm.MethodName) ∈ lw_tbl := List.mem_of_getElem? (i := 1168) (by decide +kernel)
theorem wd_1168 : Jvm.Cond.methodLink "CallMeltLaw" (26 : Nat) ({ cls := "CallMeltModel", name := "act", desc := "(III)I" } : Jvm.MethodName) ∈ lw_u := lw_in wt_1168 rfl
theorem wt_1177 : Jvm.Cond.methodLink "CallMeltLaw" (31 : Nat) ({ cls := "CallMeltModel", name := "join", desc := "(IIII)I" } : Jvm.MethodName) ∈ lw_tbl := List.mem_of_getElem? (i := 1177) (by decide +kernel)
theorem wd_1177 : Jvm.Cond.methodLink "CallMeltLaw" (31 : Nat) ({ cls := "CallMeltModel", name := "join", desc := "(IIII)I" } : Jvm.MethodName) ∈ lw_u := lw_in wt_1177 rfl
theorem wt_1181 : Jvm.Cond.methodLink "CallMeltLaw" (36 : Nat) ({ cls := "CallMeltModel", name := "set", desc := "(II)I" } : Jvm.MethodName) ∈ lw_tbl := List.mem_of_getElem? (i := 1181) (by decide +kernel)
theorem wd_1181 : Jvm.Cond.methodLink "CallMeltLaw" (36 : Nat) ({ cls := "CallMeltModel", name := "set", desc := "(II)I" } : Jvm.MethodName) ∈ lw_u := lw_in wt_1181 rfl
theorem wt_1185 : Jvm.Cond.methodLink "CallMeltLaw" (40 : Nat) ({ cls := "CallMeltModel", name := "call", desc := "(IIII)I" } : Jvm.MethodName) ∈ lw_tbl := List.mem_of_getElem? (i := 1185) (by decide +kernel)
theorem wd_1185 : Jvm.Cond.methodLink "CallMeltLaw" (40 : Nat) ({ cls := "CallMeltModel", name := "call", desc := "(IIII)I" } : Jvm.MethodName) ∈ lw_u := lw_in wt_1185 rfl
theorem wt_1193 : Jvm.Cond.methodLink "CallMeltLaw" (44 : Nat) ({ cls := "CallMeltModel", name := "routine", desc := "(I)I" } : Jvm.MethodName) ∈ lw_tbl := List.mem_of_getElem? (i := 1193) (by decide +kernel)
theorem wd_1193 : Jvm.Cond.methodLink "CallMeltLaw" (44 : Nat) ({ cls := "CallMeltModel", name := "routine", desc := "(I)I" } : Jvm.MethodName) ∈ lw_u := lw_in wt_1193 rfl
theorem wt_1198 : Jvm.Cond.methodLink "CallMeltLaw" (48 : Nat) ({ cls := "CallMeltModel", name := "body", desc := "(II)I" } : Jvm.MethodName) ∈ lw_tbl := List.mem_of_getElem? (i := 1198) (by decide +kernel)
theorem wd_1198 : Jvm.Cond.methodLink "CallMeltLaw" (48 : Nat) ({ cls := "CallMeltModel", name := "body", desc := "(II)I" } : Jvm.MethodName) ∈ lw_u := lw_in wt_1198 rfl
theorem wt_1223 : Jvm.Cond.methodLink "CallMeltLaw" (52 : Nat) ({ cls := "CallMeltModel", name := "told", desc := "(II)I" } : Jvm.MethodName) ∈ lw_tbl := List.mem_of_getElem? (i := 1223) (by decide +kernel)
theorem wd_1223 : Jvm.Cond.methodLink "CallMeltLaw" (52 : Nat) ({ cls := "CallMeltModel", name := "told", desc := "(II)I" } : Jvm.MethodName) ∈ lw_u := lw_in wt_1223 rfl
theorem wt_1233 : Jvm.Cond.methodLink "CallMeltLaw" (56 : Nat) ({ cls := "CallMeltModel", name := "about", desc := "(II)I" } : Jvm.MethodName) ∈ lw_tbl := List.mem_of_getElem? (i := 1233) (by decide +kernel)
theorem wd_1233 : Jvm.Cond.methodLink "CallMeltLaw" (56 : Nat) ({ cls := "CallMeltModel", name := "about", desc := "(II)I" } : Jvm.MethodName) ∈ lw_u := lw_in wt_1233 rfl
theorem wt_1241 : Jvm.Cond.methodLink "CallMeltLaw" (60 : Nat) ({ cls := "CallMeltModel", name := "same", desc := "(II)I" } : Jvm.MethodName) ∈ lw_tbl := List.mem_of_getElem? (i := 1241) (by decide +kernel)
theorem wd_1241 : Jvm.Cond.methodLink "CallMeltLaw" (60 : Nat) ({ cls := "CallMeltModel", name := "same", desc := "(II)I" } : Jvm.MethodName) ∈ lw_u := lw_in wt_1241 rfl
theorem wt_1245 : Jvm.Cond.methodLink "CallMeltLaw" (65 : Nat) ({ cls := "CallMeltModel", name := "run", desc := "(IIIII)I" } : Jvm.MethodName) ∈ lw_tbl := List.mem_of_getElem? (i := 1245) (by decide +kernel)
theorem wd_1245 : Jvm.Cond.methodLink "CallMeltLaw" (65 : Nat) ({ cls := "CallMeltModel", name := "run", desc := "(IIIII)I" } : Jvm.MethodName) ∈ lw_u := lw_in wt_1245 rfl
theorem wt_1298 : Jvm.Cond.methodLink "CallMeltLaw" (69 : Nat) ({ cls := "CallMeltModel", name := "ran", desc := "(I)I" } : Jvm.MethodName) ∈ lw_tbl := List.mem_of_getElem? (i := 1298) (by decide +kernel)
theorem wd_1298 : Jvm.Cond.methodLink "CallMeltLaw" (69 : Nat) ({ cls := "CallMeltModel", name := "ran", desc := "(I)I" } : Jvm.MethodName) ∈ lw_u := lw_in wt_1298 rfl
theorem wt_1302 : Jvm.Cond.methodLink "CallMeltLaw" (73 : Nat) ({ cls := "CallMeltModel", name := "row", desc := "(I)I" } : Jvm.MethodName) ∈ lw_tbl := List.mem_of_getElem? (i := 1302) (by decide +kernel)
theorem wd_1302 : Jvm.Cond.methodLink "CallMeltLaw" (73 : Nat) ({ cls := "CallMeltModel", name := "row", desc := "(I)I" } : Jvm.MethodName) ∈ lw_u := lw_in wt_1302 rfl
theorem wt_1306 : Jvm.Cond.methodLink "CallMeltLaw" (77 : Nat) ({ cls := "CallMeltModel", name := "lay", desc := "(II)I" } : Jvm.MethodName) ∈ lw_tbl := List.mem_of_getElem? (i := 1306) (by decide +kernel)
theorem wd_1306 : Jvm.Cond.methodLink "CallMeltLaw" (77 : Nat) ({ cls := "CallMeltModel", name := "lay", desc := "(II)I" } : Jvm.MethodName) ∈ lw_u := lw_in wt_1306 rfl
theorem wt_1310 : Jvm.Cond.methodLink "CallMeltLaw" (82 : Nat) ({ cls := "CallMeltModel", name := "clearCounts", desc := "()I" } : Jvm.MethodName) ∈ lw_tbl := List.mem_of_getElem? (i := 1310) (by decide +kernel)
theorem wd_1310 : Jvm.Cond.methodLink "CallMeltLaw" (82 : Nat) ({ cls := "CallMeltModel", name := "clearCounts", desc := "()I" } : Jvm.MethodName) ∈ lw_u := lw_in wt_1310 rfl
theorem wt_1314 : Jvm.Cond.methodLink "CallMeltLaw" (106 : Nat) ({ cls := "CallMeltModel", name := "undo", desc := "()I" } : Jvm.MethodName) ∈ lw_tbl := List.mem_of_getElem? (i := 1314) (by decide +kernel)
theorem wd_1314 : Jvm.Cond.methodLink "CallMeltLaw" (106 : Nat) ({ cls := "CallMeltModel", name := "undo", desc := "()I" } : Jvm.MethodName) ∈ lw_u := lw_in wt_1314 rfl
theorem wt_1322 : Jvm.Cond.methodLink "CallMeltLaw" (86 : Nat) ({ cls := "CallMeltModel", name := "melt", desc := "(I)I" } : Jvm.MethodName) ∈ lw_tbl := List.mem_of_getElem? (i := 1322) (by decide +kernel)
theorem wd_1322 : Jvm.Cond.methodLink "CallMeltLaw" (86 : Nat) ({ cls := "CallMeltModel", name := "melt", desc := "(I)I" } : Jvm.MethodName) ∈ lw_u := lw_in wt_1322 rfl
theorem wt_1350 : Jvm.Cond.methodLink "CallMeltLaw" (90 : Nat) ({ cls := "CallMeltModel", name := "gain", desc := "(I)I" } : Jvm.MethodName) ∈ lw_tbl := List.mem_of_getElem? (i := 1350) (by decide +kernel)
theorem wd_1350 : Jvm.Cond.methodLink "CallMeltLaw" (90 : Nat) ({ cls := "CallMeltModel", name := "gain", desc := "(I)I" } : Jvm.MethodName) ∈ lw_u := lw_in wt_1350 rfl
theorem wt_1354 : Jvm.Cond.methodLink "CallMeltLaw" (94 : Nat) ({ cls := "CallMeltModel", name := "weight", desc := "(I)I" } : Jvm.MethodName) ∈ lw_tbl := List.mem_of_getElem? (i := 1354) (by decide +kernel)
theorem wd_1354 : Jvm.Cond.methodLink "CallMeltLaw" (94 : Nat) ({ cls := "CallMeltModel", name := "weight", desc := "(I)I" } : Jvm.MethodName) ∈ lw_u := lw_in wt_1354 rfl
theorem wt_1358 : Jvm.Cond.methodLink "CallMeltLaw" (98 : Nat) ({ cls := "CallMeltModel", name := "ahead", desc := "(I)I" } : Jvm.MethodName) ∈ lw_tbl := List.mem_of_getElem? (i := 1358) (by decide +kernel)
theorem wd_1358 : Jvm.Cond.methodLink "CallMeltLaw" (98 : Nat) ({ cls := "CallMeltModel", name := "ahead", desc := "(I)I" } : Jvm.MethodName) ∈ lw_u := lw_in wt_1358 rfl
theorem wt_1402 : Jvm.Cond.methodLink "CallMeltLaw" (102 : Nat) ({ cls := "CallMeltModel", name := "drop", desc := "()I" } : Jvm.MethodName) ∈ lw_tbl := List.mem_of_getElem? (i := 1402) (by decide +kernel)
theorem wd_1402 : Jvm.Cond.methodLink "CallMeltLaw" (102 : Nat) ({ cls := "CallMeltModel", name := "drop", desc := "()I" } : Jvm.MethodName) ∈ lw_u := lw_in wt_1402 rfl
theorem wt_1406 : Jvm.Cond.methodLink "CallMeltLaw" (110 : Nat) ({ cls := "CallMeltModel", name := "layout", desc := "(II)I" } : Jvm.MethodName) ∈ lw_tbl := List.mem_of_getElem? (i := 1406) (by decide +kernel)
theorem wd_1406 : Jvm.Cond.methodLink "CallMeltLaw" (110 : Nat) ({ cls := "CallMeltModel", name := "layout", desc := "(II)I" } : Jvm.MethodName) ∈ lw_u := lw_in wt_1406 rfl
theorem wt_1418 : Jvm.Cond.methodLink "CallMeltLaw" (114 : Nat) ({ cls := "CallMeltModel", name := "laid", desc := "(I)I" } : Jvm.MethodName) ∈ lw_tbl := List.mem_of_getElem? (i := 1418) (by decide +kernel)
theorem wd_1418 : Jvm.Cond.methodLink "CallMeltLaw" (114 : Nat) ({ cls := "CallMeltModel", name := "laid", desc := "(I)I" } : Jvm.MethodName) ∈ lw_u := lw_in wt_1418 rfl
theorem wt_1422 : Jvm.Cond.methodLink "CallMeltLaw" (118 : Nat) ({ cls := "CallMeltModel", name := "next", desc := "(II)I" } : Jvm.MethodName) ∈ lw_tbl := List.mem_of_getElem? (i := 1422) (by decide +kernel)
theorem wd_1422 : Jvm.Cond.methodLink "CallMeltLaw" (118 : Nat) ({ cls := "CallMeltModel", name := "next", desc := "(II)I" } : Jvm.MethodName) ∈ lw_u := lw_in wt_1422 rfl
theorem wt_1426 : Jvm.Cond.methodLink "CallMeltLaw" (122 : Nat) ({ cls := "CallMeltModel", name := "count", desc := "(I)I" } : Jvm.MethodName) ∈ lw_tbl := List.mem_of_getElem? (i := 1426) (by decide +kernel)
theorem wd_1426 : Jvm.Cond.methodLink "CallMeltLaw" (122 : Nat) ({ cls := "CallMeltModel", name := "count", desc := "(I)I" } : Jvm.MethodName) ∈ lw_u := lw_in wt_1426 rfl
abbrev mX8_init : MI := (RX8, yX8_init, cX8_init, 1, none, 3, 61)
theorem okX8_init : MOk mX8_init := ⟨by decide +kernel, rfl, wg_101, wd_84, ⟨by decide +kernel, by decide +kernel⟩⟩
abbrev mX9_init : MI := (RX9, yX9_init, cX9_init, 1, none, 1, 20)
theorem okX9_init : MOk mX9_init := ⟨by decide +kernel, rfl, wg_978, wd_93, ⟨by decide +kernel, by decide +kernel⟩⟩
abbrev mX0_init : MI := (RX0, yX0_init, cX0_init, 4, none, 1, 20)
theorem okX0_init : MOk mX0_init := ⟨by decide +kernel, rfl, wg_340, wd_92, ⟨by decide +kernel, by decide +kernel⟩⟩
abbrev mX1_init : MI := (RX1, yX1_init, cX1_init, 1, none, 2, 40)
theorem okX1_init : MOk mX1_init := ⟨by decide +kernel, rfl, wg_109, wd_85, ⟨by decide +kernel, by decide +kernel⟩⟩
abbrev mX2_init : MI := (RX2, yX2_init, cX2_init, 2, none, 1, 20)
theorem okX2_init : MOk mX2_init := ⟨by decide +kernel, rfl, wg_208, wd_88, ⟨by decide +kernel, by decide +kernel⟩⟩
abbrev mX3_init : MI := (RX3, yX3_init, cX3_init, 2, none, 1, 20)
theorem okX3_init : MOk mX3_init := ⟨by decide +kernel, rfl, wg_269, wd_89, ⟨by decide +kernel, by decide +kernel⟩⟩
abbrev mX4_init : MI := (RX4, yX4_init, cX4_init, 1, none, 1, 20)
theorem okX4_init : MOk mX4_init := ⟨by decide +kernel, rfl, wg_321, wd_91, ⟨by decide +kernel, by decide +kernel⟩⟩
abbrev mX5_init : MI := (RX5, yX5_init, cX5_init, 1, none, 1, 20)
theorem okX5_init : MOk mX5_init := ⟨by decide +kernel, rfl, wg_115, wd_86, ⟨by decide +kernel, by decide +kernel⟩⟩
abbrev mX6_init : MI := (RX6, yX6_init, cX6_init, 1, none, 1, 20)
theorem okX6_init : MOk mX6_init := ⟨by decide +kernel, rfl, wg_161, wd_87, ⟨by decide +kernel, by decide +kernel⟩⟩
abbrev mX7_init : MI := (RX7, yX7_init, cX7_init, 2, none, 2, 40)
theorem okX7_init : MOk mX7_init := ⟨by decide +kernel, rfl, wg_285, wd_90, ⟨by decide +kernel, by decide +kernel⟩⟩
theorem wt_505 : Jvm.Cond.methodLinkNest "CallMelt$Past" (24 : Nat) ({ cls := "CallMelt$Rows", name := "<init>", desc := "()V" } : Jvm.MethodName) "CallMelt" ∈ lw_tbl := List.mem_of_getElem? (i := 505) (by decide +kernel)
theorem wd_505 : Jvm.Cond.methodLinkNest "CallMelt$Past" (24 : Nat) ({ cls := "CallMelt$Rows", name := "<init>", desc := "()V" } : Jvm.MethodName) "CallMelt" ∈ lw_u := lw_inN wt_505 rfl
