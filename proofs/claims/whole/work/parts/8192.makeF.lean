theorem mk1 : (Jvm.Cond.initialized "QuarrelKeys") ∈ lw_good := lw_good_in (List.mem_append_right _ (List.mem_of_getElem? (i := 1) (by decide +kernel))) rfl
theorem mk2 : (Jvm.Cond.initialized "QuarrelKeys$Tape") ∈ lw_good := lw_good_in (List.mem_append_right _ (List.mem_of_getElem? (i := 2) (by decide +kernel))) rfl
theorem mk3 : (Jvm.Cond.initialized "QuarrelKeys$QuarterReader") ∈ lw_good := lw_good_in (List.mem_append_right _ (List.mem_of_getElem? (i := 3) (by decide +kernel))) rfl
theorem mk4 : (Jvm.Cond.initialized "QuarrelKeys$DecadesReader") ∈ lw_good := lw_good_in (List.mem_append_right _ (List.mem_of_getElem? (i := 4) (by decide +kernel))) rfl
theorem mk5 : (Jvm.Cond.initialized "QuarrelKeys$Quarter") ∈ lw_good := lw_good_in (List.mem_append_right _ (List.mem_of_getElem? (i := 5) (by decide +kernel))) rfl
theorem mk6 : (Jvm.Cond.initialized "QuarrelKeys$Decades") ∈ lw_good := lw_good_in (List.mem_append_right _ (List.mem_of_getElem? (i := 6) (by decide +kernel))) rfl
theorem mk7 : (Jvm.Cond.initialized "QuarrelKeys$Life") ∈ lw_good := lw_good_in (List.mem_append_right _ (List.mem_of_getElem? (i := 7) (by decide +kernel))) rfl
theorem mk8 : (Jvm.Cond.initialized "QuarrelKeys$Paths") ∈ lw_good := lw_good_in (List.mem_append_right _ (List.mem_of_getElem? (i := 8) (by decide +kernel))) rfl
theorem mk9 : (Jvm.Cond.initialized "QuarrelKeys$Fitting") ∈ lw_good := lw_good_in (List.mem_append_right _ (List.mem_of_getElem? (i := 9) (by decide +kernel))) rfl
theorem mk10 : (Jvm.Cond.initialized "QuarrelKeys$Bargain") ∈ lw_good := lw_good_in (List.mem_append_right _ (List.mem_of_getElem? (i := 10) (by decide +kernel))) rfl
theorem mk11 : (Jvm.Cond.initialized "QuarrelKeys$Fraction") ∈ lw_good := lw_good_in (List.mem_append_right _ (List.mem_of_getElem? (i := 11) (by decide +kernel))) rfl
theorem mk12 : (Jvm.Cond.initialized "QuarrelKeys$Tray") ∈ lw_good := lw_good_in (List.mem_append_right _ (List.mem_of_getElem? (i := 12) (by decide +kernel))) rfl
theorem mk13 : (Jvm.Cond.initialized "QuarrelKeysModel") ∈ lw_good := lw_good_in (List.mem_append_right _ (List.mem_of_getElem? (i := 13) (by decide +kernel))) rfl
theorem mk17 : (Jvm.Cond.classLink "QuarrelKeysLaw" (7 : Nat) "QuarrelKeys") ∈ lw_good := lw_good_in (List.mem_append_right _ (List.mem_of_getElem? (i := 17) (by decide +kernel))) rfl
theorem mk18 : (Jvm.Cond.instantiable "QuarrelKeys" (20 : Nat)) ∈ lw_good := lw_good_in (List.mem_append_right _ (List.mem_of_getElem? (i := 18) (by decide +kernel))) rfl
theorem mk19 : (Jvm.Cond.methodLink "QuarrelKeysLaw" (9 : Nat) ({ cls := "QuarrelKeys", name := "<init>", desc := "()V" } : Jvm.MethodName)) ∈ lw_good := lw_good_in (List.mem_append_right _ (List.mem_of_getElem? (i := 19) (by decide +kernel))) rfl
theorem mk20 : (Jvm.Cond.instanceMethod ({ cls := "QuarrelKeys", name := "<init>", desc := "()V" } : Jvm.MethodName)) ∈ lw_good := lw_good_in (List.mem_append_right _ (List.mem_of_getElem? (i := 20) (by decide +kernel))) rfl
theorem mk21 : (Jvm.Cond.code ({ cls := "QuarrelKeys", name := "<init>", desc := "()V" } : Jvm.MethodName) prog_1_method_1_code (2 : Nat) (Option.none : Option Jvm.ClassFile.FieldType)) ∈ lw_good := lw_good_in (List.mem_append_right _ (List.mem_of_getElem? (i := 21) (by decide +kernel))) rfl
theorem mk22 : (Jvm.Cond.methodLink "QuarrelKeys" (1 : Nat) ({ cls := "java/lang/Object", name := "<init>", desc := "()V" } : Jvm.MethodName)) ∈ lw_good := lw_good_in (List.mem_append_right _ (List.mem_of_getElem? (i := 22) (by decide +kernel))) rfl
theorem mk25 : (Jvm.Cond.classLink "QuarrelKeys" (9 : Nat) "QuarrelKeys$Tray") ∈ lw_good := lw_good_in (List.mem_append_right _ (List.mem_of_getElem? (i := 25) (by decide +kernel))) rfl
theorem mk27 : (Jvm.Cond.classLink "QuarrelKeys" (15 : Nat) "QuarrelKeys$Tape") ∈ lw_good := lw_good_in (List.mem_append_right _ (List.mem_of_getElem? (i := 27) (by decide +kernel))) rfl
theorem mk28 : (Jvm.Cond.instantiable "QuarrelKeys$Tape" (14 : Nat)) ∈ lw_good := lw_good_in (List.mem_append_right _ (List.mem_of_getElem? (i := 28) (by decide +kernel))) rfl
theorem mk30 : (Jvm.Cond.instanceMethod ({ cls := "QuarrelKeys$Tape", name := "<init>", desc := "()V" } : Jvm.MethodName)) ∈ lw_good := lw_good_in (List.mem_append_right _ (List.mem_of_getElem? (i := 30) (by decide +kernel))) rfl
theorem mk31 : (Jvm.Cond.code ({ cls := "QuarrelKeys$Tape", name := "<init>", desc := "()V" } : Jvm.MethodName) prog_11_method_1_code (1 : Nat) (Option.none : Option Jvm.ClassFile.FieldType)) ∈ lw_good := lw_good_in (List.mem_append_right _ (List.mem_of_getElem? (i := 31) (by decide +kernel))) rfl
theorem mk32 : (Jvm.Cond.methodLink "QuarrelKeys$Tape" (3 : Nat) ({ cls := "java/lang/Object", name := "<init>", desc := "()V" } : Jvm.MethodName)) ∈ lw_good := lw_good_in (List.mem_append_right _ (List.mem_of_getElem? (i := 32) (by decide +kernel))) rfl
theorem mk33 : (Jvm.Cond.fieldLink "QuarrelKeys$Tape" (9 : Nat) "QuarrelKeys$Tape" "bytes" "[B") ∈ lw_good := lw_good_in (List.mem_append_right _ (List.mem_of_getElem? (i := 33) (by decide +kernel))) rfl
theorem mk90 : (Jvm.Cond.classLink "QuarrelKeys" (22 : Nat) "QuarrelKeys$QuarterReader") ∈ lw_good := lw_good_in (List.mem_append_right _ (List.mem_of_getElem? (i := 90) (by decide +kernel))) rfl
theorem mk91 : (Jvm.Cond.instantiable "QuarrelKeys$QuarterReader" (2 : Nat)) ∈ lw_good := lw_good_in (List.mem_append_right _ (List.mem_of_getElem? (i := 91) (by decide +kernel))) rfl
theorem mk93 : (Jvm.Cond.instanceMethod ({ cls := "QuarrelKeys$QuarterReader", name := "<init>", desc := "()V" } : Jvm.MethodName)) ∈ lw_good := lw_good_in (List.mem_append_right _ (List.mem_of_getElem? (i := 93) (by decide +kernel))) rfl
theorem mk94 : (Jvm.Cond.code ({ cls := "QuarrelKeys$QuarterReader", name := "<init>", desc := "()V" } : Jvm.MethodName) prog_10_method_1_code (1 : Nat) (Option.none : Option Jvm.ClassFile.FieldType)) ∈ lw_good := lw_good_in (List.mem_append_right _ (List.mem_of_getElem? (i := 94) (by decide +kernel))) rfl
theorem mk95 : (Jvm.Cond.methodLink "QuarrelKeys$QuarterReader" (3 : Nat) ({ cls := "java/lang/Object", name := "<init>", desc := "()V" } : Jvm.MethodName)) ∈ lw_good := lw_good_in (List.mem_append_right _ (List.mem_of_getElem? (i := 95) (by decide +kernel))) rfl
theorem mk103 : (Jvm.Cond.classLink "QuarrelKeys" (29 : Nat) "QuarrelKeys$DecadesReader") ∈ lw_good := lw_good_in (List.mem_append_right _ (List.mem_of_getElem? (i := 103) (by decide +kernel))) rfl
theorem mk104 : (Jvm.Cond.instantiable "QuarrelKeys$DecadesReader" (2 : Nat)) ∈ lw_good := lw_good_in (List.mem_append_right _ (List.mem_of_getElem? (i := 104) (by decide +kernel))) rfl
theorem mk106 : (Jvm.Cond.instanceMethod ({ cls := "QuarrelKeys$DecadesReader", name := "<init>", desc := "()V" } : Jvm.MethodName)) ∈ lw_good := lw_good_in (List.mem_append_right _ (List.mem_of_getElem? (i := 106) (by decide +kernel))) rfl
theorem mk107 : (Jvm.Cond.code ({ cls := "QuarrelKeys$DecadesReader", name := "<init>", desc := "()V" } : Jvm.MethodName) prog_4_method_1_code (1 : Nat) (Option.none : Option Jvm.ClassFile.FieldType)) ∈ lw_good := lw_good_in (List.mem_append_right _ (List.mem_of_getElem? (i := 107) (by decide +kernel))) rfl
theorem mk108 : (Jvm.Cond.methodLink "QuarrelKeys$DecadesReader" (3 : Nat) ({ cls := "java/lang/Object", name := "<init>", desc := "()V" } : Jvm.MethodName)) ∈ lw_good := lw_good_in (List.mem_append_right _ (List.mem_of_getElem? (i := 108) (by decide +kernel))) rfl
theorem mk109 : (Jvm.Cond.fieldLink "QuarrelKeys$DecadesReader" (11 : Nat) "QuarrelKeys$DecadesReader" "opened" "[I") ∈ lw_good := lw_good_in (List.mem_append_right _ (List.mem_of_getElem? (i := 109) (by decide +kernel))) rfl
theorem mk117 : (Jvm.Cond.classLink "QuarrelKeys" (36 : Nat) "QuarrelKeys$Quarter") ∈ lw_good := lw_good_in (List.mem_append_right _ (List.mem_of_getElem? (i := 117) (by decide +kernel))) rfl
theorem mk118 : (Jvm.Cond.instantiable "QuarrelKeys$Quarter" (14 : Nat)) ∈ lw_good := lw_good_in (List.mem_append_right _ (List.mem_of_getElem? (i := 118) (by decide +kernel))) rfl
theorem mk120 : (Jvm.Cond.instanceMethod ({ cls := "QuarrelKeys$Quarter", name := "<init>", desc := "()V" } : Jvm.MethodName)) ∈ lw_good := lw_good_in (List.mem_append_right _ (List.mem_of_getElem? (i := 120) (by decide +kernel))) rfl
theorem mk121 : (Jvm.Cond.code ({ cls := "QuarrelKeys$Quarter", name := "<init>", desc := "()V" } : Jvm.MethodName) prog_9_method_1_code (1 : Nat) (Option.none : Option Jvm.ClassFile.FieldType)) ∈ lw_good := lw_good_in (List.mem_append_right _ (List.mem_of_getElem? (i := 121) (by decide +kernel))) rfl
theorem mk122 : (Jvm.Cond.methodLink "QuarrelKeys$Quarter" (3 : Nat) ({ cls := "java/lang/Object", name := "<init>", desc := "()V" } : Jvm.MethodName)) ∈ lw_good := lw_good_in (List.mem_append_right _ (List.mem_of_getElem? (i := 122) (by decide +kernel))) rfl
theorem mk123 : (Jvm.Cond.fieldLink "QuarrelKeys$Quarter" (9 : Nat) "QuarrelKeys$Quarter" "names" "[J") ∈ lw_good := lw_good_in (List.mem_append_right _ (List.mem_of_getElem? (i := 123) (by decide +kernel))) rfl
theorem mk124 : (Jvm.Cond.fieldLink "QuarrelKeys$Quarter" (15 : Nat) "QuarrelKeys$Quarter" "temper" "[I") ∈ lw_good := lw_good_in (List.mem_append_right _ (List.mem_of_getElem? (i := 124) (by decide +kernel))) rfl
theorem mk128 : (Jvm.Cond.fieldLink "QuarrelKeys$Quarter" (19 : Nat) "QuarrelKeys$Quarter" "lives" "[I") ∈ lw_good := lw_good_in (List.mem_append_right _ (List.mem_of_getElem? (i := 128) (by decide +kernel))) rfl
theorem mk134 : (Jvm.Cond.fieldLink "QuarrelKeys$Quarter" (22 : Nat) "QuarrelKeys$Quarter" "likings" "[I") ∈ lw_good := lw_good_in (List.mem_append_right _ (List.mem_of_getElem? (i := 134) (by decide +kernel))) rfl
theorem mk135 : (Jvm.Cond.fieldLink "QuarrelKeys$Quarter" (25 : Nat) "QuarrelKeys$Quarter" "one" "[I") ∈ lw_good := lw_good_in (List.mem_append_right _ (List.mem_of_getElem? (i := 135) (by decide +kernel))) rfl
theorem mk140 : (Jvm.Cond.fieldLink "QuarrelKeys$Quarter" (28 : Nat) "QuarrelKeys$Quarter" "other" "[I") ∈ lw_good := lw_good_in (List.mem_append_right _ (List.mem_of_getElem? (i := 140) (by decide +kernel))) rfl
theorem mk145 : (Jvm.Cond.fieldLink "QuarrelKeys$Quarter" (31 : Nat) "QuarrelKeys$Quarter" "grudge" "[I") ∈ lw_good := lw_good_in (List.mem_append_right _ (List.mem_of_getElem? (i := 145) (by decide +kernel))) rfl
theorem mk163 : (Jvm.Cond.fieldLink "QuarrelKeys$Quarter" (34 : Nat) "QuarrelKeys$Quarter" "odds" "I") ∈ lw_good := lw_good_in (List.mem_append_right _ (List.mem_of_getElem? (i := 163) (by decide +kernel))) rfl
theorem mk167 : (Jvm.Cond.fieldLink "QuarrelKeys$Quarter" (38 : Nat) "QuarrelKeys$Quarter" "cool" "I") ∈ lw_good := lw_good_in (List.mem_append_right _ (List.mem_of_getElem? (i := 167) (by decide +kernel))) rfl
theorem mk209 : (Jvm.Cond.classLink "QuarrelKeys" (46 : Nat) "QuarrelKeys$Decades") ∈ lw_good := lw_good_in (List.mem_append_right _ (List.mem_of_getElem? (i := 209) (by decide +kernel))) rfl
theorem mk210 : (Jvm.Cond.instantiable "QuarrelKeys$Decades" (8 : Nat)) ∈ lw_good := lw_good_in (List.mem_append_right _ (List.mem_of_getElem? (i := 210) (by decide +kernel))) rfl
theorem mk212 : (Jvm.Cond.instanceMethod ({ cls := "QuarrelKeys$Decades", name := "<init>", desc := "()V" } : Jvm.MethodName)) ∈ lw_good := lw_good_in (List.mem_append_right _ (List.mem_of_getElem? (i := 212) (by decide +kernel))) rfl
theorem mk213 : (Jvm.Cond.code ({ cls := "QuarrelKeys$Decades", name := "<init>", desc := "()V" } : Jvm.MethodName) prog_3_method_1_code (1 : Nat) (Option.none : Option Jvm.ClassFile.FieldType)) ∈ lw_good := lw_good_in (List.mem_append_right _ (List.mem_of_getElem? (i := 213) (by decide +kernel))) rfl
theorem mk214 : (Jvm.Cond.methodLink "QuarrelKeys$Decades" (5 : Nat) ({ cls := "java/lang/Object", name := "<init>", desc := "()V" } : Jvm.MethodName)) ∈ lw_good := lw_good_in (List.mem_append_right _ (List.mem_of_getElem? (i := 214) (by decide +kernel))) rfl
theorem mk215 : (Jvm.Cond.fieldLink "QuarrelKeys$Decades" (11 : Nat) "QuarrelKeys$Decades" "kind" "[I") ∈ lw_good := lw_good_in (List.mem_append_right _ (List.mem_of_getElem? (i := 215) (by decide +kernel))) rfl
theorem mk217 : (Jvm.Cond.fieldLink "QuarrelKeys$Decades" (15 : Nat) "QuarrelKeys$Decades" "first" "[I") ∈ lw_good := lw_good_in (List.mem_append_right _ (List.mem_of_getElem? (i := 217) (by decide +kernel))) rfl
theorem mk219 : (Jvm.Cond.fieldLink "QuarrelKeys$Decades" (18 : Nat) "QuarrelKeys$Decades" "second" "[I") ∈ lw_good := lw_good_in (List.mem_append_right _ (List.mem_of_getElem? (i := 219) (by decide +kernel))) rfl
theorem mk221 : (Jvm.Cond.fieldLink "QuarrelKeys$Decades" (21 : Nat) "QuarrelKeys$Decades" "compares" "[I") ∈ lw_good := lw_good_in (List.mem_append_right _ (List.mem_of_getElem? (i := 221) (by decide +kernel))) rfl
theorem mk223 : (Jvm.Cond.fieldLink "QuarrelKeys$Decades" (24 : Nat) "QuarrelKeys$Decades" "mate" "[I") ∈ lw_good := lw_good_in (List.mem_append_right _ (List.mem_of_getElem? (i := 223) (by decide +kernel))) rfl
theorem mk253 : (Jvm.Cond.classLink "QuarrelKeys" (64 : Nat) "QuarrelKeys$Life") ∈ lw_good := lw_good_in (List.mem_append_right _ (List.mem_of_getElem? (i := 253) (by decide +kernel))) rfl
theorem mk254 : (Jvm.Cond.instantiable "QuarrelKeys$Life" (9 : Nat)) ∈ lw_good := lw_good_in (List.mem_append_right _ (List.mem_of_getElem? (i := 254) (by decide +kernel))) rfl
theorem mk256 : (Jvm.Cond.instanceMethod ({ cls := "QuarrelKeys$Life", name := "<init>", desc := "()V" } : Jvm.MethodName)) ∈ lw_good := lw_good_in (List.mem_append_right _ (List.mem_of_getElem? (i := 256) (by decide +kernel))) rfl
theorem mk257 : (Jvm.Cond.code ({ cls := "QuarrelKeys$Life", name := "<init>", desc := "()V" } : Jvm.MethodName) prog_7_method_1_code (1 : Nat) (Option.none : Option Jvm.ClassFile.FieldType)) ∈ lw_good := lw_good_in (List.mem_append_right _ (List.mem_of_getElem? (i := 257) (by decide +kernel))) rfl
theorem mk258 : (Jvm.Cond.methodLink "QuarrelKeys$Life" (3 : Nat) ({ cls := "java/lang/Object", name := "<init>", desc := "()V" } : Jvm.MethodName)) ∈ lw_good := lw_good_in (List.mem_append_right _ (List.mem_of_getElem? (i := 258) (by decide +kernel))) rfl
theorem mk259 : (Jvm.Cond.fieldLink "QuarrelKeys$Life" (11 : Nat) "QuarrelKeys$Life" "timesLeft" "[I") ∈ lw_good := lw_good_in (List.mem_append_right _ (List.mem_of_getElem? (i := 259) (by decide +kernel))) rfl
theorem mk294 : (Jvm.Cond.classLink "QuarrelKeys" (74 : Nat) "QuarrelKeys$Paths") ∈ lw_good := lw_good_in (List.mem_append_right _ (List.mem_of_getElem? (i := 294) (by decide +kernel))) rfl
theorem mk295 : (Jvm.Cond.instantiable "QuarrelKeys$Paths" (9 : Nat)) ∈ lw_good := lw_good_in (List.mem_append_right _ (List.mem_of_getElem? (i := 295) (by decide +kernel))) rfl
theorem mk297 : (Jvm.Cond.instanceMethod ({ cls := "QuarrelKeys$Paths", name := "<init>", desc := "()V" } : Jvm.MethodName)) ∈ lw_good := lw_good_in (List.mem_append_right _ (List.mem_of_getElem? (i := 297) (by decide +kernel))) rfl
theorem mk298 : (Jvm.Cond.code ({ cls := "QuarrelKeys$Paths", name := "<init>", desc := "()V" } : Jvm.MethodName) prog_8_method_1_code (1 : Nat) (Option.none : Option Jvm.ClassFile.FieldType)) ∈ lw_good := lw_good_in (List.mem_append_right _ (List.mem_of_getElem? (i := 298) (by decide +kernel))) rfl
theorem mk299 : (Jvm.Cond.methodLink "QuarrelKeys$Paths" (3 : Nat) ({ cls := "java/lang/Object", name := "<init>", desc := "()V" } : Jvm.MethodName)) ∈ lw_good := lw_good_in (List.mem_append_right _ (List.mem_of_getElem? (i := 299) (by decide +kernel))) rfl
theorem mk300 : (Jvm.Cond.fieldLink "QuarrelKeys$Paths" (11 : Nat) "QuarrelKeys$Paths" "far" "[B") ∈ lw_good := lw_good_in (List.mem_append_right _ (List.mem_of_getElem? (i := 300) (by decide +kernel))) rfl
theorem mk301 : (Jvm.Cond.fieldLink "QuarrelKeys$Paths" (15 : Nat) "QuarrelKeys$Paths" "queue" "[I") ∈ lw_good := lw_good_in (List.mem_append_right _ (List.mem_of_getElem? (i := 301) (by decide +kernel))) rfl
theorem mk302 : (Jvm.Cond.fieldLink "QuarrelKeys$Paths" (19 : Nat) "QuarrelKeys$Paths" "tableOne" "[I") ∈ lw_good := lw_good_in (List.mem_append_right _ (List.mem_of_getElem? (i := 302) (by decide +kernel))) rfl
theorem mk303 : (Jvm.Cond.fieldLink "QuarrelKeys$Paths" (22 : Nat) "QuarrelKeys$Paths" "tableOther" "[I") ∈ lw_good := lw_good_in (List.mem_append_right _ (List.mem_of_getElem? (i := 303) (by decide +kernel))) rfl
theorem mk304 : (Jvm.Cond.fieldLink "QuarrelKeys$Paths" (25 : Nat) "QuarrelKeys$Paths" "goal" "[I") ∈ lw_good := lw_good_in (List.mem_append_right _ (List.mem_of_getElem? (i := 304) (by decide +kernel))) rfl
theorem mk305 : (Jvm.Cond.fieldLink "QuarrelKeys$Paths" (28 : Nat) "QuarrelKeys$Paths" "row" "[I") ∈ lw_good := lw_good_in (List.mem_append_right _ (List.mem_of_getElem? (i := 305) (by decide +kernel))) rfl
theorem mk307 : (Jvm.Cond.fieldLink "QuarrelKeys$Paths" (31 : Nat) "QuarrelKeys$Paths" "tablePeople" "I") ∈ lw_good := lw_good_in (List.mem_append_right _ (List.mem_of_getElem? (i := 307) (by decide +kernel))) rfl
theorem mk330 : (Jvm.Cond.classLink "QuarrelKeys" (81 : Nat) "QuarrelKeys$Fitting") ∈ lw_good := lw_good_in (List.mem_append_right _ (List.mem_of_getElem? (i := 330) (by decide +kernel))) rfl
theorem mk331 : (Jvm.Cond.instantiable "QuarrelKeys$Fitting" (9 : Nat)) ∈ lw_good := lw_good_in (List.mem_append_right _ (List.mem_of_getElem? (i := 331) (by decide +kernel))) rfl
theorem mk333 : (Jvm.Cond.instanceMethod ({ cls := "QuarrelKeys$Fitting", name := "<init>", desc := "()V" } : Jvm.MethodName)) ∈ lw_good := lw_good_in (List.mem_append_right _ (List.mem_of_getElem? (i := 333) (by decide +kernel))) rfl
theorem mk334 : (Jvm.Cond.code ({ cls := "QuarrelKeys$Fitting", name := "<init>", desc := "()V" } : Jvm.MethodName) prog_5_method_1_code (1 : Nat) (Option.none : Option Jvm.ClassFile.FieldType)) ∈ lw_good := lw_good_in (List.mem_append_right _ (List.mem_of_getElem? (i := 334) (by decide +kernel))) rfl
theorem mk335 : (Jvm.Cond.methodLink "QuarrelKeys$Fitting" (3 : Nat) ({ cls := "java/lang/Object", name := "<init>", desc := "()V" } : Jvm.MethodName)) ∈ lw_good := lw_good_in (List.mem_append_right _ (List.mem_of_getElem? (i := 335) (by decide +kernel))) rfl
theorem mk336 : (Jvm.Cond.fieldLink "QuarrelKeys$Fitting" (9 : Nat) "QuarrelKeys$Fitting" "wanted" "[I") ∈ lw_good := lw_good_in (List.mem_append_right _ (List.mem_of_getElem? (i := 336) (by decide +kernel))) rfl
theorem mk337 : (Jvm.Cond.fieldLink "QuarrelKeys$Fitting" (15 : Nat) "QuarrelKeys$Fitting" "misfit" "[I") ∈ lw_good := lw_good_in (List.mem_append_right _ (List.mem_of_getElem? (i := 337) (by decide +kernel))) rfl
theorem mk338 : (Jvm.Cond.fieldLink "QuarrelKeys$Fitting" (18 : Nat) "QuarrelKeys$Fitting" "tally" "[I") ∈ lw_good := lw_good_in (List.mem_append_right _ (List.mem_of_getElem? (i := 338) (by decide +kernel))) rfl
theorem mk339 : (Jvm.Cond.fieldLink "QuarrelKeys$Fitting" (21 : Nat) "QuarrelKeys$Fitting" "row" "[I") ∈ lw_good := lw_good_in (List.mem_append_right _ (List.mem_of_getElem? (i := 339) (by decide +kernel))) rfl
theorem mk340 : (Jvm.Cond.fieldLink "QuarrelKeys$Fitting" (24 : Nat) "QuarrelKeys$Fitting" "first" "[I") ∈ lw_good := lw_good_in (List.mem_append_right _ (List.mem_of_getElem? (i := 340) (by decide +kernel))) rfl
theorem mk366 : (Jvm.Cond.classLink "QuarrelKeys" (88 : Nat) "QuarrelKeys$Bargain") ∈ lw_good := lw_good_in (List.mem_append_right _ (List.mem_of_getElem? (i := 366) (by decide +kernel))) rfl
theorem mk367 : (Jvm.Cond.instantiable "QuarrelKeys$Bargain" (5 : Nat)) ∈ lw_good := lw_good_in (List.mem_append_right _ (List.mem_of_getElem? (i := 367) (by decide +kernel))) rfl
theorem mk369 : (Jvm.Cond.instanceMethod ({ cls := "QuarrelKeys$Bargain", name := "<init>", desc := "()V" } : Jvm.MethodName)) ∈ lw_good := lw_good_in (List.mem_append_right _ (List.mem_of_getElem? (i := 369) (by decide +kernel))) rfl
theorem mk370 : (Jvm.Cond.code ({ cls := "QuarrelKeys$Bargain", name := "<init>", desc := "()V" } : Jvm.MethodName) prog_2_method_1_code (1 : Nat) (Option.none : Option Jvm.ClassFile.FieldType)) ∈ lw_good := lw_good_in (List.mem_append_right _ (List.mem_of_getElem? (i := 370) (by decide +kernel))) rfl
theorem mk371 : (Jvm.Cond.methodLink "QuarrelKeys$Bargain" (3 : Nat) ({ cls := "java/lang/Object", name := "<init>", desc := "()V" } : Jvm.MethodName)) ∈ lw_good := lw_good_in (List.mem_append_right _ (List.mem_of_getElem? (i := 371) (by decide +kernel))) rfl
theorem mk372 : (Jvm.Cond.fieldLink "QuarrelKeys$Bargain" (9 : Nat) "QuarrelKeys$Bargain" "gets" "[I") ∈ lw_good := lw_good_in (List.mem_append_right _ (List.mem_of_getElem? (i := 372) (by decide +kernel))) rfl
theorem mk374 : (Jvm.Cond.fieldLink "QuarrelKeys$Bargain" (15 : Nat) "QuarrelKeys$Bargain" "points" "[I") ∈ lw_good := lw_good_in (List.mem_append_right _ (List.mem_of_getElem? (i := 374) (by decide +kernel))) rfl
theorem mk375 : (Jvm.Cond.fieldLink "QuarrelKeys$Bargain" (18 : Nat) "QuarrelKeys$Bargain" "worth" "[I") ∈ lw_good := lw_good_in (List.mem_append_right _ (List.mem_of_getElem? (i := 375) (by decide +kernel))) rfl
theorem mk376 : (Jvm.Cond.fieldLink "QuarrelKeys$Bargain" (21 : Nat) "QuarrelKeys$Bargain" "holders" "[I") ∈ lw_good := lw_good_in (List.mem_append_right _ (List.mem_of_getElem? (i := 376) (by decide +kernel))) rfl
theorem mk377 : (Jvm.Cond.fieldLink "QuarrelKeys$Bargain" (24 : Nat) "QuarrelKeys$Bargain" "moved" "[I") ∈ lw_good := lw_good_in (List.mem_append_right _ (List.mem_of_getElem? (i := 377) (by decide +kernel))) rfl
theorem mk389 : (Jvm.Cond.classLink "QuarrelKeys" (95 : Nat) "QuarrelKeys$Fraction") ∈ lw_good := lw_good_in (List.mem_append_right _ (List.mem_of_getElem? (i := 389) (by decide +kernel))) rfl
theorem mk390 : (Jvm.Cond.instantiable "QuarrelKeys$Fraction" (2 : Nat)) ∈ lw_good := lw_good_in (List.mem_append_right _ (List.mem_of_getElem? (i := 390) (by decide +kernel))) rfl
theorem mk392 : (Jvm.Cond.instanceMethod ({ cls := "QuarrelKeys$Fraction", name := "<init>", desc := "()V" } : Jvm.MethodName)) ∈ lw_good := lw_good_in (List.mem_append_right _ (List.mem_of_getElem? (i := 392) (by decide +kernel))) rfl
theorem mk393 : (Jvm.Cond.code ({ cls := "QuarrelKeys$Fraction", name := "<init>", desc := "()V" } : Jvm.MethodName) prog_6_method_1_code (1 : Nat) (Option.none : Option Jvm.ClassFile.FieldType)) ∈ lw_good := lw_good_in (List.mem_append_right _ (List.mem_of_getElem? (i := 393) (by decide +kernel))) rfl
theorem mk394 : (Jvm.Cond.methodLink "QuarrelKeys$Fraction" (1 : Nat) ({ cls := "java/lang/Object", name := "<init>", desc := "()V" } : Jvm.MethodName)) ∈ lw_good := lw_good_in (List.mem_append_right _ (List.mem_of_getElem? (i := 394) (by decide +kernel))) rfl
theorem mk395 : (Jvm.Cond.fieldLink "QuarrelKeys$Fraction" (7 : Nat) "QuarrelKeys$Fraction" "top" "J") ∈ lw_good := lw_good_in (List.mem_append_right _ (List.mem_of_getElem? (i := 395) (by decide +kernel))) rfl
theorem mk397 : (Jvm.Cond.fieldLink "QuarrelKeys$Fraction" (13 : Nat) "QuarrelKeys$Fraction" "bottom" "J") ∈ lw_good := lw_good_in (List.mem_append_right _ (List.mem_of_getElem? (i := 397) (by decide +kernel))) rfl
theorem mk404 : (Jvm.Cond.instantiable "QuarrelKeys$Tray" (3 : Nat)) ∈ lw_good := lw_good_in (List.mem_append_right _ (List.mem_of_getElem? (i := 404) (by decide +kernel))) rfl
theorem mk406 : (Jvm.Cond.instanceMethod ({ cls := "QuarrelKeys$Tray", name := "<init>", desc := "()V" } : Jvm.MethodName)) ∈ lw_good := lw_good_in (List.mem_append_right _ (List.mem_of_getElem? (i := 406) (by decide +kernel))) rfl
theorem mk407 : (Jvm.Cond.code ({ cls := "QuarrelKeys$Tray", name := "<init>", desc := "()V" } : Jvm.MethodName) prog_12_method_1_code (1 : Nat) (Option.none : Option Jvm.ClassFile.FieldType)) ∈ lw_good := lw_good_in (List.mem_append_right _ (List.mem_of_getElem? (i := 407) (by decide +kernel))) rfl
theorem mk408 : (Jvm.Cond.methodLink "QuarrelKeys$Tray" (3 : Nat) ({ cls := "java/lang/Object", name := "<init>", desc := "()V" } : Jvm.MethodName)) ∈ lw_good := lw_good_in (List.mem_append_right _ (List.mem_of_getElem? (i := 408) (by decide +kernel))) rfl
theorem mk409 : (Jvm.Cond.fieldLink "QuarrelKeys$Tray" (9 : Nat) "QuarrelKeys$Tray" "numbers" "[J") ∈ lw_good := lw_good_in (List.mem_append_right _ (List.mem_of_getElem? (i := 409) (by decide +kernel))) rfl
theorem mk413 : (Jvm.Cond.fieldLink "QuarrelKeys$Tray" (15 : Nat) "QuarrelKeys$Tray" "sort" "I") ∈ lw_good := lw_good_in (List.mem_append_right _ (List.mem_of_getElem? (i := 413) (by decide +kernel))) rfl
theorem mk424 : (Jvm.Cond.fieldLink "QuarrelKeys" (11 : Nat) "QuarrelKeys" "trays" "[LQuarrelKeys$Tray;") ∈ lw_good := lw_good_in (List.mem_append_right _ (List.mem_of_getElem? (i := 424) (by decide +kernel))) rfl
theorem mk425 : (Jvm.Cond.fieldLink "QuarrelKeys" (18 : Nat) "QuarrelKeys" "tape" "LQuarrelKeys$Tape;") ∈ lw_good := lw_good_in (List.mem_append_right _ (List.mem_of_getElem? (i := 425) (by decide +kernel))) rfl
theorem mk426 : (Jvm.Cond.fieldLink "QuarrelKeys" (25 : Nat) "QuarrelKeys" "quarterReader" "LQuarrelKeys$QuarterReader;") ∈ lw_good := lw_good_in (List.mem_append_right _ (List.mem_of_getElem? (i := 426) (by decide +kernel))) rfl
theorem mk427 : (Jvm.Cond.fieldLink "QuarrelKeys" (32 : Nat) "QuarrelKeys" "decadesReader" "LQuarrelKeys$DecadesReader;") ∈ lw_good := lw_good_in (List.mem_append_right _ (List.mem_of_getElem? (i := 427) (by decide +kernel))) rfl
theorem mk428 : (Jvm.Cond.fieldLink "QuarrelKeys" (39 : Nat) "QuarrelKeys" "quarter" "LQuarrelKeys$Quarter;") ∈ lw_good := lw_good_in (List.mem_append_right _ (List.mem_of_getElem? (i := 428) (by decide +kernel))) rfl
theorem mk429 : (Jvm.Cond.fieldLink "QuarrelKeys" (43 : Nat) "QuarrelKeys" "spareQuarter" "LQuarrelKeys$Quarter;") ∈ lw_good := lw_good_in (List.mem_append_right _ (List.mem_of_getElem? (i := 429) (by decide +kernel))) rfl
theorem mk430 : (Jvm.Cond.fieldLink "QuarrelKeys" (49 : Nat) "QuarrelKeys" "decades" "LQuarrelKeys$Decades;") ∈ lw_good := lw_good_in (List.mem_append_right _ (List.mem_of_getElem? (i := 430) (by decide +kernel))) rfl
theorem mk431 : (Jvm.Cond.fieldLink "QuarrelKeys" (53 : Nat) "QuarrelKeys" "spareDecades" "LQuarrelKeys$Decades;") ∈ lw_good := lw_good_in (List.mem_append_right _ (List.mem_of_getElem? (i := 431) (by decide +kernel))) rfl
theorem mk432 : (Jvm.Cond.fieldLink "QuarrelKeys" (56 : Nat) "QuarrelKeys" "markedQuarters" "[LQuarrelKeys$Quarter;") ∈ lw_good := lw_good_in (List.mem_append_right _ (List.mem_of_getElem? (i := 432) (by decide +kernel))) rfl
theorem mk433 : (Jvm.Cond.fieldLink "QuarrelKeys" (60 : Nat) "QuarrelKeys" "markedDecades" "[LQuarrelKeys$Decades;") ∈ lw_good := lw_good_in (List.mem_append_right _ (List.mem_of_getElem? (i := 433) (by decide +kernel))) rfl
theorem mk434 : (Jvm.Cond.fieldLink "QuarrelKeys" (67 : Nat) "QuarrelKeys" "life" "LQuarrelKeys$Life;") ∈ lw_good := lw_good_in (List.mem_append_right _ (List.mem_of_getElem? (i := 434) (by decide +kernel))) rfl
theorem mk435 : (Jvm.Cond.fieldLink "QuarrelKeys" (71 : Nat) "QuarrelKeys" "dream" "LQuarrelKeys$Life;") ∈ lw_good := lw_good_in (List.mem_append_right _ (List.mem_of_getElem? (i := 435) (by decide +kernel))) rfl
theorem mk436 : (Jvm.Cond.fieldLink "QuarrelKeys" (77 : Nat) "QuarrelKeys" "paths" "LQuarrelKeys$Paths;") ∈ lw_good := lw_good_in (List.mem_append_right _ (List.mem_of_getElem? (i := 436) (by decide +kernel))) rfl
theorem mk437 : (Jvm.Cond.fieldLink "QuarrelKeys" (84 : Nat) "QuarrelKeys" "fitting" "LQuarrelKeys$Fitting;") ∈ lw_good := lw_good_in (List.mem_append_right _ (List.mem_of_getElem? (i := 437) (by decide +kernel))) rfl
theorem mk438 : (Jvm.Cond.fieldLink "QuarrelKeys" (91 : Nat) "QuarrelKeys" "bargain" "LQuarrelKeys$Bargain;") ∈ lw_good := lw_good_in (List.mem_append_right _ (List.mem_of_getElem? (i := 438) (by decide +kernel))) rfl
theorem mk439 : (Jvm.Cond.fieldLink "QuarrelKeys" (98 : Nat) "QuarrelKeys" "fraction" "LQuarrelKeys$Fraction;") ∈ lw_good := lw_good_in (List.mem_append_right _ (List.mem_of_getElem? (i := 439) (by decide +kernel))) rfl
theorem mk442 : (Jvm.Cond.fieldLink "QuarrelKeys" (102 : Nat) "QuarrelKeys" "toldFault" "I") ∈ lw_good := lw_good_in (List.mem_append_right _ (List.mem_of_getElem? (i := 442) (by decide +kernel))) rfl
theorem mk443 : (Jvm.Cond.fieldLink "QuarrelKeys" (106 : Nat) "QuarrelKeys" "toldPlace" "I") ∈ lw_good := lw_good_in (List.mem_append_right _ (List.mem_of_getElem? (i := 443) (by decide +kernel))) rfl
theorem mk1240 : (Jvm.Cond.classLink "QuarrelKeysLaw" (10 : Nat) "QuarrelKeysModel") ∈ lw_good := lw_good_in (List.mem_append_right _ (List.mem_of_getElem? (i := 1240) (by decide +kernel))) rfl
theorem mk1241 : (Jvm.Cond.instantiable "QuarrelKeysModel" (49 : Nat)) ∈ lw_good := lw_good_in (List.mem_append_right _ (List.mem_of_getElem? (i := 1241) (by decide +kernel))) rfl
theorem mk1242 : (Jvm.Cond.methodLink "QuarrelKeysLaw" (12 : Nat) ({ cls := "QuarrelKeysModel", name := "<init>", desc := "()V" } : Jvm.MethodName)) ∈ lw_good := lw_good_in (List.mem_append_right _ (List.mem_of_getElem? (i := 1242) (by decide +kernel))) rfl
theorem mk1243 : (Jvm.Cond.instanceMethod ({ cls := "QuarrelKeysModel", name := "<init>", desc := "()V" } : Jvm.MethodName)) ∈ lw_good := lw_good_in (List.mem_append_right _ (List.mem_of_getElem? (i := 1243) (by decide +kernel))) rfl
theorem mk1244 : (Jvm.Cond.code ({ cls := "QuarrelKeysModel", name := "<init>", desc := "()V" } : Jvm.MethodName) prog_14_method_1_code (2 : Nat) (Option.none : Option Jvm.ClassFile.FieldType)) ∈ lw_good := lw_good_in (List.mem_append_right _ (List.mem_of_getElem? (i := 1244) (by decide +kernel))) rfl
theorem mk1245 : (Jvm.Cond.methodLink "QuarrelKeysModel" (1 : Nat) ({ cls := "java/lang/Object", name := "<init>", desc := "()V" } : Jvm.MethodName)) ∈ lw_good := lw_good_in (List.mem_append_right _ (List.mem_of_getElem? (i := 1245) (by decide +kernel))) rfl
theorem mk1246 : (Jvm.Cond.methodLink "QuarrelKeysModel" (80 : Nat) ({ cls := "QuarrelKeysModel", name := "empties", desc := "(I)V" } : Jvm.MethodName)) ∈ lw_good := lw_good_in (List.mem_append_right _ (List.mem_of_getElem? (i := 1246) (by decide +kernel))) rfl
theorem mk1248 : (Jvm.Cond.instanceMethod ({ cls := "QuarrelKeysModel", name := "empties", desc := "(I)V" } : Jvm.MethodName)) ∈ lw_good := lw_good_in (List.mem_append_right _ (List.mem_of_getElem? (i := 1248) (by decide +kernel))) rfl
theorem mk1249 : (Jvm.Cond.code ({ cls := "QuarrelKeysModel", name := "empties", desc := "(I)V" } : Jvm.MethodName) prog_14_method_51_code (3 : Nat) (Option.none : Option Jvm.ClassFile.FieldType)) ∈ lw_good := lw_good_in (List.mem_append_right _ (List.mem_of_getElem? (i := 1249) (by decide +kernel))) rfl
theorem mk1253 : (Jvm.Cond.fieldLink "QuarrelKeysModel" (7 : Nat) "QuarrelKeysModel" "under" "J") ∈ lw_good := lw_good_in (List.mem_append_right _ (List.mem_of_getElem? (i := 1253) (by decide +kernel))) rfl
theorem mk1254 : (Jvm.Cond.fieldLink "QuarrelKeysModel" (13 : Nat) "QuarrelKeysModel" "traySort" "[I") ∈ lw_good := lw_good_in (List.mem_append_right _ (List.mem_of_getElem? (i := 1254) (by decide +kernel))) rfl
theorem mk1255 : (Jvm.Cond.fieldLink "QuarrelKeysModel" (17 : Nat) "QuarrelKeysModel" "trayMany" "[I") ∈ lw_good := lw_good_in (List.mem_append_right _ (List.mem_of_getElem? (i := 1255) (by decide +kernel))) rfl
theorem mk1256 : (Jvm.Cond.fieldLink "QuarrelKeysModel" (20 : Nat) "QuarrelKeysModel" "numbers" "[J") ∈ lw_good := lw_good_in (List.mem_append_right _ (List.mem_of_getElem? (i := 1256) (by decide +kernel))) rfl
theorem mk1257 : (Jvm.Cond.fieldLink "QuarrelKeysModel" (24 : Nat) "QuarrelKeysModel" "tape" "[B") ∈ lw_good := lw_good_in (List.mem_append_right _ (List.mem_of_getElem? (i := 1257) (by decide +kernel))) rfl
theorem mk1260 : (Jvm.Cond.fieldLink "QuarrelKeysModel" (28 : Nat) "QuarrelKeysModel" "faultKind" "I") ∈ lw_good := lw_good_in (List.mem_append_right _ (List.mem_of_getElem? (i := 1260) (by decide +kernel))) rfl
theorem mk1261 : (Jvm.Cond.fieldLink "QuarrelKeysModel" (32 : Nat) "QuarrelKeysModel" "faultAt" "I") ∈ lw_good := lw_good_in (List.mem_append_right _ (List.mem_of_getElem? (i := 1261) (by decide +kernel))) rfl
theorem mk1270 : (Jvm.Cond.fieldLink "QuarrelKeysModel" (35 : Nat) "QuarrelKeysModel" "c" "[I") ∈ lw_good := lw_good_in (List.mem_append_right _ (List.mem_of_getElem? (i := 1270) (by decide +kernel))) rfl
theorem mk1271 : (Jvm.Cond.fieldLink "QuarrelKeysModel" (38 : Nat) "QuarrelKeysModel" "before" "[I") ∈ lw_good := lw_good_in (List.mem_append_right _ (List.mem_of_getElem? (i := 1271) (by decide +kernel))) rfl
theorem mk1272 : (Jvm.Cond.fieldLink "QuarrelKeysModel" (41 : Nat) "QuarrelKeysModel" "words" "[J") ∈ lw_good := lw_good_in (List.mem_append_right _ (List.mem_of_getElem? (i := 1272) (by decide +kernel))) rfl
theorem mk1276 : (Jvm.Cond.fieldLink "QuarrelKeysModel" (44 : Nat) "QuarrelKeysModel" "fars" "[I") ∈ lw_good := lw_good_in (List.mem_append_right _ (List.mem_of_getElem? (i := 1276) (by decide +kernel))) rfl
theorem mk1277 : (Jvm.Cond.fieldLink "QuarrelKeysModel" (47 : Nat) "QuarrelKeysModel" "queue" "[I") ∈ lw_good := lw_good_in (List.mem_append_right _ (List.mem_of_getElem? (i := 1277) (by decide +kernel))) rfl
theorem mk1278 : (Jvm.Cond.fieldLink "QuarrelKeysModel" (50 : Nat) "QuarrelKeysModel" "row" "[I") ∈ lw_good := lw_good_in (List.mem_append_right _ (List.mem_of_getElem? (i := 1278) (by decide +kernel))) rfl
theorem mk1279 : (Jvm.Cond.fieldLink "QuarrelKeysModel" (53 : Nat) "QuarrelKeysModel" "goal" "[I") ∈ lw_good := lw_good_in (List.mem_append_right _ (List.mem_of_getElem? (i := 1279) (by decide +kernel))) rfl
theorem mk1281 : (Jvm.Cond.fieldLink "QuarrelKeysModel" (56 : Nat) "QuarrelKeysModel" "firstRow" "[I") ∈ lw_good := lw_good_in (List.mem_append_right _ (List.mem_of_getElem? (i := 1281) (by decide +kernel))) rfl
theorem mk1282 : (Jvm.Cond.fieldLink "QuarrelKeysModel" (59 : Nat) "QuarrelKeysModel" "nowRow" "[I") ∈ lw_good := lw_good_in (List.mem_append_right _ (List.mem_of_getElem? (i := 1282) (by decide +kernel))) rfl
theorem mk1283 : (Jvm.Cond.fieldLink "QuarrelKeysModel" (62 : Nat) "QuarrelKeysModel" "livesIn" "[I") ∈ lw_good := lw_good_in (List.mem_append_right _ (List.mem_of_getElem? (i := 1283) (by decide +kernel))) rfl
theorem mk1284 : (Jvm.Cond.fieldLink "QuarrelKeysModel" (65 : Nat) "QuarrelKeysModel" "gets" "[I") ∈ lw_good := lw_good_in (List.mem_append_right _ (List.mem_of_getElem? (i := 1284) (by decide +kernel))) rfl
theorem mk1285 : (Jvm.Cond.fieldLink "QuarrelKeysModel" (68 : Nat) "QuarrelKeysModel" "points" "[I") ∈ lw_good := lw_good_in (List.mem_append_right _ (List.mem_of_getElem? (i := 1285) (by decide +kernel))) rfl
theorem mk1287 : (Jvm.Cond.fieldLink "QuarrelKeysModel" (71 : Nat) "QuarrelKeysModel" "here" "[J") ∈ lw_good := lw_good_in (List.mem_append_right _ (List.mem_of_getElem? (i := 1287) (by decide +kernel))) rfl
theorem mk1288 : (Jvm.Cond.fieldLink "QuarrelKeysModel" (74 : Nat) "QuarrelKeysModel" "then" "[J") ∈ lw_good := lw_good_in (List.mem_append_right _ (List.mem_of_getElem? (i := 1288) (by decide +kernel))) rfl
theorem mk1289 : (Jvm.Cond.fieldLink "QuarrelKeysModel" (77 : Nat) "QuarrelKeysModel" "livedLast" "[I") ∈ lw_good := lw_good_in (List.mem_append_right _ (List.mem_of_getElem? (i := 1289) (by decide +kernel))) rfl
theorem df0 (b j : Nat) (hj : j < 5) : defaultValue (tyX0 j) = vp_V ((cdf 0).map (ctr b)) j := by
  match j, hj with
  | 0, _ => rfl
  | 1, _ => rfl
  | 2, _ => rfl
  | 3, _ => rfl
  | 4, _ => rfl
  | j + 5, hj => exact absurd hj (by omega)
theorem df1 (b j : Nat) (hj : j < 8) : defaultValue (tyX1 j) = vp_V ((cdf 1).map (ctr b)) j := by
  match j, hj with
  | 0, _ => rfl
  | 1, _ => rfl
  | 2, _ => rfl
  | 3, _ => rfl
  | 4, _ => rfl
  | 5, _ => rfl
  | 6, _ => rfl
  | 7, _ => rfl
  | j + 8, hj => exact absurd hj (by omega)
theorem df2 (b j : Nat) (hj : j < 2) : defaultValue (tyX2 j) = vp_V ((cdf 2).map (ctr b)) j := by
  match j, hj with
  | 0, _ => rfl
  | 1, _ => rfl
  | j + 2, hj => exact absurd hj (by omega)
theorem df3 (b j : Nat) (hj : j < 9) : defaultValue (tyX3 j) = vp_V ((cdf 3).map (ctr b)) j := by
  match j, hj with
  | 0, _ => rfl
  | 1, _ => rfl
  | 2, _ => rfl
  | 3, _ => rfl
  | 4, _ => rfl
  | 5, _ => rfl
  | 6, _ => rfl
  | 7, _ => rfl
  | 8, _ => rfl
  | j + 9, hj => exact absurd hj (by omega)
theorem df4 (b j : Nat) (hj : j < 2) : defaultValue (tyX4 j) = vp_V ((cdf 4).map (ctr b)) j := by
  match j, hj with
  | 0, _ => rfl
  | 1, _ => rfl
  | j + 2, hj => exact absurd hj (by omega)
theorem df5 (b j : Nat) (hj : j < 9) : defaultValue (tyX5 j) = vp_V ((cdf 5).map (ctr b)) j := by
  match j, hj with
  | 0, _ => rfl
  | 1, _ => rfl
  | 2, _ => rfl
  | 3, _ => rfl
  | 4, _ => rfl
  | 5, _ => rfl
  | 6, _ => rfl
  | 7, _ => rfl
  | 8, _ => rfl
  | j + 9, hj => exact absurd hj (by omega)
theorem df6 (b j : Nat) (hj : j < 9) : defaultValue (tyX6 j) = vp_V ((cdf 6).map (ctr b)) j := by
  match j, hj with
  | 0, _ => rfl
  | 1, _ => rfl
  | 2, _ => rfl
  | 3, _ => rfl
  | 4, _ => rfl
  | 5, _ => rfl
  | 6, _ => rfl
  | 7, _ => rfl
  | 8, _ => rfl
  | j + 9, hj => exact absurd hj (by omega)
theorem df7 (b j : Nat) (hj : j < 14) : defaultValue (tyX7 j) = vp_V ((cdf 7).map (ctr b)) j := by
  match j, hj with
  | 0, _ => rfl
  | 1, _ => rfl
  | 2, _ => rfl
  | 3, _ => rfl
  | 4, _ => rfl
  | 5, _ => rfl
  | 6, _ => rfl
  | 7, _ => rfl
  | 8, _ => rfl
  | 9, _ => rfl
  | 10, _ => rfl
  | 11, _ => rfl
  | 12, _ => rfl
  | 13, _ => rfl
  | j + 14, hj => exact absurd hj (by omega)
theorem df8 (b j : Nat) (hj : j < 2) : defaultValue (tyX8 j) = vp_V ((cdf 8).map (ctr b)) j := by
  match j, hj with
  | 0, _ => rfl
  | 1, _ => rfl
  | j + 2, hj => exact absurd hj (by omega)
theorem df9 (b j : Nat) (hj : j < 14) : defaultValue (tyX9 j) = vp_V ((cdf 9).map (ctr b)) j := by
  match j, hj with
  | 0, _ => rfl
  | 1, _ => rfl
  | 2, _ => rfl
  | 3, _ => rfl
  | 4, _ => rfl
  | 5, _ => rfl
  | 6, _ => rfl
  | 7, _ => rfl
  | 8, _ => rfl
  | 9, _ => rfl
  | 10, _ => rfl
  | 11, _ => rfl
  | 12, _ => rfl
  | 13, _ => rfl
  | j + 14, hj => exact absurd hj (by omega)
theorem df10 (b j : Nat) (hj : j < 3) : defaultValue (tyX10 j) = vp_V ((cdf 10).map (ctr b)) j := by
  match j, hj with
  | 0, _ => rfl
  | 1, _ => rfl
  | 2, _ => rfl
  | j + 3, hj => exact absurd hj (by omega)
theorem df11 (b j : Nat) (hj : j < 20) : defaultValue (tyX11 j) = vp_V ((cdf 11).map (ctr b)) j := by
  match j, hj with
  | 0, _ => rfl
  | 1, _ => rfl
  | 2, _ => rfl
  | 3, _ => rfl
  | 4, _ => rfl
  | 5, _ => rfl
  | 6, _ => rfl
  | 7, _ => rfl
  | 8, _ => rfl
  | 9, _ => rfl
  | 10, _ => rfl
  | 11, _ => rfl
  | 12, _ => rfl
  | 13, _ => rfl
  | 14, _ => rfl
  | 15, _ => rfl
  | 16, _ => rfl
  | 17, _ => rfl
  | 18, _ => rfl
  | 19, _ => rfl
  | j + 20, hj => exact absurd hj (by omega)
theorem df12 (b j : Nat) (hj : j < 49) : defaultValue (tyX12 j) = vp_V ((cdf 12).map (ctr b)) j := by
  match j, hj with
  | 0, _ => rfl
  | 1, _ => rfl
  | 2, _ => rfl
  | 3, _ => rfl
  | 4, _ => rfl
  | 5, _ => rfl
  | 6, _ => rfl
  | 7, _ => rfl
  | 8, _ => rfl
  | 9, _ => rfl
  | 10, _ => rfl
  | 11, _ => rfl
  | 12, _ => rfl
  | 13, _ => rfl
  | 14, _ => rfl
  | 15, _ => rfl
  | 16, _ => rfl
  | 17, _ => rfl
  | 18, _ => rfl
  | 19, _ => rfl
  | 20, _ => rfl
  | 21, _ => rfl
  | 22, _ => rfl
  | 23, _ => rfl
  | 24, _ => rfl
  | 25, _ => rfl
  | 26, _ => rfl
  | 27, _ => rfl
  | 28, _ => rfl
  | 29, _ => rfl
  | 30, _ => rfl
  | 31, _ => rfl
  | 32, _ => rfl
  | 33, _ => rfl
  | 34, _ => rfl
  | 35, _ => rfl
  | 36, _ => rfl
  | 37, _ => rfl
  | 38, _ => rfl
  | 39, _ => rfl
  | 40, _ => rfl
  | 41, _ => rfl
  | 42, _ => rfl
  | 43, _ => rfl
  | 44, _ => rfl
  | 45, _ => rfl
  | 46, _ => rfl
  | 47, _ => rfl
  | 48, _ => rfl
  | j + 49, hj => exact absurd hj (by omega)
theorem km0 : kmok 0 := ⟨mk370, mk10, by decide +kernel, ⟨by decide +kernel, by decide +kernel⟩, mk369, by decide, fun _ => rfl⟩
theorem km1 : kmok 1 := ⟨mk213, mk6, by decide +kernel, ⟨by decide +kernel, by decide +kernel⟩, mk212, by decide, fun _ => rfl⟩
theorem km2 : kmok 2 := ⟨mk107, mk4, by decide +kernel, ⟨by decide +kernel, by decide +kernel⟩, mk106, by decide, fun _ => rfl⟩
theorem km3 : kmok 3 := ⟨mk334, mk9, by decide +kernel, ⟨by decide +kernel, by decide +kernel⟩, mk333, by decide, fun _ => rfl⟩
theorem km4 : kmok 4 := ⟨mk393, mk11, by decide +kernel, ⟨by decide +kernel, by decide +kernel⟩, mk392, by decide, fun _ => rfl⟩
theorem km5 : kmok 5 := ⟨mk257, mk7, by decide +kernel, ⟨by decide +kernel, by decide +kernel⟩, mk256, by decide, fun _ => rfl⟩
theorem km6 : kmok 6 := ⟨mk298, mk8, by decide +kernel, ⟨by decide +kernel, by decide +kernel⟩, mk297, by decide, fun _ => rfl⟩
theorem km7 : kmok 7 := ⟨mk121, mk5, by decide +kernel, ⟨by decide +kernel, by decide +kernel⟩, mk120, by decide, fun _ => rfl⟩
theorem km8 : kmok 8 := ⟨mk94, mk3, by decide +kernel, ⟨by decide +kernel, by decide +kernel⟩, mk93, by decide, fun _ => rfl⟩
theorem km9 : kmok 9 := ⟨mk31, mk2, by decide +kernel, ⟨by decide +kernel, by decide +kernel⟩, mk30, by decide, fun _ => rfl⟩
theorem km10 : kmok 10 := ⟨mk407, mk12, by decide +kernel, ⟨by decide +kernel, by decide +kernel⟩, mk406, by decide, fun _ => rfl⟩
theorem km11 : kmok 11 := ⟨mk21, mk1, by decide +kernel, ⟨by decide +kernel, by decide +kernel⟩, mk20, by decide, fun _ => rfl⟩
theorem km12 : kmok 12 := ⟨mk1244, mk13, by decide +kernel, ⟨by decide +kernel, by decide +kernel⟩, mk1243, by decide, fun _ => rfl⟩
theorem km13 : kmok 13 := ⟨mk1249, mk13, by decide +kernel, ⟨by decide +kernel, by decide +kernel⟩, mk1248, by decide, fun h => absurd h (by decide)⟩
theorem kw0_0 : kok 0 0 (.aload_n 0, 1, 0, 0, 0, 0, []) := Or.inr ⟨by decide +kernel, rfl, trivial⟩
theorem kw0_1 : kok 0 1 (.invokespecial 3, 4, 99, 0, 0, 0, []) := Or.inr ⟨by decide +kernel, rfl, Or.inl ⟨rfl, mk371⟩⟩
theorem kw0_4 : kok 0 4 (.aload_n 0, 5, 0, 0, 0, 0, []) := Or.inr ⟨by decide +kernel, rfl, trivial⟩
theorem kw0_5 : kok 0 5 (.bipush 7, 7, 0, 0, 0, 7, []) := Or.inr ⟨by decide +kernel, rfl, rfl⟩
theorem kw0_7 : kok 0 7 (.newarray .int, 9, 0, 0, 0, 0, []) := Or.inr ⟨by decide +kernel, rfl, Or.inl ⟨rfl, rfl⟩⟩
theorem kw0_9 : kok 0 9 (.putfield 9, 12, 0, 0, 2, 0, []) := Or.inr ⟨by decide +kernel, rfl, ⟨by decide, RX0, TX0, 5, rfl, by decide, mk372, rfl, tyX0 0, tyX0_ok 0 (by decide), fun _ => ⟨rfl, rfl⟩⟩⟩
theorem kw0_12 : kok 0 12 (.aload_n 0, 13, 0, 0, 0, 0, []) := Or.inr ⟨by decide +kernel, rfl, trivial⟩
theorem kw0_13 : kok 0 13 (.bipush 7, 15, 0, 0, 0, 7, []) := Or.inr ⟨by decide +kernel, rfl, rfl⟩
theorem kw0_15 : kok 0 15 (.newarray .int, 17, 0, 0, 0, 0, []) := Or.inr ⟨by decide +kernel, rfl, Or.inl ⟨rfl, rfl⟩⟩
theorem kw0_17 : kok 0 17 (.putfield 15, 20, 0, 1, 2, 0, []) := Or.inr ⟨by decide +kernel, rfl, ⟨by decide, RX0, TX0, 5, rfl, by decide, mk374, rfl, tyX0 1, tyX0_ok 1 (by decide), fun _ => ⟨rfl, rfl⟩⟩⟩
theorem kw0_20 : kok 0 20 (.aload_n 0, 21, 0, 0, 0, 0, []) := Or.inr ⟨by decide +kernel, rfl, trivial⟩
theorem kw0_21 : kok 0 21 (.sipush 128, 24, 0, 0, 0, 128, []) := Or.inr ⟨by decide +kernel, rfl, rfl⟩
theorem kw0_24 : kok 0 24 (.newarray .int, 26, 0, 0, 0, 0, []) := Or.inr ⟨by decide +kernel, rfl, Or.inl ⟨rfl, rfl⟩⟩
theorem kw0_26 : kok 0 26 (.putfield 18, 29, 0, 2, 2, 0, []) := Or.inr ⟨by decide +kernel, rfl, ⟨by decide, RX0, TX0, 5, rfl, by decide, mk375, rfl, tyX0 2, tyX0_ok 2 (by decide), fun _ => ⟨rfl, rfl⟩⟩⟩
theorem kw0_29 : kok 0 29 (.aload_n 0, 30, 0, 0, 0, 0, []) := Or.inr ⟨by decide +kernel, rfl, trivial⟩
theorem kw0_30 : kok 0 30 (.bipush 7, 32, 0, 0, 0, 7, []) := Or.inr ⟨by decide +kernel, rfl, rfl⟩
theorem kw0_32 : kok 0 32 (.newarray .int, 34, 0, 0, 0, 0, []) := Or.inr ⟨by decide +kernel, rfl, Or.inl ⟨rfl, rfl⟩⟩
theorem kw0_34 : kok 0 34 (.putfield 21, 37, 0, 3, 2, 0, []) := Or.inr ⟨by decide +kernel, rfl, ⟨by decide, RX0, TX0, 5, rfl, by decide, mk376, rfl, tyX0 3, tyX0_ok 3 (by decide), fun _ => ⟨rfl, rfl⟩⟩⟩
theorem kw0_37 : kok 0 37 (.aload_n 0, 38, 0, 0, 0, 0, []) := Or.inr ⟨by decide +kernel, rfl, trivial⟩
theorem kw0_38 : kok 0 38 (.bipush 7, 40, 0, 0, 0, 7, []) := Or.inr ⟨by decide +kernel, rfl, rfl⟩
theorem kw0_40 : kok 0 40 (.newarray .int, 42, 0, 0, 0, 0, []) := Or.inr ⟨by decide +kernel, rfl, Or.inl ⟨rfl, rfl⟩⟩
theorem kw0_42 : kok 0 42 (.putfield 24, 45, 0, 4, 2, 0, []) := Or.inr ⟨by decide +kernel, rfl, ⟨by decide, RX0, TX0, 5, rfl, by decide, mk377, rfl, tyX0 4, tyX0_ok 4 (by decide), fun _ => ⟨rfl, rfl⟩⟩⟩
theorem kw0_45 : kok 0 45 (.return_, 46, 0, 0, 0, 0, []) := Or.inr ⟨by decide +kernel, rfl, trivial⟩
theorem kw0 : ∀ pc, kok 0 pc (cpg0 pc) := by
  unfold cpg0
  exact knode (knode (knode (knode (kleaf kw0_0) (kleaf kw0_1)) (knode (kleaf kw0_4) (knode (kleaf kw0_5) (kleaf kw0_7)))) (knode (knode (kleaf kw0_9) (knode (kleaf kw0_12) (kleaf kw0_13))) (knode (kleaf kw0_15) (knode (kleaf kw0_17) (kleaf kw0_20))))) (knode (knode (knode (kleaf kw0_21) (knode (kleaf kw0_24) (kleaf kw0_26))) (knode (kleaf kw0_29) (knode (kleaf kw0_30) (kleaf kw0_32)))) (knode (knode (kleaf kw0_34) (knode (kleaf kw0_37) (kleaf kw0_38))) (knode (kleaf kw0_40) (knode (kleaf kw0_42) (kleaf kw0_45)))))
theorem kw1_0 : kok 1 0 (.aload_n 0, 1, 0, 0, 0, 0, []) := Or.inr ⟨by decide +kernel, rfl, trivial⟩
theorem kw1_1 : kok 1 1 (.invokespecial 5, 4, 99, 0, 0, 0, []) := Or.inr ⟨by decide +kernel, rfl, Or.inl ⟨rfl, mk214⟩⟩
theorem kw1_4 : kok 1 4 (.aload_n 0, 5, 0, 0, 0, 0, []) := Or.inr ⟨by decide +kernel, rfl, trivial⟩
theorem kw1_5 : kok 1 5 (.bipush 60, 7, 0, 0, 0, 60, []) := Or.inr ⟨by decide +kernel, rfl, rfl⟩
theorem kw1_7 : kok 1 7 (.newarray .int, 9, 0, 0, 0, 0, []) := Or.inr ⟨by decide +kernel, rfl, Or.inl ⟨rfl, rfl⟩⟩
theorem kw1_9 : kok 1 9 (.putfield 11, 12, 1, 0, 2, 0, []) := Or.inr ⟨by decide +kernel, rfl, ⟨by decide, RX1, TX1, 8, rfl, by decide, mk215, rfl, tyX1 0, tyX1_ok 0 (by decide), fun _ => ⟨rfl, rfl⟩⟩⟩
theorem kw1_12 : kok 1 12 (.aload_n 0, 13, 0, 0, 0, 0, []) := Or.inr ⟨by decide +kernel, rfl, trivial⟩
theorem kw1_13 : kok 1 13 (.bipush 60, 15, 0, 0, 0, 60, []) := Or.inr ⟨by decide +kernel, rfl, rfl⟩
theorem kw1_15 : kok 1 15 (.newarray .int, 17, 0, 0, 0, 0, []) := Or.inr ⟨by decide +kernel, rfl, Or.inl ⟨rfl, rfl⟩⟩
theorem kw1_17 : kok 1 17 (.putfield 15, 20, 1, 1, 2, 0, []) := Or.inr ⟨by decide +kernel, rfl, ⟨by decide, RX1, TX1, 8, rfl, by decide, mk217, rfl, tyX1 1, tyX1_ok 1 (by decide), fun _ => ⟨rfl, rfl⟩⟩⟩
theorem kw1_20 : kok 1 20 (.aload_n 0, 21, 0, 0, 0, 0, []) := Or.inr ⟨by decide +kernel, rfl, trivial⟩
theorem kw1_21 : kok 1 21 (.bipush 60, 23, 0, 0, 0, 60, []) := Or.inr ⟨by decide +kernel, rfl, rfl⟩
theorem kw1_23 : kok 1 23 (.newarray .int, 25, 0, 0, 0, 0, []) := Or.inr ⟨by decide +kernel, rfl, Or.inl ⟨rfl, rfl⟩⟩
theorem kw1_25 : kok 1 25 (.putfield 18, 28, 1, 2, 2, 0, []) := Or.inr ⟨by decide +kernel, rfl, ⟨by decide, RX1, TX1, 8, rfl, by decide, mk219, rfl, tyX1 2, tyX1_ok 2 (by decide), fun _ => ⟨rfl, rfl⟩⟩⟩
theorem kw1_28 : kok 1 28 (.aload_n 0, 29, 0, 0, 0, 0, []) := Or.inr ⟨by decide +kernel, rfl, trivial⟩
theorem kw1_29 : kok 1 29 (.bipush 60, 31, 0, 0, 0, 60, []) := Or.inr ⟨by decide +kernel, rfl, rfl⟩
theorem kw1_31 : kok 1 31 (.newarray .int, 33, 0, 0, 0, 0, []) := Or.inr ⟨by decide +kernel, rfl, Or.inl ⟨rfl, rfl⟩⟩
theorem kw1_33 : kok 1 33 (.putfield 21, 36, 1, 3, 2, 0, []) := Or.inr ⟨by decide +kernel, rfl, ⟨by decide, RX1, TX1, 8, rfl, by decide, mk221, rfl, tyX1 3, tyX1_ok 3 (by decide), fun _ => ⟨rfl, rfl⟩⟩⟩
theorem kw1_36 : kok 1 36 (.aload_n 0, 37, 0, 0, 0, 0, []) := Or.inr ⟨by decide +kernel, rfl, trivial⟩
theorem kw1_37 : kok 1 37 (.bipush 60, 39, 0, 0, 0, 60, []) := Or.inr ⟨by decide +kernel, rfl, rfl⟩
theorem kw1_39 : kok 1 39 (.newarray .int, 41, 0, 0, 0, 0, []) := Or.inr ⟨by decide +kernel, rfl, Or.inl ⟨rfl, rfl⟩⟩
theorem kw1_41 : kok 1 41 (.putfield 24, 44, 1, 4, 2, 0, []) := Or.inr ⟨by decide +kernel, rfl, ⟨by decide, RX1, TX1, 8, rfl, by decide, mk223, rfl, tyX1 4, tyX1_ok 4 (by decide), fun _ => ⟨rfl, rfl⟩⟩⟩
theorem kw1_44 : kok 1 44 (.return_, 45, 0, 0, 0, 0, []) := Or.inr ⟨by decide +kernel, rfl, trivial⟩
theorem kw1 : ∀ pc, kok 1 pc (cpg1 pc) := by
  unfold cpg1
  exact knode (knode (knode (knode (kleaf kw1_0) (kleaf kw1_1)) (knode (kleaf kw1_4) (knode (kleaf kw1_5) (kleaf kw1_7)))) (knode (knode (kleaf kw1_9) (knode (kleaf kw1_12) (kleaf kw1_13))) (knode (kleaf kw1_15) (knode (kleaf kw1_17) (kleaf kw1_20))))) (knode (knode (knode (kleaf kw1_21) (knode (kleaf kw1_23) (kleaf kw1_25))) (knode (kleaf kw1_28) (knode (kleaf kw1_29) (kleaf kw1_31)))) (knode (knode (kleaf kw1_33) (knode (kleaf kw1_36) (kleaf kw1_37))) (knode (kleaf kw1_39) (knode (kleaf kw1_41) (kleaf kw1_44)))))
theorem kw2_0 : kok 2 0 (.aload_n 0, 1, 0, 0, 0, 0, []) := Or.inr ⟨by decide +kernel, rfl, trivial⟩
theorem kw2_1 : kok 2 1 (.invokespecial 3, 4, 99, 0, 0, 0, []) := Or.inr ⟨by decide +kernel, rfl, Or.inl ⟨rfl, mk108⟩⟩
theorem kw2_4 : kok 2 4 (.aload_n 0, 5, 0, 0, 0, 0, []) := Or.inr ⟨by decide +kernel, rfl, trivial⟩
theorem kw2_5 : kok 2 5 (.iconst 3, 6, 0, 0, 0, 3, []) := Or.inr ⟨by decide +kernel, rfl, rfl⟩
theorem kw2_6 : kok 2 6 (.newarray .int, 8, 0, 0, 0, 0, []) := Or.inr ⟨by decide +kernel, rfl, Or.inl ⟨rfl, rfl⟩⟩
theorem kw2_8 : kok 2 8 (.putfield 11, 11, 2, 0, 2, 0, []) := Or.inr ⟨by decide +kernel, rfl, ⟨by decide, RX2, TX2, 2, rfl, by decide, mk109, rfl, tyX2 0, tyX2_ok 0 (by decide), fun _ => ⟨rfl, rfl⟩⟩⟩
theorem kw2_11 : kok 2 11 (.return_, 12, 0, 0, 0, 0, []) := Or.inr ⟨by decide +kernel, rfl, trivial⟩
theorem kw2 : ∀ pc, kok 2 pc (cpg2 pc) := by
  unfold cpg2
  exact knode (knode (kleaf kw2_0) (knode (kleaf kw2_1) (kleaf kw2_4))) (knode (knode (kleaf kw2_5) (kleaf kw2_6)) (knode (kleaf kw2_8) (kleaf kw2_11)))
theorem kw3_0 : kok 3 0 (.aload_n 0, 1, 0, 0, 0, 0, []) := Or.inr ⟨by decide +kernel, rfl, trivial⟩
theorem kw3_1 : kok 3 1 (.invokespecial 3, 4, 99, 0, 0, 0, []) := Or.inr ⟨by decide +kernel, rfl, Or.inl ⟨rfl, mk335⟩⟩
theorem kw3_4 : kok 3 4 (.aload_n 0, 5, 0, 0, 0, 0, []) := Or.inr ⟨by decide +kernel, rfl, trivial⟩
theorem kw3_5 : kok 3 5 (.bipush 7, 7, 0, 0, 0, 7, []) := Or.inr ⟨by decide +kernel, rfl, rfl⟩
theorem kw3_7 : kok 3 7 (.newarray .int, 9, 0, 0, 0, 0, []) := Or.inr ⟨by decide +kernel, rfl, Or.inl ⟨rfl, rfl⟩⟩
theorem kw3_9 : kok 3 9 (.putfield 9, 12, 3, 0, 2, 0, []) := Or.inr ⟨by decide +kernel, rfl, ⟨by decide, RX3, TX3, 9, rfl, by decide, mk336, rfl, tyX3 0, tyX3_ok 0 (by decide), fun _ => ⟨rfl, rfl⟩⟩⟩
theorem kw3_12 : kok 3 12 (.aload_n 0, 13, 0, 0, 0, 0, []) := Or.inr ⟨by decide +kernel, rfl, trivial⟩
theorem kw3_13 : kok 3 13 (.bipush 49, 15, 0, 0, 0, 49, []) := Or.inr ⟨by decide +kernel, rfl, rfl⟩
theorem kw3_15 : kok 3 15 (.newarray .int, 17, 0, 0, 0, 0, []) := Or.inr ⟨by decide +kernel, rfl, Or.inl ⟨rfl, rfl⟩⟩
theorem kw3_17 : kok 3 17 (.putfield 15, 20, 3, 1, 2, 0, []) := Or.inr ⟨by decide +kernel, rfl, ⟨by decide, RX3, TX3, 9, rfl, by decide, mk337, rfl, tyX3 1, tyX3_ok 1 (by decide), fun _ => ⟨rfl, rfl⟩⟩⟩
theorem kw3_20 : kok 3 20 (.aload_n 0, 21, 0, 0, 0, 0, []) := Or.inr ⟨by decide +kernel, rfl, trivial⟩
theorem kw3_21 : kok 3 21 (.bipush 49, 23, 0, 0, 0, 49, []) := Or.inr ⟨by decide +kernel, rfl, rfl⟩
theorem kw3_23 : kok 3 23 (.newarray .int, 25, 0, 0, 0, 0, []) := Or.inr ⟨by decide +kernel, rfl, Or.inl ⟨rfl, rfl⟩⟩
theorem kw3_25 : kok 3 25 (.putfield 18, 28, 3, 2, 2, 0, []) := Or.inr ⟨by decide +kernel, rfl, ⟨by decide, RX3, TX3, 9, rfl, by decide, mk338, rfl, tyX3 2, tyX3_ok 2 (by decide), fun _ => ⟨rfl, rfl⟩⟩⟩
theorem kw3_28 : kok 3 28 (.aload_n 0, 29, 0, 0, 0, 0, []) := Or.inr ⟨by decide +kernel, rfl, trivial⟩
theorem kw3_29 : kok 3 29 (.iconst 5, 30, 0, 0, 0, 5, []) := Or.inr ⟨by decide +kernel, rfl, rfl⟩
theorem kw3_30 : kok 3 30 (.newarray .int, 32, 0, 0, 0, 0, []) := Or.inr ⟨by decide +kernel, rfl, Or.inl ⟨rfl, rfl⟩⟩
theorem kw3_32 : kok 3 32 (.putfield 21, 35, 3, 3, 2, 0, []) := Or.inr ⟨by decide +kernel, rfl, ⟨by decide, RX3, TX3, 9, rfl, by decide, mk339, rfl, tyX3 3, tyX3_ok 3 (by decide), fun _ => ⟨rfl, rfl⟩⟩⟩
theorem kw3_35 : kok 3 35 (.aload_n 0, 36, 0, 0, 0, 0, []) := Or.inr ⟨by decide +kernel, rfl, trivial⟩
theorem kw3_36 : kok 3 36 (.iconst 5, 37, 0, 0, 0, 5, []) := Or.inr ⟨by decide +kernel, rfl, rfl⟩
theorem kw3_37 : kok 3 37 (.newarray .int, 39, 0, 0, 0, 0, []) := Or.inr ⟨by decide +kernel, rfl, Or.inl ⟨rfl, rfl⟩⟩
theorem kw3_39 : kok 3 39 (.putfield 24, 42, 3, 4, 2, 0, []) := Or.inr ⟨by decide +kernel, rfl, ⟨by decide, RX3, TX3, 9, rfl, by decide, mk340, rfl, tyX3 4, tyX3_ok 4 (by decide), fun _ => ⟨rfl, rfl⟩⟩⟩
theorem kw3_42 : kok 3 42 (.return_, 43, 0, 0, 0, 0, []) := Or.inr ⟨by decide +kernel, rfl, trivial⟩
theorem kw3 : ∀ pc, kok 3 pc (cpg3 pc) := by
  unfold cpg3
  exact knode (knode (knode (knode (kleaf kw3_0) (kleaf kw3_1)) (knode (kleaf kw3_4) (knode (kleaf kw3_5) (kleaf kw3_7)))) (knode (knode (kleaf kw3_9) (knode (kleaf kw3_12) (kleaf kw3_13))) (knode (kleaf kw3_15) (knode (kleaf kw3_17) (kleaf kw3_20))))) (knode (knode (knode (kleaf kw3_21) (knode (kleaf kw3_23) (kleaf kw3_25))) (knode (kleaf kw3_28) (knode (kleaf kw3_29) (kleaf kw3_30)))) (knode (knode (kleaf kw3_32) (knode (kleaf kw3_35) (kleaf kw3_36))) (knode (kleaf kw3_37) (knode (kleaf kw3_39) (kleaf kw3_42)))))
theorem kw4_0 : kok 4 0 (.aload_n 0, 1, 0, 0, 0, 0, []) := Or.inr ⟨by decide +kernel, rfl, trivial⟩
theorem kw4_1 : kok 4 1 (.invokespecial 1, 4, 99, 0, 0, 0, []) := Or.inr ⟨by decide +kernel, rfl, Or.inl ⟨rfl, mk394⟩⟩
theorem kw4_4 : kok 4 4 (.aload_n 0, 5, 0, 0, 0, 0, []) := Or.inr ⟨by decide +kernel, rfl, trivial⟩
theorem kw4_5 : kok 4 5 (.lconst 0, 6, 0, 0, 0, 0, []) := Or.inr ⟨by decide +kernel, rfl, rfl⟩
theorem kw4_6 : kok 4 6 (.putfield 7, 9, 4, 0, 1, 0, []) := Or.inr ⟨by decide +kernel, rfl, ⟨by decide, RX4, TX4, 2, rfl, by decide, mk395, rfl, tyX4 0, tyX4_ok 0 (by decide), rfl⟩⟩
theorem kw4_9 : kok 4 9 (.aload_n 0, 10, 0, 0, 0, 0, []) := Or.inr ⟨by decide +kernel, rfl, trivial⟩
theorem kw4_10 : kok 4 10 (.lconst 1, 11, 0, 0, 0, 1, []) := Or.inr ⟨by decide +kernel, rfl, rfl⟩
theorem kw4_11 : kok 4 11 (.putfield 13, 14, 4, 1, 1, 0, []) := Or.inr ⟨by decide +kernel, rfl, ⟨by decide, RX4, TX4, 2, rfl, by decide, mk397, rfl, tyX4 1, tyX4_ok 1 (by decide), rfl⟩⟩
theorem kw4_14 : kok 4 14 (.return_, 15, 0, 0, 0, 0, []) := Or.inr ⟨by decide +kernel, rfl, trivial⟩
theorem kw4 : ∀ pc, kok 4 pc (cpg4 pc) := by
  unfold cpg4
  exact knode (knode (knode (kleaf kw4_0) (kleaf kw4_1)) (knode (kleaf kw4_4) (kleaf kw4_5))) (knode (knode (kleaf kw4_6) (kleaf kw4_9)) (knode (kleaf kw4_10) (knode (kleaf kw4_11) (kleaf kw4_14))))
theorem kw5_0 : kok 5 0 (.aload_n 0, 1, 0, 0, 0, 0, []) := Or.inr ⟨by decide +kernel, rfl, trivial⟩
theorem kw5_1 : kok 5 1 (.invokespecial 3, 4, 99, 0, 0, 0, []) := Or.inr ⟨by decide +kernel, rfl, Or.inl ⟨rfl, mk258⟩⟩
theorem kw5_4 : kok 5 4 (.aload_n 0, 5, 0, 0, 0, 0, []) := Or.inr ⟨by decide +kernel, rfl, trivial⟩
theorem kw5_5 : kok 5 5 (.bipush 60, 7, 0, 0, 0, 60, []) := Or.inr ⟨by decide +kernel, rfl, rfl⟩
theorem kw5_7 : kok 5 7 (.newarray .int, 9, 0, 0, 0, 0, []) := Or.inr ⟨by decide +kernel, rfl, Or.inl ⟨rfl, rfl⟩⟩
theorem kw5_9 : kok 5 9 (.putfield 11, 12, 5, 0, 2, 0, []) := Or.inr ⟨by decide +kernel, rfl, ⟨by decide, RX5, TX5, 9, rfl, by decide, mk259, rfl, tyX5 0, tyX5_ok 0 (by decide), fun _ => ⟨rfl, rfl⟩⟩⟩
theorem kw5_12 : kok 5 12 (.return_, 13, 0, 0, 0, 0, []) := Or.inr ⟨by decide +kernel, rfl, trivial⟩
theorem kw5 : ∀ pc, kok 5 pc (cpg5 pc) := by
  unfold cpg5
  exact knode (knode (kleaf kw5_0) (knode (kleaf kw5_1) (kleaf kw5_4))) (knode (knode (kleaf kw5_5) (kleaf kw5_7)) (knode (kleaf kw5_9) (kleaf kw5_12)))
theorem kw6_0 : kok 6 0 (.aload_n 0, 1, 0, 0, 0, 0, []) := Or.inr ⟨by decide +kernel, rfl, trivial⟩
theorem kw6_1 : kok 6 1 (.invokespecial 3, 4, 99, 0, 0, 0, []) := Or.inr ⟨by decide +kernel, rfl, Or.inl ⟨rfl, mk299⟩⟩
theorem kw6_4 : kok 6 4 (.aload_n 0, 5, 0, 0, 0, 0, []) := Or.inr ⟨by decide +kernel, rfl, trivial⟩
theorem kw6_5 : kok 6 5 (.sipush 5040, 8, 0, 0, 0, 5040, []) := Or.inr ⟨by decide +kernel, rfl, rfl⟩
theorem kw6_8 : kok 6 8 (.newarray .byte, 10, 2, 0, 0, 0, []) := Or.inr ⟨by decide +kernel, rfl, Or.inr (Or.inr ⟨rfl, rfl⟩)⟩
theorem kw6_10 : kok 6 10 (.putfield 11, 13, 6, 0, 2, 0, []) := Or.inr ⟨by decide +kernel, rfl, ⟨by decide, RX6, TX6, 9, rfl, by decide, mk300, rfl, tyX6 0, tyX6_ok 0 (by decide), fun _ => ⟨rfl, rfl⟩⟩⟩
theorem kw6_13 : kok 6 13 (.aload_n 0, 14, 0, 0, 0, 0, []) := Or.inr ⟨by decide +kernel, rfl, trivial⟩
theorem kw6_14 : kok 6 14 (.sipush 5040, 17, 0, 0, 0, 5040, []) := Or.inr ⟨by decide +kernel, rfl, rfl⟩
theorem kw6_17 : kok 6 17 (.newarray .int, 19, 0, 0, 0, 0, []) := Or.inr ⟨by decide +kernel, rfl, Or.inl ⟨rfl, rfl⟩⟩
theorem kw6_19 : kok 6 19 (.putfield 15, 22, 6, 1, 2, 0, []) := Or.inr ⟨by decide +kernel, rfl, ⟨by decide, RX6, TX6, 9, rfl, by decide, mk301, rfl, tyX6 1, tyX6_ok 1 (by decide), fun _ => ⟨rfl, rfl⟩⟩⟩
theorem kw6_22 : kok 6 22 (.aload_n 0, 23, 0, 0, 0, 0, []) := Or.inr ⟨by decide +kernel, rfl, trivial⟩
theorem kw6_23 : kok 6 23 (.bipush 10, 25, 0, 0, 0, 10, []) := Or.inr ⟨by decide +kernel, rfl, rfl⟩
theorem kw6_25 : kok 6 25 (.newarray .int, 27, 0, 0, 0, 0, []) := Or.inr ⟨by decide +kernel, rfl, Or.inl ⟨rfl, rfl⟩⟩
theorem kw6_27 : kok 6 27 (.putfield 19, 30, 6, 2, 2, 0, []) := Or.inr ⟨by decide +kernel, rfl, ⟨by decide, RX6, TX6, 9, rfl, by decide, mk302, rfl, tyX6 2, tyX6_ok 2 (by decide), fun _ => ⟨rfl, rfl⟩⟩⟩
theorem kw6_30 : kok 6 30 (.aload_n 0, 31, 0, 0, 0, 0, []) := Or.inr ⟨by decide +kernel, rfl, trivial⟩
theorem kw6_31 : kok 6 31 (.bipush 10, 33, 0, 0, 0, 10, []) := Or.inr ⟨by decide +kernel, rfl, rfl⟩
theorem kw6_33 : kok 6 33 (.newarray .int, 35, 0, 0, 0, 0, []) := Or.inr ⟨by decide +kernel, rfl, Or.inl ⟨rfl, rfl⟩⟩
theorem kw6_35 : kok 6 35 (.putfield 22, 38, 6, 3, 2, 0, []) := Or.inr ⟨by decide +kernel, rfl, ⟨by decide, RX6, TX6, 9, rfl, by decide, mk303, rfl, tyX6 3, tyX6_ok 3 (by decide), fun _ => ⟨rfl, rfl⟩⟩⟩
theorem kw6_38 : kok 6 38 (.aload_n 0, 39, 0, 0, 0, 0, []) := Or.inr ⟨by decide +kernel, rfl, trivial⟩
theorem kw6_39 : kok 6 39 (.bipush 7, 41, 0, 0, 0, 7, []) := Or.inr ⟨by decide +kernel, rfl, rfl⟩
theorem kw6_41 : kok 6 41 (.newarray .int, 43, 0, 0, 0, 0, []) := Or.inr ⟨by decide +kernel, rfl, Or.inl ⟨rfl, rfl⟩⟩
theorem kw6_43 : kok 6 43 (.putfield 25, 46, 6, 4, 2, 0, []) := Or.inr ⟨by decide +kernel, rfl, ⟨by decide, RX6, TX6, 9, rfl, by decide, mk304, rfl, tyX6 4, tyX6_ok 4 (by decide), fun _ => ⟨rfl, rfl⟩⟩⟩
theorem kw6_46 : kok 6 46 (.aload_n 0, 47, 0, 0, 0, 0, []) := Or.inr ⟨by decide +kernel, rfl, trivial⟩
theorem kw6_47 : kok 6 47 (.bipush 24, 49, 0, 0, 0, 24, []) := Or.inr ⟨by decide +kernel, rfl, rfl⟩
theorem kw6_49 : kok 6 49 (.newarray .int, 51, 0, 0, 0, 0, []) := Or.inr ⟨by decide +kernel, rfl, Or.inl ⟨rfl, rfl⟩⟩
theorem kw6_51 : kok 6 51 (.putfield 28, 54, 6, 5, 2, 0, []) := Or.inr ⟨by decide +kernel, rfl, ⟨by decide, RX6, TX6, 9, rfl, by decide, mk305, rfl, tyX6 5, tyX6_ok 5 (by decide), fun _ => ⟨rfl, rfl⟩⟩⟩
theorem kw6_54 : kok 6 54 (.aload_n 0, 55, 0, 0, 0, 0, []) := Or.inr ⟨by decide +kernel, rfl, trivial⟩
theorem kw6_55 : kok 6 55 (.iconst (-1), 56, 0, 0, 0, -1, []) := Or.inr ⟨by decide +kernel, rfl, rfl⟩
theorem kw6_56 : kok 6 56 (.putfield 31, 59, 6, 6, 0, 0, []) := Or.inr ⟨by decide +kernel, rfl, ⟨by decide, RX6, TX6, 9, rfl, by decide, mk307, rfl, tyX6 6, tyX6_ok 6 (by decide), rfl⟩⟩
theorem kw6_59 : kok 6 59 (.return_, 60, 0, 0, 0, 0, []) := Or.inr ⟨by decide +kernel, rfl, trivial⟩
theorem kw6 : ∀ pc, kok 6 pc (cpg6 pc) := by
  unfold cpg6
  exact knode (knode (knode (knode (kleaf kw6_0) (knode (kleaf kw6_1) (kleaf kw6_4))) (knode (knode (kleaf kw6_5) (kleaf kw6_8)) (knode (kleaf kw6_10) (kleaf kw6_13)))) (knode (knode (knode (kleaf kw6_14) (kleaf kw6_17)) (knode (kleaf kw6_19) (kleaf kw6_22))) (knode (knode (kleaf kw6_23) (kleaf kw6_25)) (knode (kleaf kw6_27) (kleaf kw6_30))))) (knode (knode (knode (kleaf kw6_31) (knode (kleaf kw6_33) (kleaf kw6_35))) (knode (knode (kleaf kw6_38) (kleaf kw6_39)) (knode (kleaf kw6_41) (kleaf kw6_43)))) (knode (knode (knode (kleaf kw6_46) (kleaf kw6_47)) (knode (kleaf kw6_49) (kleaf kw6_51))) (knode (knode (kleaf kw6_54) (kleaf kw6_55)) (knode (kleaf kw6_56) (kleaf kw6_59)))))
theorem kw7_0 : kok 7 0 (.aload_n 0, 1, 0, 0, 0, 0, []) := Or.inr ⟨by decide +kernel, rfl, trivial⟩
theorem kw7_1 : kok 7 1 (.invokespecial 3, 4, 99, 0, 0, 0, []) := Or.inr ⟨by decide +kernel, rfl, Or.inl ⟨rfl, mk122⟩⟩
theorem kw7_4 : kok 7 4 (.aload_n 0, 5, 0, 0, 0, 0, []) := Or.inr ⟨by decide +kernel, rfl, trivial⟩
theorem kw7_5 : kok 7 5 (.bipush 7, 7, 0, 0, 0, 7, []) := Or.inr ⟨by decide +kernel, rfl, rfl⟩
theorem kw7_7 : kok 7 7 (.newarray .long, 9, 1, 0, 0, 0, []) := Or.inr ⟨by decide +kernel, rfl, Or.inr (Or.inl ⟨rfl, rfl⟩)⟩
theorem kw7_9 : kok 7 9 (.putfield 9, 12, 7, 0, 2, 0, []) := Or.inr ⟨by decide +kernel, rfl, ⟨by decide, RX7, TX7, 14, rfl, by decide, mk123, rfl, tyX7 0, tyX7_ok 0 (by decide), fun _ => ⟨rfl, rfl⟩⟩⟩
theorem kw7_12 : kok 7 12 (.aload_n 0, 13, 0, 0, 0, 0, []) := Or.inr ⟨by decide +kernel, rfl, trivial⟩
theorem kw7_13 : kok 7 13 (.bipush 7, 15, 0, 0, 0, 7, []) := Or.inr ⟨by decide +kernel, rfl, rfl⟩
theorem kw7_15 : kok 7 15 (.newarray .int, 17, 0, 0, 0, 0, []) := Or.inr ⟨by decide +kernel, rfl, Or.inl ⟨rfl, rfl⟩⟩
theorem kw7_17 : kok 7 17 (.putfield 15, 20, 7, 1, 2, 0, []) := Or.inr ⟨by decide +kernel, rfl, ⟨by decide, RX7, TX7, 14, rfl, by decide, mk124, rfl, tyX7 1, tyX7_ok 1 (by decide), fun _ => ⟨rfl, rfl⟩⟩⟩
theorem kw7_20 : kok 7 20 (.aload_n 0, 21, 0, 0, 0, 0, []) := Or.inr ⟨by decide +kernel, rfl, trivial⟩
theorem kw7_21 : kok 7 21 (.bipush 7, 23, 0, 0, 0, 7, []) := Or.inr ⟨by decide +kernel, rfl, rfl⟩
theorem kw7_23 : kok 7 23 (.newarray .int, 25, 0, 0, 0, 0, []) := Or.inr ⟨by decide +kernel, rfl, Or.inl ⟨rfl, rfl⟩⟩
theorem kw7_25 : kok 7 25 (.putfield 19, 28, 7, 2, 2, 0, []) := Or.inr ⟨by decide +kernel, rfl, ⟨by decide, RX7, TX7, 14, rfl, by decide, mk128, rfl, tyX7 2, tyX7_ok 2 (by decide), fun _ => ⟨rfl, rfl⟩⟩⟩
theorem kw7_28 : kok 7 28 (.aload_n 0, 29, 0, 0, 0, 0, []) := Or.inr ⟨by decide +kernel, rfl, trivial⟩
theorem kw7_29 : kok 7 29 (.bipush 49, 31, 0, 0, 0, 49, []) := Or.inr ⟨by decide +kernel, rfl, rfl⟩
theorem kw7_31 : kok 7 31 (.newarray .int, 33, 0, 0, 0, 0, []) := Or.inr ⟨by decide +kernel, rfl, Or.inl ⟨rfl, rfl⟩⟩
theorem kw7_33 : kok 7 33 (.putfield 22, 36, 7, 3, 2, 0, []) := Or.inr ⟨by decide +kernel, rfl, ⟨by decide, RX7, TX7, 14, rfl, by decide, mk134, rfl, tyX7 3, tyX7_ok 3 (by decide), fun _ => ⟨rfl, rfl⟩⟩⟩
theorem kw7_36 : kok 7 36 (.aload_n 0, 37, 0, 0, 0, 0, []) := Or.inr ⟨by decide +kernel, rfl, trivial⟩
theorem kw7_37 : kok 7 37 (.bipush 10, 39, 0, 0, 0, 10, []) := Or.inr ⟨by decide +kernel, rfl, rfl⟩
theorem kw7_39 : kok 7 39 (.newarray .int, 41, 0, 0, 0, 0, []) := Or.inr ⟨by decide +kernel, rfl, Or.inl ⟨rfl, rfl⟩⟩
theorem kw7_41 : kok 7 41 (.putfield 25, 44, 7, 4, 2, 0, []) := Or.inr ⟨by decide +kernel, rfl, ⟨by decide, RX7, TX7, 14, rfl, by decide, mk135, rfl, tyX7 4, tyX7_ok 4 (by decide), fun _ => ⟨rfl, rfl⟩⟩⟩
theorem kw7_44 : kok 7 44 (.aload_n 0, 45, 0, 0, 0, 0, []) := Or.inr ⟨by decide +kernel, rfl, trivial⟩
theorem kw7_45 : kok 7 45 (.bipush 10, 47, 0, 0, 0, 10, []) := Or.inr ⟨by decide +kernel, rfl, rfl⟩
theorem kw7_47 : kok 7 47 (.newarray .int, 49, 0, 0, 0, 0, []) := Or.inr ⟨by decide +kernel, rfl, Or.inl ⟨rfl, rfl⟩⟩
theorem kw7_49 : kok 7 49 (.putfield 28, 52, 7, 5, 2, 0, []) := Or.inr ⟨by decide +kernel, rfl, ⟨by decide, RX7, TX7, 14, rfl, by decide, mk140, rfl, tyX7 5, tyX7_ok 5 (by decide), fun _ => ⟨rfl, rfl⟩⟩⟩
theorem kw7_52 : kok 7 52 (.aload_n 0, 53, 0, 0, 0, 0, []) := Or.inr ⟨by decide +kernel, rfl, trivial⟩
theorem kw7_53 : kok 7 53 (.bipush 10, 55, 0, 0, 0, 10, []) := Or.inr ⟨by decide +kernel, rfl, rfl⟩
theorem kw7_55 : kok 7 55 (.newarray .int, 57, 0, 0, 0, 0, []) := Or.inr ⟨by decide +kernel, rfl, Or.inl ⟨rfl, rfl⟩⟩
theorem kw7_57 : kok 7 57 (.putfield 31, 60, 7, 6, 2, 0, []) := Or.inr ⟨by decide +kernel, rfl, ⟨by decide, RX7, TX7, 14, rfl, by decide, mk145, rfl, tyX7 6, tyX7_ok 6 (by decide), fun _ => ⟨rfl, rfl⟩⟩⟩
theorem kw7_60 : kok 7 60 (.aload_n 0, 61, 0, 0, 0, 0, []) := Or.inr ⟨by decide +kernel, rfl, trivial⟩
theorem kw7_61 : kok 7 61 (.bipush 8, 63, 0, 0, 0, 8, []) := Or.inr ⟨by decide +kernel, rfl, rfl⟩
theorem kw7_63 : kok 7 63 (.putfield 34, 66, 7, 9, 0, 0, []) := Or.inr ⟨by decide +kernel, rfl, ⟨by decide, RX7, TX7, 14, rfl, by decide, mk163, rfl, tyX7 9, tyX7_ok 9 (by decide), rfl⟩⟩
theorem kw7_66 : kok 7 66 (.aload_n 0, 67, 0, 0, 0, 0, []) := Or.inr ⟨by decide +kernel, rfl, trivial⟩
theorem kw7_67 : kok 7 67 (.iconst 5, 68, 0, 0, 0, 5, []) := Or.inr ⟨by decide +kernel, rfl, rfl⟩
theorem kw7_68 : kok 7 68 (.putfield 38, 71, 7, 10, 0, 0, []) := Or.inr ⟨by decide +kernel, rfl, ⟨by decide, RX7, TX7, 14, rfl, by decide, mk167, rfl, tyX7 10, tyX7_ok 10 (by decide), rfl⟩⟩
theorem kw7_71 : kok 7 71 (.return_, 72, 0, 0, 0, 0, []) := Or.inr ⟨by decide +kernel, rfl, trivial⟩
theorem kw7 : ∀ pc, kok 7 pc (cpg7 pc) := by
  unfold cpg7
  exact knode (knode (knode (knode (knode (kleaf kw7_0) (kleaf kw7_1)) (knode (kleaf kw7_4) (kleaf kw7_5))) (knode (knode (kleaf kw7_7) (kleaf kw7_9)) (knode (kleaf kw7_12) (knode (kleaf kw7_13) (kleaf kw7_15))))) (knode (knode (knode (kleaf kw7_17) (kleaf kw7_20)) (knode (kleaf kw7_21) (kleaf kw7_23))) (knode (knode (kleaf kw7_25) (kleaf kw7_28)) (knode (kleaf kw7_29) (knode (kleaf kw7_31) (kleaf kw7_33)))))) (knode (knode (knode (knode (kleaf kw7_36) (kleaf kw7_37)) (knode (kleaf kw7_39) (kleaf kw7_41))) (knode (knode (kleaf kw7_44) (kleaf kw7_45)) (knode (kleaf kw7_47) (knode (kleaf kw7_49) (kleaf kw7_52))))) (knode (knode (knode (kleaf kw7_53) (kleaf kw7_55)) (knode (kleaf kw7_57) (knode (kleaf kw7_60) (kleaf kw7_61)))) (knode (knode (kleaf kw7_63) (kleaf kw7_66)) (knode (kleaf kw7_67) (knode (kleaf kw7_68) (kleaf kw7_71))))))
theorem kw8_0 : kok 8 0 (.aload_n 0, 1, 0, 0, 0, 0, []) := Or.inr ⟨by decide +kernel, rfl, trivial⟩
theorem kw8_1 : kok 8 1 (.invokespecial 3, 4, 99, 0, 0, 0, []) := Or.inr ⟨by decide +kernel, rfl, Or.inl ⟨rfl, mk95⟩⟩
theorem kw8_4 : kok 8 4 (.return_, 5, 0, 0, 0, 0, []) := Or.inr ⟨by decide +kernel, rfl, trivial⟩
theorem kw8 : ∀ pc, kok 8 pc (cpg8 pc) := by
  unfold cpg8
  exact knode (kleaf kw8_0) (knode (kleaf kw8_1) (kleaf kw8_4))
theorem kw9_0 : kok 9 0 (.aload_n 0, 1, 0, 0, 0, 0, []) := Or.inr ⟨by decide +kernel, rfl, trivial⟩
theorem kw9_1 : kok 9 1 (.invokespecial 3, 4, 99, 0, 0, 0, []) := Or.inr ⟨by decide +kernel, rfl, Or.inl ⟨rfl, mk32⟩⟩
theorem kw9_4 : kok 9 4 (.aload_n 0, 5, 0, 0, 0, 0, []) := Or.inr ⟨by decide +kernel, rfl, trivial⟩
theorem kw9_5 : kok 9 5 (.sipush 900, 8, 0, 0, 0, 900, []) := Or.inr ⟨by decide +kernel, rfl, rfl⟩
theorem kw9_8 : kok 9 8 (.newarray .byte, 10, 2, 0, 0, 0, []) := Or.inr ⟨by decide +kernel, rfl, Or.inr (Or.inr ⟨rfl, rfl⟩)⟩
theorem kw9_10 : kok 9 10 (.putfield 9, 13, 9, 0, 2, 0, []) := Or.inr ⟨by decide +kernel, rfl, ⟨by decide, RX9, TX9, 14, rfl, by decide, mk33, rfl, tyX9 0, tyX9_ok 0 (by decide), fun _ => ⟨rfl, rfl⟩⟩⟩
theorem kw9_13 : kok 9 13 (.return_, 14, 0, 0, 0, 0, []) := Or.inr ⟨by decide +kernel, rfl, trivial⟩
theorem kw9 : ∀ pc, kok 9 pc (cpg9 pc) := by
  unfold cpg9
  exact knode (knode (kleaf kw9_0) (knode (kleaf kw9_1) (kleaf kw9_4))) (knode (knode (kleaf kw9_5) (kleaf kw9_8)) (knode (kleaf kw9_10) (kleaf kw9_13)))
theorem kw10_0 : kok 10 0 (.aload_n 0, 1, 0, 0, 0, 0, []) := Or.inr ⟨by decide +kernel, rfl, trivial⟩
theorem kw10_1 : kok 10 1 (.invokespecial 3, 4, 99, 0, 0, 0, []) := Or.inr ⟨by decide +kernel, rfl, Or.inl ⟨rfl, mk408⟩⟩
theorem kw10_4 : kok 10 4 (.aload_n 0, 5, 0, 0, 0, 0, []) := Or.inr ⟨by decide +kernel, rfl, trivial⟩
theorem kw10_5 : kok 10 5 (.bipush 60, 7, 0, 0, 0, 60, []) := Or.inr ⟨by decide +kernel, rfl, rfl⟩
theorem kw10_7 : kok 10 7 (.newarray .long, 9, 1, 0, 0, 0, []) := Or.inr ⟨by decide +kernel, rfl, Or.inr (Or.inl ⟨rfl, rfl⟩)⟩
theorem kw10_9 : kok 10 9 (.putfield 9, 12, 10, 0, 2, 0, []) := Or.inr ⟨by decide +kernel, rfl, ⟨by decide, RX10, TX10, 3, rfl, by decide, mk409, rfl, tyX10 0, tyX10_ok 0 (by decide), fun _ => ⟨rfl, rfl⟩⟩⟩
theorem kw10_12 : kok 10 12 (.aload_n 0, 13, 0, 0, 0, 0, []) := Or.inr ⟨by decide +kernel, rfl, trivial⟩
theorem kw10_13 : kok 10 13 (.iconst (-1), 14, 0, 0, 0, -1, []) := Or.inr ⟨by decide +kernel, rfl, rfl⟩
theorem kw10_14 : kok 10 14 (.putfield 15, 17, 10, 1, 0, 0, []) := Or.inr ⟨by decide +kernel, rfl, ⟨by decide, RX10, TX10, 3, rfl, by decide, mk413, rfl, tyX10 1, tyX10_ok 1 (by decide), rfl⟩⟩
theorem kw10_17 : kok 10 17 (.return_, 18, 0, 0, 0, 0, []) := Or.inr ⟨by decide +kernel, rfl, trivial⟩
theorem kw10 : ∀ pc, kok 10 pc (cpg10 pc) := by
  unfold cpg10
  exact knode (knode (knode (kleaf kw10_0) (kleaf kw10_1)) (knode (kleaf kw10_4) (knode (kleaf kw10_5) (kleaf kw10_7)))) (knode (knode (kleaf kw10_9) (kleaf kw10_12)) (knode (kleaf kw10_13) (knode (kleaf kw10_14) (kleaf kw10_17))))
theorem kw11_0 : kok 11 0 (.aload_n 0, 1, 0, 0, 0, 0, []) := Or.inr ⟨by decide +kernel, rfl, trivial⟩
theorem kw11_1 : kok 11 1 (.invokespecial 1, 4, 99, 0, 0, 0, []) := Or.inr ⟨by decide +kernel, rfl, Or.inl ⟨rfl, mk22⟩⟩
theorem kw11_4 : kok 11 4 (.aload_n 0, 5, 0, 0, 0, 0, []) := Or.inr ⟨by decide +kernel, rfl, trivial⟩
theorem kw11_5 : kok 11 5 (.iconst 4, 6, 0, 0, 0, 4, []) := Or.inr ⟨by decide +kernel, rfl, rfl⟩
theorem kw11_6 : kok 11 6 (.anewarray 9, 9, 3, 0, 0, 0, []) := Or.inr ⟨by decide +kernel, rfl, Or.inl ⟨rfl, mk25⟩⟩
theorem kw11_9 : kok 11 9 (.putfield 11, 12, 11, 0, 2, 0, []) := Or.inr ⟨by decide +kernel, rfl, ⟨by decide, RX11, TX11, 20, rfl, by decide, mk424, rfl, tyX11 0, tyX11_ok 0 (by decide), fun _ => ⟨rfl, rfl⟩⟩⟩
theorem kw11_12 : kok 11 12 (.aload_n 0, 13, 0, 0, 0, 0, []) := Or.inr ⟨by decide +kernel, rfl, trivial⟩
theorem kw11_13 : kok 11 13 (.new 15, 16, 9, 0, 0, 0, []) := Or.inr ⟨by decide +kernel, rfl, ⟨RX9, TX9, 14, rfl, mk27, mk28, mk2, rfl, tyX9, tyX9_ok, fun b j hj => df9 b j hj⟩⟩
theorem kw11_16 : kok 11 16 (.dup, 17, 0, 0, 0, 0, []) := Or.inr ⟨by decide +kernel, rfl, trivial⟩
theorem kw11_17 : kok 11 17 (.invokespecial 17, 20, 9, 0, 0, 0, []) := Or.inr ⟨by decide +kernel, rfl, Or.inr ⟨by decide, km9, by decide +kernel, Or.inl (List.mem_of_getElem? (i := 0) rfl)⟩⟩
theorem kw11_20 : kok 11 20 (.putfield 18, 23, 11, 1, 3, 0, []) := Or.inr ⟨by decide +kernel, rfl, ⟨by decide, RX11, TX11, 20, rfl, by decide, mk425, rfl, tyX11 1, tyX11_ok 1 (by decide), fun _ => ⟨rfl, rfl⟩⟩⟩
theorem kw11_23 : kok 11 23 (.aload_n 0, 24, 0, 0, 0, 0, []) := Or.inr ⟨by decide +kernel, rfl, trivial⟩
theorem kw11_24 : kok 11 24 (.new 22, 27, 8, 0, 0, 0, []) := Or.inr ⟨by decide +kernel, rfl, ⟨RX8, TX8, 2, rfl, mk90, mk91, mk3, rfl, tyX8, tyX8_ok, fun b j hj => df8 b j hj⟩⟩
theorem kw11_27 : kok 11 27 (.dup, 28, 0, 0, 0, 0, []) := Or.inr ⟨by decide +kernel, rfl, trivial⟩
theorem kw11_28 : kok 11 28 (.invokespecial 24, 31, 8, 0, 0, 0, []) := Or.inr ⟨by decide +kernel, rfl, Or.inr ⟨by decide, km8, by decide +kernel, Or.inl (List.mem_of_getElem? (i := 1) rfl)⟩⟩
theorem kw11_31 : kok 11 31 (.putfield 25, 34, 11, 2, 3, 0, []) := Or.inr ⟨by decide +kernel, rfl, ⟨by decide, RX11, TX11, 20, rfl, by decide, mk426, rfl, tyX11 2, tyX11_ok 2 (by decide), fun _ => ⟨rfl, rfl⟩⟩⟩
theorem kw11_34 : kok 11 34 (.aload_n 0, 35, 0, 0, 0, 0, []) := Or.inr ⟨by decide +kernel, rfl, trivial⟩
theorem kw11_35 : kok 11 35 (.new 29, 38, 2, 0, 0, 0, []) := Or.inr ⟨by decide +kernel, rfl, ⟨RX2, TX2, 2, rfl, mk103, mk104, mk4, rfl, tyX2, tyX2_ok, fun b j hj => df2 b j hj⟩⟩
theorem kw11_38 : kok 11 38 (.dup, 39, 0, 0, 0, 0, []) := Or.inr ⟨by decide +kernel, rfl, trivial⟩
theorem kw11_39 : kok 11 39 (.invokespecial 31, 42, 2, 0, 0, 0, []) := Or.inr ⟨by decide +kernel, rfl, Or.inr ⟨by decide, km2, by decide +kernel, Or.inl (List.mem_of_getElem? (i := 2) rfl)⟩⟩
theorem kw11_42 : kok 11 42 (.putfield 32, 45, 11, 3, 3, 0, []) := Or.inr ⟨by decide +kernel, rfl, ⟨by decide, RX11, TX11, 20, rfl, by decide, mk427, rfl, tyX11 3, tyX11_ok 3 (by decide), fun _ => ⟨rfl, rfl⟩⟩⟩
theorem kw11_45 : kok 11 45 (.aload_n 0, 46, 0, 0, 0, 0, []) := Or.inr ⟨by decide +kernel, rfl, trivial⟩
theorem kw11_46 : kok 11 46 (.new 36, 49, 7, 0, 0, 0, []) := Or.inr ⟨by decide +kernel, rfl, ⟨RX7, TX7, 14, rfl, mk117, mk118, mk5, rfl, tyX7, tyX7_ok, fun b j hj => df7 b j hj⟩⟩
theorem kw11_49 : kok 11 49 (.dup, 50, 0, 0, 0, 0, []) := Or.inr ⟨by decide +kernel, rfl, trivial⟩
theorem kw11_50 : kok 11 50 (.invokespecial 38, 53, 7, 0, 0, 0, []) := Or.inr ⟨by decide +kernel, rfl, Or.inr ⟨by decide, km7, by decide +kernel, Or.inl (List.mem_of_getElem? (i := 3) rfl)⟩⟩
theorem kw11_53 : kok 11 53 (.putfield 39, 56, 11, 4, 3, 0, []) := Or.inr ⟨by decide +kernel, rfl, ⟨by decide, RX11, TX11, 20, rfl, by decide, mk428, rfl, tyX11 4, tyX11_ok 4 (by decide), fun _ => ⟨rfl, rfl⟩⟩⟩
theorem kw11_56 : kok 11 56 (.aload_n 0, 57, 0, 0, 0, 0, []) := Or.inr ⟨by decide +kernel, rfl, trivial⟩
theorem kw11_57 : kok 11 57 (.new 36, 60, 7, 0, 0, 0, []) := Or.inr ⟨by decide +kernel, rfl, ⟨RX7, TX7, 14, rfl, mk117, mk118, mk5, rfl, tyX7, tyX7_ok, fun b j hj => df7 b j hj⟩⟩
theorem kw11_60 : kok 11 60 (.dup, 61, 0, 0, 0, 0, []) := Or.inr ⟨by decide +kernel, rfl, trivial⟩
theorem kw11_61 : kok 11 61 (.invokespecial 38, 64, 7, 0, 0, 0, []) := Or.inr ⟨by decide +kernel, rfl, Or.inr ⟨by decide, km7, by decide +kernel, Or.inl (List.mem_of_getElem? (i := 3) rfl)⟩⟩
theorem kw11_64 : kok 11 64 (.putfield 43, 67, 11, 5, 3, 0, []) := Or.inr ⟨by decide +kernel, rfl, ⟨by decide, RX11, TX11, 20, rfl, by decide, mk429, rfl, tyX11 5, tyX11_ok 5 (by decide), fun _ => ⟨rfl, rfl⟩⟩⟩
theorem kw11_67 : kok 11 67 (.aload_n 0, 68, 0, 0, 0, 0, []) := Or.inr ⟨by decide +kernel, rfl, trivial⟩
theorem kw11_68 : kok 11 68 (.new 46, 71, 1, 0, 0, 0, []) := Or.inr ⟨by decide +kernel, rfl, ⟨RX1, TX1, 8, rfl, mk209, mk210, mk6, rfl, tyX1, tyX1_ok, fun b j hj => df1 b j hj⟩⟩
theorem kw11_71 : kok 11 71 (.dup, 72, 0, 0, 0, 0, []) := Or.inr ⟨by decide +kernel, rfl, trivial⟩
theorem kw11_72 : kok 11 72 (.invokespecial 48, 75, 1, 0, 0, 0, []) := Or.inr ⟨by decide +kernel, rfl, Or.inr ⟨by decide, km1, by decide +kernel, Or.inl (List.mem_of_getElem? (i := 4) rfl)⟩⟩
theorem kw11_75 : kok 11 75 (.putfield 49, 78, 11, 6, 3, 0, []) := Or.inr ⟨by decide +kernel, rfl, ⟨by decide, RX11, TX11, 20, rfl, by decide, mk430, rfl, tyX11 6, tyX11_ok 6 (by decide), fun _ => ⟨rfl, rfl⟩⟩⟩
theorem kw11_78 : kok 11 78 (.aload_n 0, 79, 0, 0, 0, 0, []) := Or.inr ⟨by decide +kernel, rfl, trivial⟩
theorem kw11_79 : kok 11 79 (.new 46, 82, 1, 0, 0, 0, []) := Or.inr ⟨by decide +kernel, rfl, ⟨RX1, TX1, 8, rfl, mk209, mk210, mk6, rfl, tyX1, tyX1_ok, fun b j hj => df1 b j hj⟩⟩
theorem kw11_82 : kok 11 82 (.dup, 83, 0, 0, 0, 0, []) := Or.inr ⟨by decide +kernel, rfl, trivial⟩
theorem kw11_83 : kok 11 83 (.invokespecial 48, 86, 1, 0, 0, 0, []) := Or.inr ⟨by decide +kernel, rfl, Or.inr ⟨by decide, km1, by decide +kernel, Or.inl (List.mem_of_getElem? (i := 4) rfl)⟩⟩
theorem kw11_86 : kok 11 86 (.putfield 53, 89, 11, 7, 3, 0, []) := Or.inr ⟨by decide +kernel, rfl, ⟨by decide, RX11, TX11, 20, rfl, by decide, mk431, rfl, tyX11 7, tyX11_ok 7 (by decide), fun _ => ⟨rfl, rfl⟩⟩⟩
theorem kw11_89 : kok 11 89 (.aload_n 0, 90, 0, 0, 0, 0, []) := Or.inr ⟨by decide +kernel, rfl, trivial⟩
theorem kw11_90 : kok 11 90 (.iconst 3, 91, 0, 0, 0, 3, []) := Or.inr ⟨by decide +kernel, rfl, rfl⟩
theorem kw11_91 : kok 11 91 (.anewarray 36, 94, 4, 0, 0, 0, []) := Or.inr ⟨by decide +kernel, rfl, Or.inr (Or.inl ⟨rfl, mk117⟩)⟩
theorem kw11_94 : kok 11 94 (.putfield 56, 97, 11, 8, 2, 0, []) := Or.inr ⟨by decide +kernel, rfl, ⟨by decide, RX11, TX11, 20, rfl, by decide, mk432, rfl, tyX11 8, tyX11_ok 8 (by decide), fun _ => ⟨rfl, rfl⟩⟩⟩
theorem kw11_97 : kok 11 97 (.aload_n 0, 98, 0, 0, 0, 0, []) := Or.inr ⟨by decide +kernel, rfl, trivial⟩
theorem kw11_98 : kok 11 98 (.iconst 3, 99, 0, 0, 0, 3, []) := Or.inr ⟨by decide +kernel, rfl, rfl⟩
theorem kw11_99 : kok 11 99 (.anewarray 46, 102, 5, 0, 0, 0, []) := Or.inr ⟨by decide +kernel, rfl, Or.inr (Or.inr ⟨rfl, mk209⟩)⟩
theorem kw11_102 : kok 11 102 (.putfield 60, 105, 11, 9, 2, 0, []) := Or.inr ⟨by decide +kernel, rfl, ⟨by decide, RX11, TX11, 20, rfl, by decide, mk433, rfl, tyX11 9, tyX11_ok 9 (by decide), fun _ => ⟨rfl, rfl⟩⟩⟩
theorem kw11_105 : kok 11 105 (.aload_n 0, 106, 0, 0, 0, 0, []) := Or.inr ⟨by decide +kernel, rfl, trivial⟩
theorem kw11_106 : kok 11 106 (.new 64, 109, 5, 0, 0, 0, []) := Or.inr ⟨by decide +kernel, rfl, ⟨RX5, TX5, 9, rfl, mk253, mk254, mk7, rfl, tyX5, tyX5_ok, fun b j hj => df5 b j hj⟩⟩
theorem kw11_109 : kok 11 109 (.dup, 110, 0, 0, 0, 0, []) := Or.inr ⟨by decide +kernel, rfl, trivial⟩
theorem kw11_110 : kok 11 110 (.invokespecial 66, 113, 5, 0, 0, 0, []) := Or.inr ⟨by decide +kernel, rfl, Or.inr ⟨by decide, km5, by decide +kernel, Or.inl (List.mem_of_getElem? (i := 5) rfl)⟩⟩
theorem kw11_113 : kok 11 113 (.putfield 67, 116, 11, 10, 3, 0, []) := Or.inr ⟨by decide +kernel, rfl, ⟨by decide, RX11, TX11, 20, rfl, by decide, mk434, rfl, tyX11 10, tyX11_ok 10 (by decide), fun _ => ⟨rfl, rfl⟩⟩⟩
theorem kw11_116 : kok 11 116 (.aload_n 0, 117, 0, 0, 0, 0, []) := Or.inr ⟨by decide +kernel, rfl, trivial⟩
theorem kw11_117 : kok 11 117 (.new 64, 120, 5, 0, 0, 0, []) := Or.inr ⟨by decide +kernel, rfl, ⟨RX5, TX5, 9, rfl, mk253, mk254, mk7, rfl, tyX5, tyX5_ok, fun b j hj => df5 b j hj⟩⟩
theorem kw11_120 : kok 11 120 (.dup, 121, 0, 0, 0, 0, []) := Or.inr ⟨by decide +kernel, rfl, trivial⟩
theorem kw11_121 : kok 11 121 (.invokespecial 66, 124, 5, 0, 0, 0, []) := Or.inr ⟨by decide +kernel, rfl, Or.inr ⟨by decide, km5, by decide +kernel, Or.inl (List.mem_of_getElem? (i := 5) rfl)⟩⟩
theorem kw11_124 : kok 11 124 (.putfield 71, 127, 11, 11, 3, 0, []) := Or.inr ⟨by decide +kernel, rfl, ⟨by decide, RX11, TX11, 20, rfl, by decide, mk435, rfl, tyX11 11, tyX11_ok 11 (by decide), fun _ => ⟨rfl, rfl⟩⟩⟩
theorem kw11_127 : kok 11 127 (.aload_n 0, 128, 0, 0, 0, 0, []) := Or.inr ⟨by decide +kernel, rfl, trivial⟩
theorem kw11_128 : kok 11 128 (.new 74, 131, 6, 0, 0, 0, []) := Or.inr ⟨by decide +kernel, rfl, ⟨RX6, TX6, 9, rfl, mk294, mk295, mk8, rfl, tyX6, tyX6_ok, fun b j hj => df6 b j hj⟩⟩
theorem kw11_131 : kok 11 131 (.dup, 132, 0, 0, 0, 0, []) := Or.inr ⟨by decide +kernel, rfl, trivial⟩
theorem kw11_132 : kok 11 132 (.invokespecial 76, 135, 6, 0, 0, 0, []) := Or.inr ⟨by decide +kernel, rfl, Or.inr ⟨by decide, km6, by decide +kernel, Or.inl (List.mem_of_getElem? (i := 6) rfl)⟩⟩
theorem kw11_135 : kok 11 135 (.putfield 77, 138, 11, 12, 3, 0, []) := Or.inr ⟨by decide +kernel, rfl, ⟨by decide, RX11, TX11, 20, rfl, by decide, mk436, rfl, tyX11 12, tyX11_ok 12 (by decide), fun _ => ⟨rfl, rfl⟩⟩⟩
theorem kw11_138 : kok 11 138 (.aload_n 0, 139, 0, 0, 0, 0, []) := Or.inr ⟨by decide +kernel, rfl, trivial⟩
theorem kw11_139 : kok 11 139 (.new 81, 142, 3, 0, 0, 0, []) := Or.inr ⟨by decide +kernel, rfl, ⟨RX3, TX3, 9, rfl, mk330, mk331, mk9, rfl, tyX3, tyX3_ok, fun b j hj => df3 b j hj⟩⟩
theorem kw11_142 : kok 11 142 (.dup, 143, 0, 0, 0, 0, []) := Or.inr ⟨by decide +kernel, rfl, trivial⟩
theorem kw11_143 : kok 11 143 (.invokespecial 83, 146, 3, 0, 0, 0, []) := Or.inr ⟨by decide +kernel, rfl, Or.inr ⟨by decide, km3, by decide +kernel, Or.inl (List.mem_of_getElem? (i := 7) rfl)⟩⟩
theorem kw11_146 : kok 11 146 (.putfield 84, 149, 11, 13, 3, 0, []) := Or.inr ⟨by decide +kernel, rfl, ⟨by decide, RX11, TX11, 20, rfl, by decide, mk437, rfl, tyX11 13, tyX11_ok 13 (by decide), fun _ => ⟨rfl, rfl⟩⟩⟩
theorem kw11_149 : kok 11 149 (.aload_n 0, 150, 0, 0, 0, 0, []) := Or.inr ⟨by decide +kernel, rfl, trivial⟩
theorem kw11_150 : kok 11 150 (.new 88, 153, 0, 0, 0, 0, []) := Or.inr ⟨by decide +kernel, rfl, ⟨RX0, TX0, 5, rfl, mk366, mk367, mk10, rfl, tyX0, tyX0_ok, fun b j hj => df0 b j hj⟩⟩
theorem kw11_153 : kok 11 153 (.dup, 154, 0, 0, 0, 0, []) := Or.inr ⟨by decide +kernel, rfl, trivial⟩
theorem kw11_154 : kok 11 154 (.invokespecial 90, 157, 0, 0, 0, 0, []) := Or.inr ⟨by decide +kernel, rfl, Or.inr ⟨by decide, km0, by decide +kernel, Or.inl (List.mem_of_getElem? (i := 8) rfl)⟩⟩
theorem kw11_157 : kok 11 157 (.putfield 91, 160, 11, 14, 3, 0, []) := Or.inr ⟨by decide +kernel, rfl, ⟨by decide, RX11, TX11, 20, rfl, by decide, mk438, rfl, tyX11 14, tyX11_ok 14 (by decide), fun _ => ⟨rfl, rfl⟩⟩⟩
theorem kw11_160 : kok 11 160 (.aload_n 0, 161, 0, 0, 0, 0, []) := Or.inr ⟨by decide +kernel, rfl, trivial⟩
theorem kw11_161 : kok 11 161 (.new 95, 164, 4, 0, 0, 0, []) := Or.inr ⟨by decide +kernel, rfl, ⟨RX4, TX4, 2, rfl, mk389, mk390, mk11, rfl, tyX4, tyX4_ok, fun b j hj => df4 b j hj⟩⟩
theorem kw11_164 : kok 11 164 (.dup, 165, 0, 0, 0, 0, []) := Or.inr ⟨by decide +kernel, rfl, trivial⟩
theorem kw11_165 : kok 11 165 (.invokespecial 97, 168, 4, 0, 0, 0, []) := Or.inr ⟨by decide +kernel, rfl, Or.inr ⟨by decide, km4, by decide +kernel, Or.inl (List.mem_of_getElem? (i := 9) rfl)⟩⟩
theorem kw11_168 : kok 11 168 (.putfield 98, 171, 11, 15, 3, 0, []) := Or.inr ⟨by decide +kernel, rfl, ⟨by decide, RX11, TX11, 20, rfl, by decide, mk439, rfl, tyX11 15, tyX11_ok 15 (by decide), fun _ => ⟨rfl, rfl⟩⟩⟩
theorem kw11_171 : kok 11 171 (.aload_n 0, 172, 0, 0, 0, 0, []) := Or.inr ⟨by decide +kernel, rfl, trivial⟩
theorem kw11_172 : kok 11 172 (.iconst (-1), 173, 0, 0, 0, -1, []) := Or.inr ⟨by decide +kernel, rfl, rfl⟩
theorem kw11_173 : kok 11 173 (.putfield 102, 176, 11, 18, 0, 0, []) := Or.inr ⟨by decide +kernel, rfl, ⟨by decide, RX11, TX11, 20, rfl, by decide, mk442, rfl, tyX11 18, tyX11_ok 18 (by decide), rfl⟩⟩
theorem kw11_176 : kok 11 176 (.aload_n 0, 177, 0, 0, 0, 0, []) := Or.inr ⟨by decide +kernel, rfl, trivial⟩
theorem kw11_177 : kok 11 177 (.iconst (-1), 178, 0, 0, 0, -1, []) := Or.inr ⟨by decide +kernel, rfl, rfl⟩
theorem kw11_178 : kok 11 178 (.putfield 106, 181, 11, 19, 0, 0, []) := Or.inr ⟨by decide +kernel, rfl, ⟨by decide, RX11, TX11, 20, rfl, by decide, mk443, rfl, tyX11 19, tyX11_ok 19 (by decide), rfl⟩⟩
theorem kw11_181 : kok 11 181 (.iconst 0, 182, 0, 0, 0, 0, []) := Or.inr ⟨by decide +kernel, rfl, rfl⟩
theorem kw11_182 : kok 11 182 (.istore_n 1, 183, 0, 0, 0, 0, []) := Or.inr ⟨by decide +kernel, rfl, ⟨(Nat.le_of_ble_eq_true rfl : 1 + 1 ≤ cml 11), by decide⟩⟩
theorem kw11_183 : kok 11 183 (.iload_n 1, 184, 0, 0, 0, 0, []) := Or.inr ⟨by decide +kernel, rfl, trivial⟩
theorem kw11_184 : kok 11 184 (.iconst 4, 185, 0, 0, 0, 4, []) := Or.inr ⟨by decide +kernel, rfl, rfl⟩
theorem kw11_185 : kok 11 185 (.if_icmp .ge 22, 188, 207, 0, 0, 0, []) := Or.inr ⟨by decide +kernel, rfl, rfl⟩
theorem kw11_188 : kok 11 188 (.aload_n 0, 189, 0, 0, 0, 0, []) := Or.inr ⟨by decide +kernel, rfl, trivial⟩
theorem kw11_189 : kok 11 189 (.getfield 11, 192, 11, 0, 2, 0, []) := Or.inr ⟨by decide +kernel, rfl, ⟨RX11, TX11, 20, rfl, by decide, mk424⟩⟩
theorem kw11_192 : kok 11 192 (.iload_n 1, 193, 0, 0, 0, 0, []) := Or.inr ⟨by decide +kernel, rfl, trivial⟩
theorem kw11_193 : kok 11 193 (.new 9, 196, 10, 0, 0, 0, []) := Or.inr ⟨by decide +kernel, rfl, ⟨RX10, TX10, 3, rfl, mk25, mk404, mk12, rfl, tyX10, tyX10_ok, fun b j hj => df10 b j hj⟩⟩
theorem kw11_196 : kok 11 196 (.dup, 197, 0, 0, 0, 0, []) := Or.inr ⟨by decide +kernel, rfl, trivial⟩
theorem kw11_197 : kok 11 197 (.invokespecial 109, 200, 10, 0, 0, 0, []) := Or.inr ⟨by decide +kernel, rfl, Or.inr ⟨by decide, km10, by decide +kernel, Or.inl (List.mem_of_getElem? (i := 10) rfl)⟩⟩
theorem kw11_200 : kok 11 200 (.aastore, 201, 0, 0, 0, 0, []) := Or.inr ⟨by decide +kernel, rfl, trivial⟩
theorem kw11_201 : kok 11 201 (.iinc 1 1, 204, 0, 0, 0, 0, []) := Or.inr ⟨by decide +kernel, rfl, ⟨(Nat.le_of_ble_eq_true rfl : 1 + 1 ≤ cml 11), by decide⟩⟩
theorem kw11_204 : kok 11 204 (.goto (-21), 207, 183, 0, 0, 0, []) := Or.inr ⟨by decide +kernel, rfl, rfl⟩
theorem kw11_207 : kok 11 207 (.iconst 0, 208, 0, 0, 0, 0, []) := Or.inr ⟨by decide +kernel, rfl, rfl⟩
theorem kw11_208 : kok 11 208 (.istore_n 1, 209, 0, 0, 0, 0, []) := Or.inr ⟨by decide +kernel, rfl, ⟨(Nat.le_of_ble_eq_true rfl : 1 + 1 ≤ cml 11), by decide⟩⟩
theorem kw11_209 : kok 11 209 (.iload_n 1, 210, 0, 0, 0, 0, []) := Or.inr ⟨by decide +kernel, rfl, trivial⟩
theorem kw11_210 : kok 11 210 (.iconst 3, 211, 0, 0, 0, 3, []) := Or.inr ⟨by decide +kernel, rfl, rfl⟩
theorem kw11_211 : kok 11 211 (.if_icmp .ge 35, 214, 246, 0, 0, 0, []) := Or.inr ⟨by decide +kernel, rfl, rfl⟩
theorem kw11_214 : kok 11 214 (.aload_n 0, 215, 0, 0, 0, 0, []) := Or.inr ⟨by decide +kernel, rfl, trivial⟩
theorem kw11_215 : kok 11 215 (.getfield 56, 218, 11, 8, 2, 0, []) := Or.inr ⟨by decide +kernel, rfl, ⟨RX11, TX11, 20, rfl, by decide, mk432⟩⟩
theorem kw11_218 : kok 11 218 (.iload_n 1, 219, 0, 0, 0, 0, []) := Or.inr ⟨by decide +kernel, rfl, trivial⟩
theorem kw11_219 : kok 11 219 (.new 36, 222, 7, 0, 0, 0, []) := Or.inr ⟨by decide +kernel, rfl, ⟨RX7, TX7, 14, rfl, mk117, mk118, mk5, rfl, tyX7, tyX7_ok, fun b j hj => df7 b j hj⟩⟩
theorem kw11_222 : kok 11 222 (.dup, 223, 0, 0, 0, 0, []) := Or.inr ⟨by decide +kernel, rfl, trivial⟩
theorem kw11_223 : kok 11 223 (.invokespecial 38, 226, 7, 0, 0, 0, []) := Or.inr ⟨by decide +kernel, rfl, Or.inr ⟨by decide, km7, by decide +kernel, Or.inl (List.mem_of_getElem? (i := 3) rfl)⟩⟩
theorem kw11_226 : kok 11 226 (.aastore, 227, 0, 0, 0, 0, []) := Or.inr ⟨by decide +kernel, rfl, trivial⟩
theorem kw11_227 : kok 11 227 (.aload_n 0, 228, 0, 0, 0, 0, []) := Or.inr ⟨by decide +kernel, rfl, trivial⟩
theorem kw11_228 : kok 11 228 (.getfield 60, 231, 11, 9, 2, 0, []) := Or.inr ⟨by decide +kernel, rfl, ⟨RX11, TX11, 20, rfl, by decide, mk433⟩⟩
theorem kw11_231 : kok 11 231 (.iload_n 1, 232, 0, 0, 0, 0, []) := Or.inr ⟨by decide +kernel, rfl, trivial⟩
theorem kw11_232 : kok 11 232 (.new 46, 235, 1, 0, 0, 0, []) := Or.inr ⟨by decide +kernel, rfl, ⟨RX1, TX1, 8, rfl, mk209, mk210, mk6, rfl, tyX1, tyX1_ok, fun b j hj => df1 b j hj⟩⟩
theorem kw11_235 : kok 11 235 (.dup, 236, 0, 0, 0, 0, []) := Or.inr ⟨by decide +kernel, rfl, trivial⟩
theorem kw11_236 : kok 11 236 (.invokespecial 48, 239, 1, 0, 0, 0, []) := Or.inr ⟨by decide +kernel, rfl, Or.inr ⟨by decide, km1, by decide +kernel, Or.inl (List.mem_of_getElem? (i := 4) rfl)⟩⟩
theorem kw11_239 : kok 11 239 (.aastore, 240, 0, 0, 0, 0, []) := Or.inr ⟨by decide +kernel, rfl, trivial⟩
theorem kw11_240 : kok 11 240 (.iinc 1 1, 243, 0, 0, 0, 0, []) := Or.inr ⟨by decide +kernel, rfl, ⟨(Nat.le_of_ble_eq_true rfl : 1 + 1 ≤ cml 11), by decide⟩⟩
theorem kw11_243 : kok 11 243 (.goto (-34), 246, 209, 0, 0, 0, []) := Or.inr ⟨by decide +kernel, rfl, rfl⟩
theorem kw11_246 : kok 11 246 (.return_, 247, 0, 0, 0, 0, []) := Or.inr ⟨by decide +kernel, rfl, trivial⟩
theorem kw11 : ∀ pc, kok 11 pc (cpg11 pc) := by
  unfold cpg11
  exact knode (knode (knode (knode (knode (knode (kleaf kw11_0) (knode (kleaf kw11_1) (kleaf kw11_4))) (knode (knode (kleaf kw11_5) (kleaf kw11_6)) (knode (kleaf kw11_9) (kleaf kw11_12)))) (knode (knode (knode (kleaf kw11_13) (kleaf kw11_16)) (knode (kleaf kw11_17) (kleaf kw11_20))) (knode (knode (kleaf kw11_23) (kleaf kw11_24)) (knode (kleaf kw11_27) (kleaf kw11_28))))) (knode (knode (knode (kleaf kw11_31) (knode (kleaf kw11_34) (kleaf kw11_35))) (knode (knode (kleaf kw11_38) (kleaf kw11_39)) (knode (kleaf kw11_42) (kleaf kw11_45)))) (knode (knode (knode (kleaf kw11_46) (kleaf kw11_49)) (knode (kleaf kw11_50) (kleaf kw11_53))) (knode (knode (kleaf kw11_56) (kleaf kw11_57)) (knode (kleaf kw11_60) (kleaf kw11_61)))))) (knode (knode (knode (knode (kleaf kw11_64) (knode (kleaf kw11_67) (kleaf kw11_68))) (knode (knode (kleaf kw11_71) (kleaf kw11_72)) (knode (kleaf kw11_75) (kleaf kw11_78)))) (knode (knode (knode (kleaf kw11_79) (kleaf kw11_82)) (knode (kleaf kw11_83) (kleaf kw11_86))) (knode (knode (kleaf kw11_89) (kleaf kw11_90)) (knode (kleaf kw11_91) (kleaf kw11_94))))) (knode (knode (knode (kleaf kw11_97) (knode (kleaf kw11_98) (kleaf kw11_99))) (knode (knode (kleaf kw11_102) (kleaf kw11_105)) (knode (kleaf kw11_106) (kleaf kw11_109)))) (knode (knode (knode (kleaf kw11_110) (kleaf kw11_113)) (knode (kleaf kw11_116) (kleaf kw11_117))) (knode (knode (kleaf kw11_120) (kleaf kw11_121)) (knode (kleaf kw11_124) (kleaf kw11_127))))))) (knode (knode (knode (knode (knode (kleaf kw11_128) (knode (kleaf kw11_131) (kleaf kw11_132))) (knode (knode (kleaf kw11_135) (kleaf kw11_138)) (knode (kleaf kw11_139) (kleaf kw11_142)))) (knode (knode (knode (kleaf kw11_143) (kleaf kw11_146)) (knode (kleaf kw11_149) (kleaf kw11_150))) (knode (knode (kleaf kw11_153) (kleaf kw11_154)) (knode (kleaf kw11_157) (kleaf kw11_160))))) (knode (knode (knode (kleaf kw11_161) (knode (kleaf kw11_164) (kleaf kw11_165))) (knode (knode (kleaf kw11_168) (kleaf kw11_171)) (knode (kleaf kw11_172) (kleaf kw11_173)))) (knode (knode (knode (kleaf kw11_176) (kleaf kw11_177)) (knode (kleaf kw11_178) (kleaf kw11_181))) (knode (knode (kleaf kw11_182) (kleaf kw11_183)) (knode (kleaf kw11_184) (kleaf kw11_185)))))) (knode (knode (knode (knode (kleaf kw11_188) (knode (kleaf kw11_189) (kleaf kw11_192))) (knode (knode (kleaf kw11_193) (kleaf kw11_196)) (knode (kleaf kw11_197) (kleaf kw11_200)))) (knode (knode (knode (kleaf kw11_201) (kleaf kw11_204)) (knode (kleaf kw11_207) (kleaf kw11_208))) (knode (knode (kleaf kw11_209) (kleaf kw11_210)) (knode (kleaf kw11_211) (kleaf kw11_214))))) (knode (knode (knode (knode (kleaf kw11_215) (kleaf kw11_218)) (knode (kleaf kw11_219) (kleaf kw11_222))) (knode (knode (kleaf kw11_223) (kleaf kw11_226)) (knode (kleaf kw11_227) (kleaf kw11_228)))) (knode (knode (knode (kleaf kw11_231) (kleaf kw11_232)) (knode (kleaf kw11_235) (kleaf kw11_236))) (knode (knode (kleaf kw11_239) (kleaf kw11_240)) (knode (kleaf kw11_243) (kleaf kw11_246)))))))
theorem kw12_0 : kok 12 0 (.aload_n 0, 1, 0, 0, 0, 0, []) := Or.inr ⟨by decide +kernel, rfl, trivial⟩
theorem kw12_1 : kok 12 1 (.invokespecial 1, 4, 99, 0, 0, 0, []) := Or.inr ⟨by decide +kernel, rfl, Or.inl ⟨rfl, mk1245⟩⟩
theorem kw12_4 : kok 12 4 (.aload_n 0, 5, 0, 0, 0, 0, []) := Or.inr ⟨by decide +kernel, rfl, trivial⟩
theorem kw12_5 : kok 12 5 (.lconst 1, 6, 0, 0, 0, 1, []) := Or.inr ⟨by decide +kernel, rfl, rfl⟩
theorem kw12_6 : kok 12 6 (.putfield 7, 9, 12, 3, 1, 0, []) := Or.inr ⟨by decide +kernel, rfl, ⟨by decide, RX12, TX12, 49, rfl, by decide, mk1253, rfl, tyX12 3, tyX12_ok 3 (by decide), rfl⟩⟩
theorem kw12_9 : kok 12 9 (.aload_n 0, 10, 0, 0, 0, 0, []) := Or.inr ⟨by decide +kernel, rfl, trivial⟩
theorem kw12_10 : kok 12 10 (.iconst 4, 11, 0, 0, 0, 4, []) := Or.inr ⟨by decide +kernel, rfl, rfl⟩
theorem kw12_11 : kok 12 11 (.newarray .int, 13, 0, 0, 0, 0, []) := Or.inr ⟨by decide +kernel, rfl, Or.inl ⟨rfl, rfl⟩⟩
theorem kw12_13 : kok 12 13 (.putfield 13, 16, 12, 4, 2, 0, []) := Or.inr ⟨by decide +kernel, rfl, ⟨by decide, RX12, TX12, 49, rfl, by decide, mk1254, rfl, tyX12 4, tyX12_ok 4 (by decide), fun _ => ⟨rfl, rfl⟩⟩⟩
theorem kw12_16 : kok 12 16 (.aload_n 0, 17, 0, 0, 0, 0, []) := Or.inr ⟨by decide +kernel, rfl, trivial⟩
theorem kw12_17 : kok 12 17 (.iconst 4, 18, 0, 0, 0, 4, []) := Or.inr ⟨by decide +kernel, rfl, rfl⟩
theorem kw12_18 : kok 12 18 (.newarray .int, 20, 0, 0, 0, 0, []) := Or.inr ⟨by decide +kernel, rfl, Or.inl ⟨rfl, rfl⟩⟩
theorem kw12_20 : kok 12 20 (.putfield 17, 23, 12, 5, 2, 0, []) := Or.inr ⟨by decide +kernel, rfl, ⟨by decide, RX12, TX12, 49, rfl, by decide, mk1255, rfl, tyX12 5, tyX12_ok 5 (by decide), fun _ => ⟨rfl, rfl⟩⟩⟩
theorem kw12_23 : kok 12 23 (.aload_n 0, 24, 0, 0, 0, 0, []) := Or.inr ⟨by decide +kernel, rfl, trivial⟩
theorem kw12_24 : kok 12 24 (.sipush 240, 27, 0, 0, 0, 240, []) := Or.inr ⟨by decide +kernel, rfl, rfl⟩
theorem kw12_27 : kok 12 27 (.newarray .long, 29, 1, 0, 0, 0, []) := Or.inr ⟨by decide +kernel, rfl, Or.inr (Or.inl ⟨rfl, rfl⟩)⟩
theorem kw12_29 : kok 12 29 (.putfield 20, 32, 12, 6, 2, 0, []) := Or.inr ⟨by decide +kernel, rfl, ⟨by decide, RX12, TX12, 49, rfl, by decide, mk1256, rfl, tyX12 6, tyX12_ok 6 (by decide), fun _ => ⟨rfl, rfl⟩⟩⟩
theorem kw12_32 : kok 12 32 (.aload_n 0, 33, 0, 0, 0, 0, []) := Or.inr ⟨by decide +kernel, rfl, trivial⟩
theorem kw12_33 : kok 12 33 (.sipush 900, 36, 0, 0, 0, 900, []) := Or.inr ⟨by decide +kernel, rfl, rfl⟩
theorem kw12_36 : kok 12 36 (.newarray .byte, 38, 2, 0, 0, 0, []) := Or.inr ⟨by decide +kernel, rfl, Or.inr (Or.inr ⟨rfl, rfl⟩)⟩
theorem kw12_38 : kok 12 38 (.putfield 24, 41, 12, 7, 2, 0, []) := Or.inr ⟨by decide +kernel, rfl, ⟨by decide, RX12, TX12, 49, rfl, by decide, mk1257, rfl, tyX12 7, tyX12_ok 7 (by decide), fun _ => ⟨rfl, rfl⟩⟩⟩
theorem kw12_41 : kok 12 41 (.aload_n 0, 42, 0, 0, 0, 0, []) := Or.inr ⟨by decide +kernel, rfl, trivial⟩
theorem kw12_42 : kok 12 42 (.iconst (-1), 43, 0, 0, 0, -1, []) := Or.inr ⟨by decide +kernel, rfl, rfl⟩
theorem kw12_43 : kok 12 43 (.putfield 28, 46, 12, 10, 0, 0, []) := Or.inr ⟨by decide +kernel, rfl, ⟨by decide, RX12, TX12, 49, rfl, by decide, mk1260, rfl, tyX12 10, tyX12_ok 10 (by decide), rfl⟩⟩
theorem kw12_46 : kok 12 46 (.aload_n 0, 47, 0, 0, 0, 0, []) := Or.inr ⟨by decide +kernel, rfl, trivial⟩
theorem kw12_47 : kok 12 47 (.iconst (-1), 48, 0, 0, 0, -1, []) := Or.inr ⟨by decide +kernel, rfl, rfl⟩
theorem kw12_48 : kok 12 48 (.putfield 32, 51, 12, 11, 0, 0, []) := Or.inr ⟨by decide +kernel, rfl, ⟨by decide, RX12, TX12, 49, rfl, by decide, mk1261, rfl, tyX12 11, tyX12_ok 11 (by decide), rfl⟩⟩
theorem kw12_51 : kok 12 51 (.aload_n 0, 52, 0, 0, 0, 0, []) := Or.inr ⟨by decide +kernel, rfl, trivial⟩
theorem kw12_52 : kok 12 52 (.sipush 1860, 55, 0, 0, 0, 1860, []) := Or.inr ⟨by decide +kernel, rfl, rfl⟩
theorem kw12_55 : kok 12 55 (.newarray .int, 57, 0, 0, 0, 0, []) := Or.inr ⟨by decide +kernel, rfl, Or.inl ⟨rfl, rfl⟩⟩
theorem kw12_57 : kok 12 57 (.putfield 35, 60, 12, 20, 2, 0, []) := Or.inr ⟨by decide +kernel, rfl, ⟨by decide, RX12, TX12, 49, rfl, by decide, mk1270, rfl, tyX12 20, tyX12_ok 20 (by decide), fun _ => ⟨rfl, rfl⟩⟩⟩
theorem kw12_60 : kok 12 60 (.aload_n 0, 61, 0, 0, 0, 0, []) := Or.inr ⟨by decide +kernel, rfl, trivial⟩
theorem kw12_61 : kok 12 61 (.bipush 100, 63, 0, 0, 0, 100, []) := Or.inr ⟨by decide +kernel, rfl, rfl⟩
theorem kw12_63 : kok 12 63 (.newarray .int, 65, 0, 0, 0, 0, []) := Or.inr ⟨by decide +kernel, rfl, Or.inl ⟨rfl, rfl⟩⟩
theorem kw12_65 : kok 12 65 (.putfield 38, 68, 12, 21, 2, 0, []) := Or.inr ⟨by decide +kernel, rfl, ⟨by decide, RX12, TX12, 49, rfl, by decide, mk1271, rfl, tyX12 21, tyX12_ok 21 (by decide), fun _ => ⟨rfl, rfl⟩⟩⟩
theorem kw12_68 : kok 12 68 (.aload_n 0, 69, 0, 0, 0, 0, []) := Or.inr ⟨by decide +kernel, rfl, trivial⟩
theorem kw12_69 : kok 12 69 (.bipush 35, 71, 0, 0, 0, 35, []) := Or.inr ⟨by decide +kernel, rfl, rfl⟩
theorem kw12_71 : kok 12 71 (.newarray .long, 73, 1, 0, 0, 0, []) := Or.inr ⟨by decide +kernel, rfl, Or.inr (Or.inl ⟨rfl, rfl⟩)⟩
theorem kw12_73 : kok 12 73 (.putfield 41, 76, 12, 22, 2, 0, []) := Or.inr ⟨by decide +kernel, rfl, ⟨by decide, RX12, TX12, 49, rfl, by decide, mk1272, rfl, tyX12 22, tyX12_ok 22 (by decide), fun _ => ⟨rfl, rfl⟩⟩⟩
theorem kw12_76 : kok 12 76 (.aload_n 0, 77, 0, 0, 0, 0, []) := Or.inr ⟨by decide +kernel, rfl, trivial⟩
theorem kw12_77 : kok 12 77 (.sipush 5040, 80, 0, 0, 0, 5040, []) := Or.inr ⟨by decide +kernel, rfl, rfl⟩
theorem kw12_80 : kok 12 80 (.newarray .int, 82, 0, 0, 0, 0, []) := Or.inr ⟨by decide +kernel, rfl, Or.inl ⟨rfl, rfl⟩⟩
theorem kw12_82 : kok 12 82 (.putfield 44, 85, 12, 26, 2, 0, []) := Or.inr ⟨by decide +kernel, rfl, ⟨by decide, RX12, TX12, 49, rfl, by decide, mk1276, rfl, tyX12 26, tyX12_ok 26 (by decide), fun _ => ⟨rfl, rfl⟩⟩⟩
theorem kw12_85 : kok 12 85 (.aload_n 0, 86, 0, 0, 0, 0, []) := Or.inr ⟨by decide +kernel, rfl, trivial⟩
theorem kw12_86 : kok 12 86 (.sipush 5040, 89, 0, 0, 0, 5040, []) := Or.inr ⟨by decide +kernel, rfl, rfl⟩
theorem kw12_89 : kok 12 89 (.newarray .int, 91, 0, 0, 0, 0, []) := Or.inr ⟨by decide +kernel, rfl, Or.inl ⟨rfl, rfl⟩⟩
theorem kw12_91 : kok 12 91 (.putfield 47, 94, 12, 27, 2, 0, []) := Or.inr ⟨by decide +kernel, rfl, ⟨by decide, RX12, TX12, 49, rfl, by decide, mk1277, rfl, tyX12 27, tyX12_ok 27 (by decide), fun _ => ⟨rfl, rfl⟩⟩⟩
theorem kw12_94 : kok 12 94 (.aload_n 0, 95, 0, 0, 0, 0, []) := Or.inr ⟨by decide +kernel, rfl, trivial⟩
theorem kw12_95 : kok 12 95 (.bipush 7, 97, 0, 0, 0, 7, []) := Or.inr ⟨by decide +kernel, rfl, rfl⟩
theorem kw12_97 : kok 12 97 (.newarray .int, 99, 0, 0, 0, 0, []) := Or.inr ⟨by decide +kernel, rfl, Or.inl ⟨rfl, rfl⟩⟩
theorem kw12_99 : kok 12 99 (.putfield 50, 102, 12, 28, 2, 0, []) := Or.inr ⟨by decide +kernel, rfl, ⟨by decide, RX12, TX12, 49, rfl, by decide, mk1278, rfl, tyX12 28, tyX12_ok 28 (by decide), fun _ => ⟨rfl, rfl⟩⟩⟩
theorem kw12_102 : kok 12 102 (.aload_n 0, 103, 0, 0, 0, 0, []) := Or.inr ⟨by decide +kernel, rfl, trivial⟩
theorem kw12_103 : kok 12 103 (.bipush 7, 105, 0, 0, 0, 7, []) := Or.inr ⟨by decide +kernel, rfl, rfl⟩
theorem kw12_105 : kok 12 105 (.newarray .int, 107, 0, 0, 0, 0, []) := Or.inr ⟨by decide +kernel, rfl, Or.inl ⟨rfl, rfl⟩⟩
theorem kw12_107 : kok 12 107 (.putfield 53, 110, 12, 29, 2, 0, []) := Or.inr ⟨by decide +kernel, rfl, ⟨by decide, RX12, TX12, 49, rfl, by decide, mk1279, rfl, tyX12 29, tyX12_ok 29 (by decide), fun _ => ⟨rfl, rfl⟩⟩⟩
theorem kw12_110 : kok 12 110 (.aload_n 0, 111, 0, 0, 0, 0, []) := Or.inr ⟨by decide +kernel, rfl, trivial⟩
theorem kw12_111 : kok 12 111 (.iconst 5, 112, 0, 0, 0, 5, []) := Or.inr ⟨by decide +kernel, rfl, rfl⟩
theorem kw12_112 : kok 12 112 (.newarray .int, 114, 0, 0, 0, 0, []) := Or.inr ⟨by decide +kernel, rfl, Or.inl ⟨rfl, rfl⟩⟩
theorem kw12_114 : kok 12 114 (.putfield 56, 117, 12, 31, 2, 0, []) := Or.inr ⟨by decide +kernel, rfl, ⟨by decide, RX12, TX12, 49, rfl, by decide, mk1281, rfl, tyX12 31, tyX12_ok 31 (by decide), fun _ => ⟨rfl, rfl⟩⟩⟩
theorem kw12_117 : kok 12 117 (.aload_n 0, 118, 0, 0, 0, 0, []) := Or.inr ⟨by decide +kernel, rfl, trivial⟩
theorem kw12_118 : kok 12 118 (.iconst 5, 119, 0, 0, 0, 5, []) := Or.inr ⟨by decide +kernel, rfl, rfl⟩
theorem kw12_119 : kok 12 119 (.newarray .int, 121, 0, 0, 0, 0, []) := Or.inr ⟨by decide +kernel, rfl, Or.inl ⟨rfl, rfl⟩⟩
theorem kw12_121 : kok 12 121 (.putfield 59, 124, 12, 32, 2, 0, []) := Or.inr ⟨by decide +kernel, rfl, ⟨by decide, RX12, TX12, 49, rfl, by decide, mk1282, rfl, tyX12 32, tyX12_ok 32 (by decide), fun _ => ⟨rfl, rfl⟩⟩⟩
theorem kw12_124 : kok 12 124 (.aload_n 0, 125, 0, 0, 0, 0, []) := Or.inr ⟨by decide +kernel, rfl, trivial⟩
theorem kw12_125 : kok 12 125 (.bipush 49, 127, 0, 0, 0, 49, []) := Or.inr ⟨by decide +kernel, rfl, rfl⟩
theorem kw12_127 : kok 12 127 (.newarray .int, 129, 0, 0, 0, 0, []) := Or.inr ⟨by decide +kernel, rfl, Or.inl ⟨rfl, rfl⟩⟩
theorem kw12_129 : kok 12 129 (.putfield 62, 132, 12, 33, 2, 0, []) := Or.inr ⟨by decide +kernel, rfl, ⟨by decide, RX12, TX12, 49, rfl, by decide, mk1283, rfl, tyX12 33, tyX12_ok 33 (by decide), fun _ => ⟨rfl, rfl⟩⟩⟩
theorem kw12_132 : kok 12 132 (.aload_n 0, 133, 0, 0, 0, 0, []) := Or.inr ⟨by decide +kernel, rfl, trivial⟩
theorem kw12_133 : kok 12 133 (.bipush 7, 135, 0, 0, 0, 7, []) := Or.inr ⟨by decide +kernel, rfl, rfl⟩
theorem kw12_135 : kok 12 135 (.newarray .int, 137, 0, 0, 0, 0, []) := Or.inr ⟨by decide +kernel, rfl, Or.inl ⟨rfl, rfl⟩⟩
theorem kw12_137 : kok 12 137 (.putfield 65, 140, 12, 34, 2, 0, []) := Or.inr ⟨by decide +kernel, rfl, ⟨by decide, RX12, TX12, 49, rfl, by decide, mk1284, rfl, tyX12 34, tyX12_ok 34 (by decide), fun _ => ⟨rfl, rfl⟩⟩⟩
theorem kw12_140 : kok 12 140 (.aload_n 0, 141, 0, 0, 0, 0, []) := Or.inr ⟨by decide +kernel, rfl, trivial⟩
theorem kw12_141 : kok 12 141 (.bipush 7, 143, 0, 0, 0, 7, []) := Or.inr ⟨by decide +kernel, rfl, rfl⟩
theorem kw12_143 : kok 12 143 (.newarray .int, 145, 0, 0, 0, 0, []) := Or.inr ⟨by decide +kernel, rfl, Or.inl ⟨rfl, rfl⟩⟩
theorem kw12_145 : kok 12 145 (.putfield 68, 148, 12, 35, 2, 0, []) := Or.inr ⟨by decide +kernel, rfl, ⟨by decide, RX12, TX12, 49, rfl, by decide, mk1285, rfl, tyX12 35, tyX12_ok 35 (by decide), fun _ => ⟨rfl, rfl⟩⟩⟩
theorem kw12_148 : kok 12 148 (.aload_n 0, 149, 0, 0, 0, 0, []) := Or.inr ⟨by decide +kernel, rfl, trivial⟩
theorem kw12_149 : kok 12 149 (.bipush 7, 151, 0, 0, 0, 7, []) := Or.inr ⟨by decide +kernel, rfl, rfl⟩
theorem kw12_151 : kok 12 151 (.newarray .long, 153, 1, 0, 0, 0, []) := Or.inr ⟨by decide +kernel, rfl, Or.inr (Or.inl ⟨rfl, rfl⟩)⟩
theorem kw12_153 : kok 12 153 (.putfield 71, 156, 12, 37, 2, 0, []) := Or.inr ⟨by decide +kernel, rfl, ⟨by decide, RX12, TX12, 49, rfl, by decide, mk1287, rfl, tyX12 37, tyX12_ok 37 (by decide), fun _ => ⟨rfl, rfl⟩⟩⟩
theorem kw12_156 : kok 12 156 (.aload_n 0, 157, 0, 0, 0, 0, []) := Or.inr ⟨by decide +kernel, rfl, trivial⟩
theorem kw12_157 : kok 12 157 (.bipush 7, 159, 0, 0, 0, 7, []) := Or.inr ⟨by decide +kernel, rfl, rfl⟩
theorem kw12_159 : kok 12 159 (.newarray .long, 161, 1, 0, 0, 0, []) := Or.inr ⟨by decide +kernel, rfl, Or.inr (Or.inl ⟨rfl, rfl⟩)⟩
theorem kw12_161 : kok 12 161 (.putfield 74, 164, 12, 38, 2, 0, []) := Or.inr ⟨by decide +kernel, rfl, ⟨by decide, RX12, TX12, 49, rfl, by decide, mk1288, rfl, tyX12 38, tyX12_ok 38 (by decide), fun _ => ⟨rfl, rfl⟩⟩⟩
theorem kw12_164 : kok 12 164 (.aload_n 0, 165, 0, 0, 0, 0, []) := Or.inr ⟨by decide +kernel, rfl, trivial⟩
theorem kw12_165 : kok 12 165 (.iconst 5, 166, 0, 0, 0, 5, []) := Or.inr ⟨by decide +kernel, rfl, rfl⟩
theorem kw12_166 : kok 12 166 (.newarray .int, 168, 0, 0, 0, 0, []) := Or.inr ⟨by decide +kernel, rfl, Or.inl ⟨rfl, rfl⟩⟩
theorem kw12_168 : kok 12 168 (.putfield 77, 171, 12, 39, 2, 0, []) := Or.inr ⟨by decide +kernel, rfl, ⟨by decide, RX12, TX12, 49, rfl, by decide, mk1289, rfl, tyX12 39, tyX12_ok 39 (by decide), fun _ => ⟨rfl, rfl⟩⟩⟩
theorem kw12_171 : kok 12 171 (.iconst 0, 172, 0, 0, 0, 0, []) := Or.inr ⟨by decide +kernel, rfl, rfl⟩
theorem kw12_172 : kok 12 172 (.istore_n 1, 173, 0, 0, 0, 0, []) := Or.inr ⟨by decide +kernel, rfl, ⟨(Nat.le_of_ble_eq_true rfl : 1 + 1 ≤ cml 12), by decide⟩⟩
theorem kw12_173 : kok 12 173 (.iload_n 1, 174, 0, 0, 0, 0, []) := Or.inr ⟨by decide +kernel, rfl, trivial⟩
theorem kw12_174 : kok 12 174 (.iconst 4, 175, 0, 0, 0, 4, []) := Or.inr ⟨by decide +kernel, rfl, rfl⟩
theorem kw12_175 : kok 12 175 (.if_icmp .ge 16, 178, 191, 0, 0, 0, []) := Or.inr ⟨by decide +kernel, rfl, rfl⟩
theorem kw12_178 : kok 12 178 (.aload_n 0, 179, 0, 0, 0, 0, []) := Or.inr ⟨by decide +kernel, rfl, trivial⟩
theorem kw12_179 : kok 12 179 (.getfield 17, 182, 12, 5, 2, 0, []) := Or.inr ⟨by decide +kernel, rfl, ⟨RX12, TX12, 49, rfl, by decide, mk1255⟩⟩
theorem kw12_182 : kok 12 182 (.iload_n 1, 183, 0, 0, 0, 0, []) := Or.inr ⟨by decide +kernel, rfl, trivial⟩
theorem kw12_183 : kok 12 183 (.iconst (-1), 184, 0, 0, 0, -1, []) := Or.inr ⟨by decide +kernel, rfl, rfl⟩
theorem kw12_184 : kok 12 184 (.iastore, 185, 0, 0, 0, 0, []) := Or.inr ⟨by decide +kernel, rfl, trivial⟩
theorem kw12_185 : kok 12 185 (.iinc 1 1, 188, 0, 0, 0, 0, []) := Or.inr ⟨by decide +kernel, rfl, ⟨(Nat.le_of_ble_eq_true rfl : 1 + 1 ≤ cml 12), by decide⟩⟩
theorem kw12_188 : kok 12 188 (.goto (-15), 191, 173, 0, 0, 0, []) := Or.inr ⟨by decide +kernel, rfl, rfl⟩
theorem kw12_191 : kok 12 191 (.aload_n 0, 192, 0, 0, 0, 0, []) := Or.inr ⟨by decide +kernel, rfl, trivial⟩
theorem kw12_192 : kok 12 192 (.iconst 0, 193, 0, 0, 0, 0, []) := Or.inr ⟨by decide +kernel, rfl, rfl⟩
theorem kw12_193 : kok 12 193 (.invokevirtual 80, 196, 13, 0, 0, 0, []) := Or.inr ⟨by decide +kernel, rfl, ⟨rfl, km13, by decide +kernel, mk1246, lkp13, rfl⟩⟩
theorem kw12_196 : kok 12 196 (.return_, 197, 0, 0, 0, 0, []) := Or.inr ⟨by decide +kernel, rfl, trivial⟩
theorem kw12 : ∀ pc, kok 12 pc (cpg12 pc) := by
  unfold cpg12
  exact knode (knode (knode (knode (knode (knode (kleaf kw12_0) (knode (kleaf kw12_1) (kleaf kw12_4))) (knode (kleaf kw12_5) (knode (kleaf kw12_6) (kleaf kw12_9)))) (knode (knode (kleaf kw12_10) (knode (kleaf kw12_11) (kleaf kw12_13))) (knode (kleaf kw12_16) (knode (kleaf kw12_17) (kleaf kw12_18))))) (knode (knode (knode (kleaf kw12_20) (knode (kleaf kw12_23) (kleaf kw12_24))) (knode (kleaf kw12_27) (knode (kleaf kw12_29) (kleaf kw12_32)))) (knode (knode (kleaf kw12_33) (knode (kleaf kw12_36) (kleaf kw12_38))) (knode (knode (kleaf kw12_41) (kleaf kw12_42)) (knode (kleaf kw12_43) (kleaf kw12_46)))))) (knode (knode (knode (knode (kleaf kw12_47) (knode (kleaf kw12_48) (kleaf kw12_51))) (knode (kleaf kw12_52) (knode (kleaf kw12_55) (kleaf kw12_57)))) (knode (knode (kleaf kw12_60) (knode (kleaf kw12_61) (kleaf kw12_63))) (knode (knode (kleaf kw12_65) (kleaf kw12_68)) (knode (kleaf kw12_69) (kleaf kw12_71))))) (knode (knode (knode (kleaf kw12_73) (knode (kleaf kw12_76) (kleaf kw12_77))) (knode (kleaf kw12_80) (knode (kleaf kw12_82) (kleaf kw12_85)))) (knode (knode (kleaf kw12_86) (knode (kleaf kw12_89) (kleaf kw12_91))) (knode (knode (kleaf kw12_94) (kleaf kw12_95)) (knode (kleaf kw12_97) (kleaf kw12_99))))))) (knode (knode (knode (knode (knode (kleaf kw12_102) (knode (kleaf kw12_103) (kleaf kw12_105))) (knode (kleaf kw12_107) (knode (kleaf kw12_110) (kleaf kw12_111)))) (knode (knode (kleaf kw12_112) (knode (kleaf kw12_114) (kleaf kw12_117))) (knode (knode (kleaf kw12_118) (kleaf kw12_119)) (knode (kleaf kw12_121) (kleaf kw12_124))))) (knode (knode (knode (kleaf kw12_125) (knode (kleaf kw12_127) (kleaf kw12_129))) (knode (kleaf kw12_132) (knode (kleaf kw12_133) (kleaf kw12_135)))) (knode (knode (kleaf kw12_137) (knode (kleaf kw12_140) (kleaf kw12_141))) (knode (knode (kleaf kw12_143) (kleaf kw12_145)) (knode (kleaf kw12_148) (kleaf kw12_149)))))) (knode (knode (knode (knode (kleaf kw12_151) (knode (kleaf kw12_153) (kleaf kw12_156))) (knode (kleaf kw12_157) (knode (kleaf kw12_159) (kleaf kw12_161)))) (knode (knode (kleaf kw12_164) (knode (kleaf kw12_165) (kleaf kw12_166))) (knode (knode (kleaf kw12_168) (kleaf kw12_171)) (knode (kleaf kw12_172) (kleaf kw12_173))))) (knode (knode (knode (kleaf kw12_174) (knode (kleaf kw12_175) (kleaf kw12_178))) (knode (kleaf kw12_179) (knode (kleaf kw12_182) (kleaf kw12_183)))) (knode (knode (kleaf kw12_184) (knode (kleaf kw12_185) (kleaf kw12_188))) (knode (knode (kleaf kw12_191) (kleaf kw12_192)) (knode (kleaf kw12_193) (kleaf kw12_196)))))))
theorem kw13_0 : kok 13 0 (.iconst 0, 1, 0, 0, 0, 0, []) := Or.inr ⟨by decide +kernel, rfl, rfl⟩
theorem kw13_1 : kok 13 1 (.istore_n 2, 2, 0, 0, 0, 0, []) := Or.inr ⟨by decide +kernel, rfl, ⟨(Nat.le_of_ble_eq_true rfl : 2 + 1 ≤ cml 13), by decide⟩⟩
theorem kw13_2 : kok 13 2 (.iload_n 2, 3, 0, 0, 0, 0, []) := Or.inr ⟨by decide +kernel, rfl, trivial⟩
theorem kw13_3 : kok 13 3 (.sipush 372, 6, 0, 0, 0, 372, []) := Or.inr ⟨by decide +kernel, rfl, rfl⟩
theorem kw13_6 : kok 13 6 (.if_icmp .ge 22, 9, 28, 0, 0, 0, []) := Or.inr ⟨by decide +kernel, rfl, rfl⟩
theorem kw13_9 : kok 13 9 (.aload_n 0, 10, 0, 0, 0, 0, []) := Or.inr ⟨by decide +kernel, rfl, trivial⟩
theorem kw13_10 : kok 13 10 (.getfield 35, 13, 12, 20, 2, 0, []) := Or.inr ⟨by decide +kernel, rfl, ⟨RX12, TX12, 49, rfl, by decide, mk1270⟩⟩
theorem kw13_13 : kok 13 13 (.sipush 372, 16, 0, 0, 0, 372, []) := Or.inr ⟨by decide +kernel, rfl, rfl⟩
theorem kw13_16 : kok 13 16 (.iload_n 1, 17, 0, 0, 0, 0, []) := Or.inr ⟨by decide +kernel, rfl, trivial⟩
theorem kw13_17 : kok 13 17 (.imul, 18, 0, 0, 0, 0, []) := Or.inr ⟨by decide +kernel, rfl, trivial⟩
theorem kw13_18 : kok 13 18 (.iload_n 2, 19, 0, 0, 0, 0, []) := Or.inr ⟨by decide +kernel, rfl, trivial⟩
theorem kw13_19 : kok 13 19 (.iadd, 20, 0, 0, 0, 0, []) := Or.inr ⟨by decide +kernel, rfl, trivial⟩
theorem kw13_20 : kok 13 20 (.iconst 0, 21, 0, 0, 0, 0, []) := Or.inr ⟨by decide +kernel, rfl, rfl⟩
theorem kw13_21 : kok 13 21 (.iastore, 22, 0, 0, 0, 0, []) := Or.inr ⟨by decide +kernel, rfl, trivial⟩
theorem kw13_22 : kok 13 22 (.iinc 2 1, 25, 0, 0, 0, 0, []) := Or.inr ⟨by decide +kernel, rfl, ⟨(Nat.le_of_ble_eq_true rfl : 2 + 1 ≤ cml 13), by decide⟩⟩
theorem kw13_25 : kok 13 25 (.goto (-23), 28, 2, 0, 0, 0, []) := Or.inr ⟨by decide +kernel, rfl, rfl⟩
theorem kw13_28 : kok 13 28 (.aload_n 0, 29, 0, 0, 0, 0, []) := Or.inr ⟨by decide +kernel, rfl, trivial⟩
theorem kw13_29 : kok 13 29 (.getfield 35, 32, 12, 20, 2, 0, []) := Or.inr ⟨by decide +kernel, rfl, ⟨RX12, TX12, 49, rfl, by decide, mk1270⟩⟩
theorem kw13_32 : kok 13 32 (.sipush 372, 35, 0, 0, 0, 372, []) := Or.inr ⟨by decide +kernel, rfl, rfl⟩
theorem kw13_35 : kok 13 35 (.iload_n 1, 36, 0, 0, 0, 0, []) := Or.inr ⟨by decide +kernel, rfl, trivial⟩
theorem kw13_36 : kok 13 36 (.imul, 37, 0, 0, 0, 0, []) := Or.inr ⟨by decide +kernel, rfl, trivial⟩
theorem kw13_37 : kok 13 37 (.iconst 2, 38, 0, 0, 0, 2, []) := Or.inr ⟨by decide +kernel, rfl, rfl⟩
theorem kw13_38 : kok 13 38 (.iadd, 39, 0, 0, 0, 0, []) := Or.inr ⟨by decide +kernel, rfl, trivial⟩
theorem kw13_39 : kok 13 39 (.bipush 8, 41, 0, 0, 0, 8, []) := Or.inr ⟨by decide +kernel, rfl, rfl⟩
theorem kw13_41 : kok 13 41 (.iastore, 42, 0, 0, 0, 0, []) := Or.inr ⟨by decide +kernel, rfl, trivial⟩
theorem kw13_42 : kok 13 42 (.aload_n 0, 43, 0, 0, 0, 0, []) := Or.inr ⟨by decide +kernel, rfl, trivial⟩
theorem kw13_43 : kok 13 43 (.getfield 35, 46, 12, 20, 2, 0, []) := Or.inr ⟨by decide +kernel, rfl, ⟨RX12, TX12, 49, rfl, by decide, mk1270⟩⟩
theorem kw13_46 : kok 13 46 (.sipush 372, 49, 0, 0, 0, 372, []) := Or.inr ⟨by decide +kernel, rfl, rfl⟩
theorem kw13_49 : kok 13 49 (.iload_n 1, 50, 0, 0, 0, 0, []) := Or.inr ⟨by decide +kernel, rfl, trivial⟩
theorem kw13_50 : kok 13 50 (.imul, 51, 0, 0, 0, 0, []) := Or.inr ⟨by decide +kernel, rfl, trivial⟩
theorem kw13_51 : kok 13 51 (.iconst 3, 52, 0, 0, 0, 3, []) := Or.inr ⟨by decide +kernel, rfl, rfl⟩
theorem kw13_52 : kok 13 52 (.iadd, 53, 0, 0, 0, 0, []) := Or.inr ⟨by decide +kernel, rfl, trivial⟩
theorem kw13_53 : kok 13 53 (.iconst 5, 54, 0, 0, 0, 5, []) := Or.inr ⟨by decide +kernel, rfl, rfl⟩
theorem kw13_54 : kok 13 54 (.iastore, 55, 0, 0, 0, 0, []) := Or.inr ⟨by decide +kernel, rfl, trivial⟩
theorem kw13_55 : kok 13 55 (.return_, 56, 0, 0, 0, 0, []) := Or.inr ⟨by decide +kernel, rfl, trivial⟩
theorem kw13 : ∀ pc, kok 13 pc (cpg13 pc) := by
  unfold cpg13
  exact knode (knode (knode (knode (knode (kleaf kw13_0) (kleaf kw13_1)) (knode (kleaf kw13_2) (kleaf kw13_3))) (knode (knode (kleaf kw13_6) (kleaf kw13_9)) (knode (kleaf kw13_10) (kleaf kw13_13)))) (knode (knode (knode (kleaf kw13_16) (kleaf kw13_17)) (knode (kleaf kw13_18) (kleaf kw13_19))) (knode (knode (kleaf kw13_20) (kleaf kw13_21)) (knode (kleaf kw13_22) (knode (kleaf kw13_25) (kleaf kw13_28)))))) (knode (knode (knode (knode (kleaf kw13_29) (kleaf kw13_32)) (knode (kleaf kw13_35) (kleaf kw13_36))) (knode (knode (kleaf kw13_37) (kleaf kw13_38)) (knode (kleaf kw13_39) (knode (kleaf kw13_41) (kleaf kw13_42))))) (knode (knode (knode (kleaf kw13_43) (kleaf kw13_46)) (knode (kleaf kw13_49) (kleaf kw13_50))) (knode (knode (kleaf kw13_51) (kleaf kw13_52)) (knode (kleaf kw13_53) (knode (kleaf kw13_54) (kleaf kw13_55))))))
theorem kw14_0 : kok 14 0 (.new 7, 3, 11, 0, 0, 0, []) := Or.inr ⟨by decide +kernel, rfl, ⟨RX11, TX11, 20, rfl, mk17, mk18, mk1, rfl, tyX11, tyX11_ok, fun b j hj => df11 b j hj⟩⟩
theorem kw14_3 : kok 14 3 (.dup, 4, 0, 0, 0, 0, []) := Or.inr ⟨by decide +kernel, rfl, trivial⟩
theorem kw14_4 : kok 14 4 (.invokespecial 9, 7, 11, 0, 0, 0, []) := Or.inr ⟨by decide +kernel, rfl, Or.inr ⟨by decide, km11, by decide +kernel, Or.inr mk19⟩⟩
theorem kw14_7 : kok 14 7 (.astore_n 1, 8, 0, 0, 0, 0, []) := Or.inr ⟨by decide +kernel, rfl, ⟨(Nat.le_of_ble_eq_true rfl : 1 + 1 ≤ cml 14), by decide⟩⟩
theorem kw14_8 : kok 14 8 (.new 10, 11, 12, 0, 0, 0, []) := Or.inr ⟨by decide +kernel, rfl, ⟨RX12, TX12, 49, rfl, mk1240, mk1241, mk13, rfl, tyX12, tyX12_ok, fun b j hj => df12 b j hj⟩⟩
theorem kw14_11 : kok 14 11 (.dup, 12, 0, 0, 0, 0, []) := Or.inr ⟨by decide +kernel, rfl, trivial⟩
theorem kw14_12 : kok 14 12 (.invokespecial 12, 15, 12, 0, 0, 0, []) := Or.inr ⟨by decide +kernel, rfl, Or.inr ⟨by decide, km12, by decide +kernel, Or.inr mk1242⟩⟩
theorem kw14_15 : kok 14 15 (.astore_n 2, 16, 0, 0, 0, 0, []) := Or.inr ⟨by decide +kernel, rfl, ⟨(Nat.le_of_ble_eq_true rfl : 2 + 1 ≤ cml 14), by decide⟩⟩
theorem kw14_16 : kok 14 16 (.iconst 0, 17, 0, 0, 0, 0, []) := Or.inr ⟨by decide +kernel, rfl, rfl⟩
theorem kw14_17 : kok 14 17 (.istore_n 3, 18, 0, 0, 0, 0, []) := Or.inr ⟨by decide +kernel, rfl, ⟨(Nat.le_of_ble_eq_true rfl : 3 + 1 ≤ cml 14), by decide⟩⟩
theorem kw14 : ∀ pc, kok 14 pc (cpg14 pc) := by
  unfold cpg14
  exact knode (knode (knode (kleaf kw14_0) (kleaf kw14_3)) (knode (kleaf kw14_4) (knode (kleaf kw14_7) (kleaf kw14_8)))) (knode (knode (kleaf kw14_11) (kleaf kw14_12)) (knode (kleaf kw14_15) (knode (kleaf kw14_16) (kleaf kw14_17))))
set_option maxRecDepth 100000 in
theorem khall_lt : ∀ y, 0 ≤ y → y < 15 → ∀ pc, kok y pc (cpg y pc) := qspl (mid := 7) (qspl (mid := 3) (qspl (mid := 1) (qone kw0) (qspl (mid := 2) (qone kw1) (qone kw2))) (qspl (mid := 5) (qspl (mid := 4) (qone kw3) (qone kw4)) (qspl (mid := 6) (qone kw5) (qone kw6)))) (qspl (mid := 11) (qspl (mid := 9) (qspl (mid := 8) (qone kw7) (qone kw8)) (qspl (mid := 10) (qone kw9) (qone kw10))) (qspl (mid := 13) (qspl (mid := 12) (qone kw11) (qone kw12)) (qspl (mid := 14) (qone kw13) (qone kw14))))
theorem cpg_last {y : Nat} (h : 14 ≤ y) : cpg y = cpg 14 := by
  unfold cpg
  simp only [qbf (Nat.le_trans (by decide : 7 ≤ 14) h), qbf (Nat.le_trans (by decide : 11 ≤ 14) h), qbf (Nat.le_trans (by decide : 13 ≤ 14) h), qbf (Nat.le_trans (by decide : 14 ≤ 14) h)]
  rfl
theorem cby_last {y : Nat} (h : 14 ≤ y) : cby y = cby 14 := by
  unfold cby
  simp only [qbf (Nat.le_trans (by decide : 7 ≤ 14) h), qbf (Nat.le_trans (by decide : 11 ≤ 14) h), qbf (Nat.le_trans (by decide : 13 ≤ 14) h), qbf (Nat.le_trans (by decide : 14 ≤ 14) h)]
  rfl
theorem cml_last {y : Nat} (h : 14 ≤ y) : cml y = cml 14 := by
  unfold cml
  simp only [qbf (Nat.le_trans (by decide : 7 ≤ 14) h), qbf (Nat.le_trans (by decide : 11 ≤ 14) h), qbf (Nat.le_trans (by decide : 13 ≤ 14) h), qbf (Nat.le_trans (by decide : 14 ≤ 14) h)]
  rfl
theorem cnm_last {y : Nat} (h : 14 ≤ y) : cnm y = cnm 14 := by
  unfold cnm
  simp only [qbf (Nat.le_trans (by decide : 7 ≤ 14) h), qbf (Nat.le_trans (by decide : 11 ≤ 14) h), qbf (Nat.le_trans (by decide : 13 ≤ 14) h), qbf (Nat.le_trans (by decide : 14 ≤ 14) h)]
  rfl
theorem khall : ∀ y pc, kok y pc (cpg y pc) := by
  intro y pc
  rcases Nat.lt_or_ge y 15 with h | h
  · exact khall_lt y (Nat.zero_le _) h pc
  · have h1 := khall_lt 14 (Nat.zero_le _) (by decide) pc
    rw [cpg_last (by omega : 14 ≤ y)]
    have hy : ¬ y < 13 := by omega
    rcases h1 with h1 | ⟨h1, h2, h3⟩
    · exact Or.inl h1
    · refine Or.inr ⟨by rw [cby_last (by omega : 14 ≤ y)]; exact h1, h2, ?_⟩
      unfold kex cown at h3 ⊢
      rw [cml_last (by omega : 14 ≤ y), cnm_last (by omega : 14 ≤ y)]
      revert h3
      split <;> first | exact id | exact fun q => absurd q.1 (by decide)
