def GW : List Cond := lw_tbl.filter goodWord
theorem GW_good : ∀ w ∈ GW, (w.onTables && w.keeps) = true ∨ ∃ ty, w = .arrayClass ty := fun w h => good_of_word (List.mem_filter.mp h).2
theorem gw_of {w : Cond} (h : w ∈ lw_tbl) (g : goodWord w = true) : w ∈ GW := List.mem_filter.mpr ⟨h, g⟩
theorem tk1 {w : Cond} (h : w ∈ tables_1_1) : w ∈ lw_tbl := List.mem_append_right _ (show w ∈ tables_1 from List.mem_append_left _ h)
theorem tk2 {w : Cond} (h : w ∈ tables_1_2) : w ∈ lw_tbl := List.mem_append_right _ (show w ∈ tables_1 from List.mem_append_right _ (List.mem_append_left _ h))
theorem tk3 {w : Cond} (h : w ∈ tables_1_3) : w ∈ lw_tbl := List.mem_append_right _ (show w ∈ tables_1 from List.mem_append_right _ (List.mem_append_right _ (List.mem_append_left _ h)))
theorem tk4 {w : Cond} (h : w ∈ tables_1_4) : w ∈ lw_tbl := List.mem_append_right _ (show w ∈ tables_1 from List.mem_append_right _ (List.mem_append_right _ (List.mem_append_right _ (h))))
theorem m0 : (Jvm.Cond.initialized "CompactformsLaw") ∈ lw_tbl := tk1 (List.mem_of_getElem? (i := 0) rfl)
theorem w0 : (Jvm.Cond.initialized "CompactformsLaw") ∈ GW := gw_of m0 rfl
theorem m1 : (Jvm.Cond.initialized "Compactforms") ∈ lw_tbl := tk1 (List.mem_of_getElem? (i := 1) rfl)
theorem w1 : (Jvm.Cond.initialized "Compactforms") ∈ GW := gw_of m1 rfl
theorem m2 : (Jvm.Cond.initialized "Compactforms$Log") ∈ lw_tbl := tk1 (List.mem_of_getElem? (i := 2) rfl)
theorem w2 : (Jvm.Cond.initialized "Compactforms$Log") ∈ GW := gw_of m2 rfl
theorem m3 : (Jvm.Cond.initialized "Compactforms$Value") ∈ lw_tbl := tk1 (List.mem_of_getElem? (i := 3) rfl)
theorem w3 : (Jvm.Cond.initialized "Compactforms$Value") ∈ GW := gw_of m3 rfl
theorem m4 : (Jvm.Cond.initialized "Compactforms$Form") ∈ lw_tbl := tk1 (List.mem_of_getElem? (i := 4) rfl)
theorem w4 : (Jvm.Cond.initialized "Compactforms$Form") ∈ GW := gw_of m4 rfl
theorem m5 : (Jvm.Cond.initialized "Compactforms$Row") ∈ lw_tbl := tk1 (List.mem_of_getElem? (i := 5) rfl)
theorem w5 : (Jvm.Cond.initialized "Compactforms$Row") ∈ GW := gw_of m5 rfl
theorem m6 : (Jvm.Cond.initialized "Compactforms$Chain") ∈ lw_tbl := tk1 (List.mem_of_getElem? (i := 6) rfl)
theorem w6 : (Jvm.Cond.initialized "Compactforms$Chain") ∈ GW := gw_of m6 rfl
theorem m7 : (Jvm.Cond.initialized "Compactforms$Table") ∈ lw_tbl := tk1 (List.mem_of_getElem? (i := 7) rfl)
theorem w7 : (Jvm.Cond.initialized "Compactforms$Table") ∈ GW := gw_of m7 rfl
theorem m8 : (Jvm.Cond.initialized "Compactforms$Groups") ∈ lw_tbl := tk1 (List.mem_of_getElem? (i := 8) rfl)
theorem w8 : (Jvm.Cond.initialized "Compactforms$Groups") ∈ GW := gw_of m8 rfl
theorem m9 : (Jvm.Cond.initialized "java/lang/Throwable") ∈ lw_tbl := tk1 (List.mem_of_getElem? (i := 9) rfl)
theorem w9 : (Jvm.Cond.initialized "java/lang/Throwable") ∈ GW := gw_of m9 rfl
theorem m10 : (Jvm.Cond.initialized "java/lang/Exception") ∈ lw_tbl := tk1 (List.mem_of_getElem? (i := 10) rfl)
theorem w10 : (Jvm.Cond.initialized "java/lang/Exception") ∈ GW := gw_of m10 rfl
theorem m11 : (Jvm.Cond.initialized "java/lang/RuntimeException") ∈ lw_tbl := tk1 (List.mem_of_getElem? (i := 11) rfl)
theorem w11 : (Jvm.Cond.initialized "java/lang/RuntimeException") ∈ GW := gw_of m11 rfl
theorem m12 : (Jvm.Cond.initialized "java/lang/IndexOutOfBoundsException") ∈ lw_tbl := tk1 (List.mem_of_getElem? (i := 12) rfl)
theorem w12 : (Jvm.Cond.initialized "java/lang/IndexOutOfBoundsException") ∈ GW := gw_of m12 rfl
theorem m13 : (Jvm.Cond.initialized "java/lang/IllegalArgumentException") ∈ lw_tbl := tk1 (List.mem_of_getElem? (i := 13) rfl)
theorem w13 : (Jvm.Cond.initialized "java/lang/IllegalArgumentException") ∈ GW := gw_of m13 rfl
theorem m14 : (Jvm.Cond.initialized "java/lang/IllegalStateException") ∈ lw_tbl := tk1 (List.mem_of_getElem? (i := 14) rfl)
theorem w14 : (Jvm.Cond.initialized "java/lang/IllegalStateException") ∈ GW := gw_of m14 rfl
theorem m15 : (Jvm.Cond.initialized "java/util/Arrays") ∈ lw_tbl := tk1 (List.mem_of_getElem? (i := 15) rfl)
theorem w15 : (Jvm.Cond.initialized "java/util/Arrays") ∈ GW := gw_of m15 rfl
theorem m16 : (Jvm.Cond.initialized "java/lang/System") ∈ lw_tbl := tk1 (List.mem_of_getElem? (i := 16) rfl)
theorem w16 : (Jvm.Cond.initialized "java/lang/System") ∈ GW := gw_of m16 rfl
theorem m17 : (Jvm.Cond.initialized "java/lang/Integer") ∈ lw_tbl := tk1 (List.mem_of_getElem? (i := 17) rfl)
theorem w17 : (Jvm.Cond.initialized "java/lang/Integer") ∈ GW := gw_of m17 rfl
theorem m18 : (Jvm.Cond.methodLink "CompactformsLaw" (175 : Nat) ({ cls := "CompactformsLaw", name := "server", desc := "([II)Z" } : Jvm.MethodName)) ∈ lw_tbl := tk1 (List.mem_of_getElem? (i := 18) rfl)
theorem w18 : (Jvm.Cond.methodLink "CompactformsLaw" (175 : Nat) ({ cls := "CompactformsLaw", name := "server", desc := "([II)Z" } : Jvm.MethodName)) ∈ GW := gw_of m18 rfl
theorem m19 : (Jvm.Cond.static ({ cls := "CompactformsLaw", name := "server", desc := "([II)Z" } : Jvm.MethodName)) ∈ lw_tbl := tk1 (List.mem_of_getElem? (i := 19) rfl)
theorem w19 : (Jvm.Cond.static ({ cls := "CompactformsLaw", name := "server", desc := "([II)Z" } : Jvm.MethodName)) ∈ GW := gw_of m19 rfl
theorem m20 : (Jvm.Cond.code ({ cls := "CompactformsLaw", name := "server", desc := "([II)Z" } : Jvm.MethodName) method_15_code (7 : Nat) (Option.some Jvm.ClassFile.FieldType.boolean)) ∈ lw_tbl := tk1 (List.mem_of_getElem? (i := 20) rfl)
theorem w20 : (Jvm.Cond.code ({ cls := "CompactformsLaw", name := "server", desc := "([II)Z" } : Jvm.MethodName) method_15_code (7 : Nat) (Option.some Jvm.ClassFile.FieldType.boolean)) ∈ GW := gw_of m20 rfl
theorem m21 : (Jvm.Cond.classLink "CompactformsLaw" (11 : Nat) "Compactforms") ∈ lw_tbl := tk1 (List.mem_of_getElem? (i := 21) rfl)
theorem w21 : (Jvm.Cond.classLink "CompactformsLaw" (11 : Nat) "Compactforms") ∈ GW := gw_of m21 rfl
theorem m22 : (Jvm.Cond.instantiable "Compactforms" (8 : Nat)) ∈ lw_tbl := tk1 (List.mem_of_getElem? (i := 22) rfl)
theorem w22 : (Jvm.Cond.instantiable "Compactforms" (8 : Nat)) ∈ GW := gw_of m22 rfl
theorem m23 : (Jvm.Cond.methodLink "CompactformsLaw" (162 : Nat) ({ cls := "Compactforms", name := "<init>", desc := "()V" } : Jvm.MethodName)) ∈ lw_tbl := tk1 (List.mem_of_getElem? (i := 23) rfl)
theorem w23 : (Jvm.Cond.methodLink "CompactformsLaw" (162 : Nat) ({ cls := "Compactforms", name := "<init>", desc := "()V" } : Jvm.MethodName)) ∈ GW := gw_of m23 rfl
theorem m24 : (Jvm.Cond.instanceMethod ({ cls := "Compactforms", name := "<init>", desc := "()V" } : Jvm.MethodName)) ∈ lw_tbl := tk1 (List.mem_of_getElem? (i := 24) rfl)
theorem w24 : (Jvm.Cond.instanceMethod ({ cls := "Compactforms", name := "<init>", desc := "()V" } : Jvm.MethodName)) ∈ GW := gw_of m24 rfl
theorem m25 : (Jvm.Cond.code ({ cls := "Compactforms", name := "<init>", desc := "()V" } : Jvm.MethodName) prog_1_method_1_code (2 : Nat) (Option.none : Option Jvm.ClassFile.FieldType)) ∈ lw_tbl := tk1 (List.mem_of_getElem? (i := 25) rfl)
theorem w25 : (Jvm.Cond.code ({ cls := "Compactforms", name := "<init>", desc := "()V" } : Jvm.MethodName) prog_1_method_1_code (2 : Nat) (Option.none : Option Jvm.ClassFile.FieldType)) ∈ GW := gw_of m25 rfl
theorem m26 : (Jvm.Cond.methodLink "Compactforms" (1 : Nat) ({ cls := "java/lang/Object", name := "<init>", desc := "()V" } : Jvm.MethodName)) ∈ lw_tbl := tk1 (List.mem_of_getElem? (i := 26) rfl)
theorem w26 : (Jvm.Cond.methodLink "Compactforms" (1 : Nat) ({ cls := "java/lang/Object", name := "<init>", desc := "()V" } : Jvm.MethodName)) ∈ GW := gw_of m26 rfl
theorem m27 : (Jvm.Cond.instanceMethod ({ cls := "java/lang/Object", name := "<init>", desc := "()V" } : Jvm.MethodName)) ∈ lw_tbl := tk1 (List.mem_of_getElem? (i := 27) rfl)
theorem w27 : (Jvm.Cond.instanceMethod ({ cls := "java/lang/Object", name := "<init>", desc := "()V" } : Jvm.MethodName)) ∈ GW := gw_of m27 rfl
theorem m28 : (Jvm.Cond.code ({ cls := "java/lang/Object", name := "<init>", desc := "()V" } : Jvm.MethodName) object_method_1_code (1 : Nat) (Option.none : Option Jvm.ClassFile.FieldType)) ∈ lw_tbl := tk1 (List.mem_of_getElem? (i := 28) rfl)
theorem w28 : (Jvm.Cond.code ({ cls := "java/lang/Object", name := "<init>", desc := "()V" } : Jvm.MethodName) object_method_1_code (1 : Nat) (Option.none : Option Jvm.ClassFile.FieldType)) ∈ GW := gw_of m28 rfl
theorem m29 : (Jvm.Cond.classLink "Compactforms" (9 : Nat) "Compactforms$Value") ∈ lw_tbl := tk1 (List.mem_of_getElem? (i := 29) rfl)
theorem w29 : (Jvm.Cond.classLink "Compactforms" (9 : Nat) "Compactforms$Value") ∈ GW := gw_of m29 rfl
theorem m30 : (Jvm.Cond.arrayOver (Jvm.ClassFile.FieldType.object "Compactforms$Value")) ∈ lw_tbl := tk1 (List.mem_of_getElem? (i := 30) rfl)
theorem m31 : (Jvm.Cond.classLink "Compactforms" (15 : Nat) "Compactforms$Log") ∈ lw_tbl := tk1 (List.mem_of_getElem? (i := 31) rfl)
theorem w31 : (Jvm.Cond.classLink "Compactforms" (15 : Nat) "Compactforms$Log") ∈ GW := gw_of m31 rfl
theorem m32 : (Jvm.Cond.instantiable "Compactforms$Log" (2 : Nat)) ∈ lw_tbl := tk1 (List.mem_of_getElem? (i := 32) rfl)
theorem w32 : (Jvm.Cond.instantiable "Compactforms$Log" (2 : Nat)) ∈ GW := gw_of m32 rfl
theorem m33 : (Jvm.Cond.methodLinkNest "Compactforms" (17 : Nat) ({ cls := "Compactforms$Log", name := "<init>", desc := "()V" } : Jvm.MethodName) "Compactforms") ∈ lw_tbl := tk1 (List.mem_of_getElem? (i := 33) rfl)
theorem m34 : (Jvm.Cond.instanceMethod ({ cls := "Compactforms$Log", name := "<init>", desc := "()V" } : Jvm.MethodName)) ∈ lw_tbl := tk1 (List.mem_of_getElem? (i := 34) rfl)
theorem w34 : (Jvm.Cond.instanceMethod ({ cls := "Compactforms$Log", name := "<init>", desc := "()V" } : Jvm.MethodName)) ∈ GW := gw_of m34 rfl
theorem m35 : (Jvm.Cond.code ({ cls := "Compactforms$Log", name := "<init>", desc := "()V" } : Jvm.MethodName) prog_5_method_1_code (1 : Nat) (Option.none : Option Jvm.ClassFile.FieldType)) ∈ lw_tbl := tk1 (List.mem_of_getElem? (i := 35) rfl)
theorem w35 : (Jvm.Cond.code ({ cls := "Compactforms$Log", name := "<init>", desc := "()V" } : Jvm.MethodName) prog_5_method_1_code (1 : Nat) (Option.none : Option Jvm.ClassFile.FieldType)) ∈ GW := gw_of m35 rfl
theorem m36 : (Jvm.Cond.methodLink "Compactforms$Log" (3 : Nat) ({ cls := "java/lang/Object", name := "<init>", desc := "()V" } : Jvm.MethodName)) ∈ lw_tbl := tk1 (List.mem_of_getElem? (i := 36) rfl)
theorem w36 : (Jvm.Cond.methodLink "Compactforms$Log" (3 : Nat) ({ cls := "java/lang/Object", name := "<init>", desc := "()V" } : Jvm.MethodName)) ∈ GW := gw_of m36 rfl
theorem m37 : (Jvm.Cond.fieldLink "Compactforms$Log" (9 : Nat) "Compactforms$Log" "cells" "[I") ∈ lw_tbl := tk1 (List.mem_of_getElem? (i := 37) rfl)
theorem w37 : (Jvm.Cond.fieldLink "Compactforms$Log" (9 : Nat) "Compactforms$Log" "cells" "[I") ∈ GW := gw_of m37 rfl
theorem m38 : (Jvm.Cond.fieldLink "Compactforms$Log" (15 : Nat) "Compactforms$Log" "count" "I") ∈ lw_tbl := tk1 (List.mem_of_getElem? (i := 38) rfl)
theorem w38 : (Jvm.Cond.fieldLink "Compactforms$Log" (15 : Nat) "Compactforms$Log" "count" "I") ∈ GW := gw_of m38 rfl
theorem m39 : (Jvm.Cond.fieldLinkNest "Compactforms" (123 : Nat) "Compactforms$Log" "count" "I" "Compactforms") ∈ lw_tbl := tk1 (List.mem_of_getElem? (i := 39) rfl)
theorem m40 : (Jvm.Cond.laysFinal "Compactforms$Log" "Compactforms$Log" "cells" "[I") ∈ lw_tbl := tk1 (List.mem_of_getElem? (i := 40) rfl)
theorem w40 : (Jvm.Cond.laysFinal "Compactforms$Log" "Compactforms$Log" "cells" "[I") ∈ GW := gw_of m40 rfl
theorem m41 : (Jvm.Cond.soleField "Compactforms$Log" "cells") ∈ lw_tbl := tk1 (List.mem_of_getElem? (i := 41) rfl)
theorem w41 : (Jvm.Cond.soleField "Compactforms$Log" "cells") ∈ GW := gw_of m41 rfl
theorem m42 : (Jvm.Cond.lays "Compactforms$Log" "Compactforms$Log" "count" "I") ∈ lw_tbl := tk1 (List.mem_of_getElem? (i := 42) rfl)
theorem w42 : (Jvm.Cond.lays "Compactforms$Log" "Compactforms$Log" "count" "I") ∈ GW := gw_of m42 rfl
theorem m43 : (Jvm.Cond.soleField "Compactforms$Log" "count") ∈ lw_tbl := tk1 (List.mem_of_getElem? (i := 43) rfl)
theorem w43 : (Jvm.Cond.soleField "Compactforms$Log" "count") ∈ GW := gw_of m43 rfl
theorem m44 : (Jvm.Cond.superclass "Compactforms$Log" "java/lang/Object") ∈ lw_tbl := tk1 (List.mem_of_getElem? (i := 44) rfl)
theorem w44 : (Jvm.Cond.superclass "Compactforms$Log" "java/lang/Object") ∈ GW := gw_of m44 rfl
theorem m45 : (Jvm.Cond.arrayClass Jvm.ClassFile.FieldType.int) ∈ lw_tbl := tk1 (List.mem_of_getElem? (i := 45) rfl)
theorem w45 : (Jvm.Cond.arrayClass Jvm.ClassFile.FieldType.int) ∈ GW := gw_of m45 rfl
theorem m46 : (Jvm.Cond.instantiable "Compactforms$Value" (10 : Nat)) ∈ lw_tbl := tk1 (List.mem_of_getElem? (i := 46) rfl)
theorem w46 : (Jvm.Cond.instantiable "Compactforms$Value" (10 : Nat)) ∈ GW := gw_of m46 rfl
theorem m47 : (Jvm.Cond.methodLinkNest "Compactforms" (41 : Nat) ({ cls := "Compactforms$Value", name := "<init>", desc := "()V" } : Jvm.MethodName) "Compactforms") ∈ lw_tbl := tk1 (List.mem_of_getElem? (i := 47) rfl)
theorem m48 : (Jvm.Cond.instanceMethod ({ cls := "Compactforms$Value", name := "<init>", desc := "()V" } : Jvm.MethodName)) ∈ lw_tbl := tk1 (List.mem_of_getElem? (i := 48) rfl)
theorem w48 : (Jvm.Cond.instanceMethod ({ cls := "Compactforms$Value", name := "<init>", desc := "()V" } : Jvm.MethodName)) ∈ GW := gw_of m48 rfl
theorem m49 : (Jvm.Cond.code ({ cls := "Compactforms$Value", name := "<init>", desc := "()V" } : Jvm.MethodName) prog_8_method_1_code (1 : Nat) (Option.none : Option Jvm.ClassFile.FieldType)) ∈ lw_tbl := tk1 (List.mem_of_getElem? (i := 49) rfl)
theorem w49 : (Jvm.Cond.code ({ cls := "Compactforms$Value", name := "<init>", desc := "()V" } : Jvm.MethodName) prog_8_method_1_code (1 : Nat) (Option.none : Option Jvm.ClassFile.FieldType)) ∈ GW := gw_of m49 rfl
theorem m50 : (Jvm.Cond.methodLink "Compactforms$Value" (3 : Nat) ({ cls := "java/lang/Object", name := "<init>", desc := "()V" } : Jvm.MethodName)) ∈ lw_tbl := tk1 (List.mem_of_getElem? (i := 50) rfl)
theorem w50 : (Jvm.Cond.methodLink "Compactforms$Value" (3 : Nat) ({ cls := "java/lang/Object", name := "<init>", desc := "()V" } : Jvm.MethodName)) ∈ GW := gw_of m50 rfl
theorem m51 : (Jvm.Cond.classLink "Compactforms$Value" (25 : Nat) "Compactforms$Row") ∈ lw_tbl := tk1 (List.mem_of_getElem? (i := 51) rfl)
theorem w51 : (Jvm.Cond.classLink "Compactforms$Value" (25 : Nat) "Compactforms$Row") ∈ GW := gw_of m51 rfl
theorem m52 : (Jvm.Cond.instantiable "Compactforms$Row" (3 : Nat)) ∈ lw_tbl := tk1 (List.mem_of_getElem? (i := 52) rfl)
theorem w52 : (Jvm.Cond.instantiable "Compactforms$Row" (3 : Nat)) ∈ GW := gw_of m52 rfl
theorem m53 : (Jvm.Cond.methodLink "Compactforms$Value" (27 : Nat) ({ cls := "Compactforms$Row", name := "<init>", desc := "(I)V" } : Jvm.MethodName)) ∈ lw_tbl := tk1 (List.mem_of_getElem? (i := 53) rfl)
theorem w53 : (Jvm.Cond.methodLink "Compactforms$Value" (27 : Nat) ({ cls := "Compactforms$Row", name := "<init>", desc := "(I)V" } : Jvm.MethodName)) ∈ GW := gw_of m53 rfl
theorem m54 : (Jvm.Cond.instanceMethod ({ cls := "Compactforms$Row", name := "<init>", desc := "(I)V" } : Jvm.MethodName)) ∈ lw_tbl := tk1 (List.mem_of_getElem? (i := 54) rfl)
theorem w54 : (Jvm.Cond.instanceMethod ({ cls := "Compactforms$Row", name := "<init>", desc := "(I)V" } : Jvm.MethodName)) ∈ GW := gw_of m54 rfl
theorem m55 : (Jvm.Cond.code ({ cls := "Compactforms$Row", name := "<init>", desc := "(I)V" } : Jvm.MethodName) prog_6_method_1_code (3 : Nat) (Option.none : Option Jvm.ClassFile.FieldType)) ∈ lw_tbl := tk1 (List.mem_of_getElem? (i := 55) rfl)
theorem w55 : (Jvm.Cond.code ({ cls := "Compactforms$Row", name := "<init>", desc := "(I)V" } : Jvm.MethodName) prog_6_method_1_code (3 : Nat) (Option.none : Option Jvm.ClassFile.FieldType)) ∈ GW := gw_of m55 rfl
theorem m56 : (Jvm.Cond.methodLinkNest "Compactforms$Row" (3 : Nat) ({ cls := "Compactforms$Form", name := "<init>", desc := "()V" } : Jvm.MethodName) "Compactforms") ∈ lw_tbl := tk1 (List.mem_of_getElem? (i := 56) rfl)
theorem m57 : (Jvm.Cond.instanceMethod ({ cls := "Compactforms$Form", name := "<init>", desc := "()V" } : Jvm.MethodName)) ∈ lw_tbl := tk1 (List.mem_of_getElem? (i := 57) rfl)
theorem w57 : (Jvm.Cond.instanceMethod ({ cls := "Compactforms$Form", name := "<init>", desc := "()V" } : Jvm.MethodName)) ∈ GW := gw_of m57 rfl
theorem m58 : (Jvm.Cond.code ({ cls := "Compactforms$Form", name := "<init>", desc := "()V" } : Jvm.MethodName) prog_3_method_1_code (1 : Nat) (Option.none : Option Jvm.ClassFile.FieldType)) ∈ lw_tbl := tk1 (List.mem_of_getElem? (i := 58) rfl)
theorem w58 : (Jvm.Cond.code ({ cls := "Compactforms$Form", name := "<init>", desc := "()V" } : Jvm.MethodName) prog_3_method_1_code (1 : Nat) (Option.none : Option Jvm.ClassFile.FieldType)) ∈ GW := gw_of m58 rfl
theorem m59 : (Jvm.Cond.methodLink "Compactforms$Form" (1 : Nat) ({ cls := "java/lang/Object", name := "<init>", desc := "()V" } : Jvm.MethodName)) ∈ lw_tbl := tk1 (List.mem_of_getElem? (i := 59) rfl)
theorem w59 : (Jvm.Cond.methodLink "Compactforms$Form" (1 : Nat) ({ cls := "java/lang/Object", name := "<init>", desc := "()V" } : Jvm.MethodName)) ∈ GW := gw_of m59 rfl
theorem m60 : (Jvm.Cond.fieldLink "Compactforms$Row" (15 : Nat) "Compactforms$Row" "entries" "[I") ∈ lw_tbl := tk1 (List.mem_of_getElem? (i := 60) rfl)
theorem w60 : (Jvm.Cond.fieldLink "Compactforms$Row" (15 : Nat) "Compactforms$Row" "entries" "[I") ∈ GW := gw_of m60 rfl
theorem m61 : (Jvm.Cond.fieldLink "Compactforms$Row" (19 : Nat) "Compactforms$Row" "points" "[I") ∈ lw_tbl := tk1 (List.mem_of_getElem? (i := 61) rfl)
theorem w61 : (Jvm.Cond.fieldLink "Compactforms$Row" (19 : Nat) "Compactforms$Row" "points" "[I") ∈ GW := gw_of m61 rfl
theorem m62 : (Jvm.Cond.fieldLink "Compactforms$Row" (9 : Nat) "Compactforms$Row" "count" "I") ∈ lw_tbl := tk1 (List.mem_of_getElem? (i := 62) rfl)
theorem w62 : (Jvm.Cond.fieldLink "Compactforms$Row" (9 : Nat) "Compactforms$Row" "count" "I") ∈ GW := gw_of m62 rfl
theorem m63 : (Jvm.Cond.fieldLinkNest "Compactforms$Value" (62 : Nat) "Compactforms$Row" "count" "I" "Compactforms") ∈ lw_tbl := tk1 (List.mem_of_getElem? (i := 63) rfl)
theorem m64 : (Jvm.Cond.laysFinal "Compactforms$Row" "Compactforms$Row" "entries" "[I") ∈ lw_tbl := tk1 (List.mem_of_getElem? (i := 64) rfl)
theorem w64 : (Jvm.Cond.laysFinal "Compactforms$Row" "Compactforms$Row" "entries" "[I") ∈ GW := gw_of m64 rfl
theorem m65 : (Jvm.Cond.soleField "Compactforms$Row" "entries") ∈ lw_tbl := tk1 (List.mem_of_getElem? (i := 65) rfl)
theorem w65 : (Jvm.Cond.soleField "Compactforms$Row" "entries") ∈ GW := gw_of m65 rfl
theorem m66 : (Jvm.Cond.laysFinal "Compactforms$Row" "Compactforms$Row" "points" "[I") ∈ lw_tbl := tk1 (List.mem_of_getElem? (i := 66) rfl)
theorem w66 : (Jvm.Cond.laysFinal "Compactforms$Row" "Compactforms$Row" "points" "[I") ∈ GW := gw_of m66 rfl
theorem m67 : (Jvm.Cond.soleField "Compactforms$Row" "points") ∈ lw_tbl := tk1 (List.mem_of_getElem? (i := 67) rfl)
theorem w67 : (Jvm.Cond.soleField "Compactforms$Row" "points") ∈ GW := gw_of m67 rfl
theorem m68 : (Jvm.Cond.lays "Compactforms$Row" "Compactforms$Row" "count" "I") ∈ lw_tbl := tk1 (List.mem_of_getElem? (i := 68) rfl)
theorem w68 : (Jvm.Cond.lays "Compactforms$Row" "Compactforms$Row" "count" "I") ∈ GW := gw_of m68 rfl
theorem m69 : (Jvm.Cond.soleField "Compactforms$Row" "count") ∈ lw_tbl := tk1 (List.mem_of_getElem? (i := 69) rfl)
theorem w69 : (Jvm.Cond.soleField "Compactforms$Row" "count") ∈ GW := gw_of m69 rfl
theorem m70 : (Jvm.Cond.superclass "Compactforms$Row" "Compactforms$Form") ∈ lw_tbl := tk1 (List.mem_of_getElem? (i := 70) rfl)
theorem w70 : (Jvm.Cond.superclass "Compactforms$Row" "Compactforms$Form") ∈ GW := gw_of m70 rfl
theorem m71 : (Jvm.Cond.classLink "Compactforms$Value" (34 : Nat) "Compactforms$Chain") ∈ lw_tbl := tk1 (List.mem_of_getElem? (i := 71) rfl)
theorem w71 : (Jvm.Cond.classLink "Compactforms$Value" (34 : Nat) "Compactforms$Chain") ∈ GW := gw_of m71 rfl
theorem m72 : (Jvm.Cond.instantiable "Compactforms$Chain" (5 : Nat)) ∈ lw_tbl := tk1 (List.mem_of_getElem? (i := 72) rfl)
theorem w72 : (Jvm.Cond.instantiable "Compactforms$Chain" (5 : Nat)) ∈ GW := gw_of m72 rfl
theorem m73 : (Jvm.Cond.methodLinkNest "Compactforms$Value" (36 : Nat) ({ cls := "Compactforms$Chain", name := "<init>", desc := "()V" } : Jvm.MethodName) "Compactforms") ∈ lw_tbl := tk1 (List.mem_of_getElem? (i := 73) rfl)
theorem m74 : (Jvm.Cond.instanceMethod ({ cls := "Compactforms$Chain", name := "<init>", desc := "()V" } : Jvm.MethodName)) ∈ lw_tbl := tk1 (List.mem_of_getElem? (i := 74) rfl)
theorem w74 : (Jvm.Cond.instanceMethod ({ cls := "Compactforms$Chain", name := "<init>", desc := "()V" } : Jvm.MethodName)) ∈ GW := gw_of m74 rfl
theorem m75 : (Jvm.Cond.code ({ cls := "Compactforms$Chain", name := "<init>", desc := "()V" } : Jvm.MethodName) prog_2_method_1_code (1 : Nat) (Option.none : Option Jvm.ClassFile.FieldType)) ∈ lw_tbl := tk1 (List.mem_of_getElem? (i := 75) rfl)
theorem w75 : (Jvm.Cond.code ({ cls := "Compactforms$Chain", name := "<init>", desc := "()V" } : Jvm.MethodName) prog_2_method_1_code (1 : Nat) (Option.none : Option Jvm.ClassFile.FieldType)) ∈ GW := gw_of m75 rfl
theorem m76 : (Jvm.Cond.methodLinkNest "Compactforms$Chain" (3 : Nat) ({ cls := "Compactforms$Form", name := "<init>", desc := "()V" } : Jvm.MethodName) "Compactforms") ∈ lw_tbl := tk1 (List.mem_of_getElem? (i := 76) rfl)
theorem m77 : (Jvm.Cond.fieldLink "Compactforms$Chain" (9 : Nat) "Compactforms$Chain" "entries" "[I") ∈ lw_tbl := tk1 (List.mem_of_getElem? (i := 77) rfl)
theorem w77 : (Jvm.Cond.fieldLink "Compactforms$Chain" (9 : Nat) "Compactforms$Chain" "entries" "[I") ∈ GW := gw_of m77 rfl
theorem m78 : (Jvm.Cond.fieldLink "Compactforms$Chain" (15 : Nat) "Compactforms$Chain" "points" "[I") ∈ lw_tbl := tk1 (List.mem_of_getElem? (i := 78) rfl)
theorem w78 : (Jvm.Cond.fieldLink "Compactforms$Chain" (15 : Nat) "Compactforms$Chain" "points" "[I") ∈ GW := gw_of m78 rfl
theorem m79 : (Jvm.Cond.fieldLink "Compactforms$Chain" (18 : Nat) "Compactforms$Chain" "nexts" "[I") ∈ lw_tbl := tk1 (List.mem_of_getElem? (i := 79) rfl)
theorem w79 : (Jvm.Cond.fieldLink "Compactforms$Chain" (18 : Nat) "Compactforms$Chain" "nexts" "[I") ∈ GW := gw_of m79 rfl
theorem m80 : (Jvm.Cond.fieldLink "Compactforms$Chain" (21 : Nat) "Compactforms$Chain" "head" "I") ∈ lw_tbl := tk1 (List.mem_of_getElem? (i := 80) rfl)
theorem w80 : (Jvm.Cond.fieldLink "Compactforms$Chain" (21 : Nat) "Compactforms$Chain" "head" "I") ∈ GW := gw_of m80 rfl
theorem m81 : (Jvm.Cond.fieldLink "Compactforms$Chain" (25 : Nat) "Compactforms$Chain" "spare" "I") ∈ lw_tbl := tk1 (List.mem_of_getElem? (i := 81) rfl)
theorem w81 : (Jvm.Cond.fieldLink "Compactforms$Chain" (25 : Nat) "Compactforms$Chain" "spare" "I") ∈ GW := gw_of m81 rfl
theorem m82 : (Jvm.Cond.laysFinal "Compactforms$Chain" "Compactforms$Chain" "entries" "[I") ∈ lw_tbl := tk1 (List.mem_of_getElem? (i := 82) rfl)
theorem w82 : (Jvm.Cond.laysFinal "Compactforms$Chain" "Compactforms$Chain" "entries" "[I") ∈ GW := gw_of m82 rfl
theorem m83 : (Jvm.Cond.soleField "Compactforms$Chain" "entries") ∈ lw_tbl := tk1 (List.mem_of_getElem? (i := 83) rfl)
theorem w83 : (Jvm.Cond.soleField "Compactforms$Chain" "entries") ∈ GW := gw_of m83 rfl
theorem m84 : (Jvm.Cond.laysFinal "Compactforms$Chain" "Compactforms$Chain" "points" "[I") ∈ lw_tbl := tk1 (List.mem_of_getElem? (i := 84) rfl)
theorem w84 : (Jvm.Cond.laysFinal "Compactforms$Chain" "Compactforms$Chain" "points" "[I") ∈ GW := gw_of m84 rfl
theorem m85 : (Jvm.Cond.soleField "Compactforms$Chain" "points") ∈ lw_tbl := tk1 (List.mem_of_getElem? (i := 85) rfl)
theorem w85 : (Jvm.Cond.soleField "Compactforms$Chain" "points") ∈ GW := gw_of m85 rfl
theorem m86 : (Jvm.Cond.laysFinal "Compactforms$Chain" "Compactforms$Chain" "nexts" "[I") ∈ lw_tbl := tk1 (List.mem_of_getElem? (i := 86) rfl)
theorem w86 : (Jvm.Cond.laysFinal "Compactforms$Chain" "Compactforms$Chain" "nexts" "[I") ∈ GW := gw_of m86 rfl
theorem m87 : (Jvm.Cond.soleField "Compactforms$Chain" "nexts") ∈ lw_tbl := tk1 (List.mem_of_getElem? (i := 87) rfl)
theorem w87 : (Jvm.Cond.soleField "Compactforms$Chain" "nexts") ∈ GW := gw_of m87 rfl
theorem m88 : (Jvm.Cond.lays "Compactforms$Chain" "Compactforms$Chain" "head" "I") ∈ lw_tbl := tk1 (List.mem_of_getElem? (i := 88) rfl)
theorem w88 : (Jvm.Cond.lays "Compactforms$Chain" "Compactforms$Chain" "head" "I") ∈ GW := gw_of m88 rfl
theorem m89 : (Jvm.Cond.soleField "Compactforms$Chain" "head") ∈ lw_tbl := tk1 (List.mem_of_getElem? (i := 89) rfl)
theorem w89 : (Jvm.Cond.soleField "Compactforms$Chain" "head") ∈ GW := gw_of m89 rfl
theorem m90 : (Jvm.Cond.lays "Compactforms$Chain" "Compactforms$Chain" "spare" "I") ∈ lw_tbl := tk1 (List.mem_of_getElem? (i := 90) rfl)
theorem w90 : (Jvm.Cond.lays "Compactforms$Chain" "Compactforms$Chain" "spare" "I") ∈ GW := gw_of m90 rfl
theorem m91 : (Jvm.Cond.soleField "Compactforms$Chain" "spare") ∈ lw_tbl := tk1 (List.mem_of_getElem? (i := 91) rfl)
theorem w91 : (Jvm.Cond.soleField "Compactforms$Chain" "spare") ∈ GW := gw_of m91 rfl
theorem m92 : (Jvm.Cond.superclass "Compactforms$Chain" "Compactforms$Form") ∈ lw_tbl := tk1 (List.mem_of_getElem? (i := 92) rfl)
theorem w92 : (Jvm.Cond.superclass "Compactforms$Chain" "Compactforms$Form") ∈ GW := gw_of m92 rfl
theorem m93 : (Jvm.Cond.classLink "Compactforms$Value" (41 : Nat) "Compactforms$Table") ∈ lw_tbl := tk1 (List.mem_of_getElem? (i := 93) rfl)
theorem w93 : (Jvm.Cond.classLink "Compactforms$Value" (41 : Nat) "Compactforms$Table") ∈ GW := gw_of m93 rfl
theorem m94 : (Jvm.Cond.instantiable "Compactforms$Table" (5 : Nat)) ∈ lw_tbl := tk1 (List.mem_of_getElem? (i := 94) rfl)
theorem w94 : (Jvm.Cond.instantiable "Compactforms$Table" (5 : Nat)) ∈ GW := gw_of m94 rfl
theorem m95 : (Jvm.Cond.methodLinkNest "Compactforms$Value" (43 : Nat) ({ cls := "Compactforms$Table", name := "<init>", desc := "()V" } : Jvm.MethodName) "Compactforms") ∈ lw_tbl := tk1 (List.mem_of_getElem? (i := 95) rfl)
theorem m96 : (Jvm.Cond.instanceMethod ({ cls := "Compactforms$Table", name := "<init>", desc := "()V" } : Jvm.MethodName)) ∈ lw_tbl := tk1 (List.mem_of_getElem? (i := 96) rfl)
theorem w96 : (Jvm.Cond.instanceMethod ({ cls := "Compactforms$Table", name := "<init>", desc := "()V" } : Jvm.MethodName)) ∈ GW := gw_of m96 rfl
theorem m97 : (Jvm.Cond.code ({ cls := "Compactforms$Table", name := "<init>", desc := "()V" } : Jvm.MethodName) prog_7_method_1_code (1 : Nat) (Option.none : Option Jvm.ClassFile.FieldType)) ∈ lw_tbl := tk1 (List.mem_of_getElem? (i := 97) rfl)
theorem w97 : (Jvm.Cond.code ({ cls := "Compactforms$Table", name := "<init>", desc := "()V" } : Jvm.MethodName) prog_7_method_1_code (1 : Nat) (Option.none : Option Jvm.ClassFile.FieldType)) ∈ GW := gw_of m97 rfl
theorem m98 : (Jvm.Cond.methodLinkNest "Compactforms$Table" (3 : Nat) ({ cls := "Compactforms$Form", name := "<init>", desc := "()V" } : Jvm.MethodName) "Compactforms") ∈ lw_tbl := tk1 (List.mem_of_getElem? (i := 98) rfl)
theorem m99 : (Jvm.Cond.fieldLink "Compactforms$Table" (9 : Nat) "Compactforms$Table" "heads" "[I") ∈ lw_tbl := tk1 (List.mem_of_getElem? (i := 99) rfl)
theorem w99 : (Jvm.Cond.fieldLink "Compactforms$Table" (9 : Nat) "Compactforms$Table" "heads" "[I") ∈ GW := gw_of m99 rfl
theorem m100 : (Jvm.Cond.fieldLink "Compactforms$Table" (15 : Nat) "Compactforms$Table" "members" "[I") ∈ lw_tbl := tk1 (List.mem_of_getElem? (i := 100) rfl)
theorem w100 : (Jvm.Cond.fieldLink "Compactforms$Table" (15 : Nat) "Compactforms$Table" "members" "[I") ∈ GW := gw_of m100 rfl
theorem m101 : (Jvm.Cond.fieldLink "Compactforms$Table" (18 : Nat) "Compactforms$Table" "nexts" "[I") ∈ lw_tbl := tk1 (List.mem_of_getElem? (i := 101) rfl)
theorem w101 : (Jvm.Cond.fieldLink "Compactforms$Table" (18 : Nat) "Compactforms$Table" "nexts" "[I") ∈ GW := gw_of m101 rfl
theorem m102 : (Jvm.Cond.fieldLink "Compactforms$Table" (21 : Nat) "Compactforms$Table" "buckets" "I") ∈ lw_tbl := tk1 (List.mem_of_getElem? (i := 102) rfl)
theorem w102 : (Jvm.Cond.fieldLink "Compactforms$Table" (21 : Nat) "Compactforms$Table" "buckets" "I") ∈ GW := gw_of m102 rfl
theorem m103 : (Jvm.Cond.fieldLink "Compactforms$Table" (25 : Nat) "Compactforms$Table" "count" "I") ∈ lw_tbl := tk1 (List.mem_of_getElem? (i := 103) rfl)
theorem w103 : (Jvm.Cond.fieldLink "Compactforms$Table" (25 : Nat) "Compactforms$Table" "count" "I") ∈ GW := gw_of m103 rfl
theorem m104 : (Jvm.Cond.laysFinal "Compactforms$Table" "Compactforms$Table" "heads" "[I") ∈ lw_tbl := tk1 (List.mem_of_getElem? (i := 104) rfl)
theorem w104 : (Jvm.Cond.laysFinal "Compactforms$Table" "Compactforms$Table" "heads" "[I") ∈ GW := gw_of m104 rfl
theorem m105 : (Jvm.Cond.soleField "Compactforms$Table" "heads") ∈ lw_tbl := tk1 (List.mem_of_getElem? (i := 105) rfl)
theorem w105 : (Jvm.Cond.soleField "Compactforms$Table" "heads") ∈ GW := gw_of m105 rfl
theorem m106 : (Jvm.Cond.laysFinal "Compactforms$Table" "Compactforms$Table" "members" "[I") ∈ lw_tbl := tk1 (List.mem_of_getElem? (i := 106) rfl)
theorem w106 : (Jvm.Cond.laysFinal "Compactforms$Table" "Compactforms$Table" "members" "[I") ∈ GW := gw_of m106 rfl
theorem m107 : (Jvm.Cond.soleField "Compactforms$Table" "members") ∈ lw_tbl := tk1 (List.mem_of_getElem? (i := 107) rfl)
theorem w107 : (Jvm.Cond.soleField "Compactforms$Table" "members") ∈ GW := gw_of m107 rfl
theorem m108 : (Jvm.Cond.laysFinal "Compactforms$Table" "Compactforms$Table" "nexts" "[I") ∈ lw_tbl := tk1 (List.mem_of_getElem? (i := 108) rfl)
theorem w108 : (Jvm.Cond.laysFinal "Compactforms$Table" "Compactforms$Table" "nexts" "[I") ∈ GW := gw_of m108 rfl
theorem m109 : (Jvm.Cond.soleField "Compactforms$Table" "nexts") ∈ lw_tbl := tk1 (List.mem_of_getElem? (i := 109) rfl)
theorem w109 : (Jvm.Cond.soleField "Compactforms$Table" "nexts") ∈ GW := gw_of m109 rfl
theorem m110 : (Jvm.Cond.lays "Compactforms$Table" "Compactforms$Table" "buckets" "I") ∈ lw_tbl := tk1 (List.mem_of_getElem? (i := 110) rfl)
theorem w110 : (Jvm.Cond.lays "Compactforms$Table" "Compactforms$Table" "buckets" "I") ∈ GW := gw_of m110 rfl
theorem m111 : (Jvm.Cond.soleField "Compactforms$Table" "buckets") ∈ lw_tbl := tk1 (List.mem_of_getElem? (i := 111) rfl)
theorem w111 : (Jvm.Cond.soleField "Compactforms$Table" "buckets") ∈ GW := gw_of m111 rfl
theorem m112 : (Jvm.Cond.lays "Compactforms$Table" "Compactforms$Table" "count" "I") ∈ lw_tbl := tk1 (List.mem_of_getElem? (i := 112) rfl)
theorem w112 : (Jvm.Cond.lays "Compactforms$Table" "Compactforms$Table" "count" "I") ∈ GW := gw_of m112 rfl
theorem m113 : (Jvm.Cond.soleField "Compactforms$Table" "count") ∈ lw_tbl := tk1 (List.mem_of_getElem? (i := 113) rfl)
theorem w113 : (Jvm.Cond.soleField "Compactforms$Table" "count") ∈ GW := gw_of m113 rfl
theorem m114 : (Jvm.Cond.superclass "Compactforms$Table" "Compactforms$Form") ∈ lw_tbl := tk1 (List.mem_of_getElem? (i := 114) rfl)
theorem w114 : (Jvm.Cond.superclass "Compactforms$Table" "Compactforms$Form") ∈ GW := gw_of m114 rfl
theorem m115 : (Jvm.Cond.classLink "Compactforms$Value" (51 : Nat) "Compactforms$Groups") ∈ lw_tbl := tk1 (List.mem_of_getElem? (i := 115) rfl)
theorem w115 : (Jvm.Cond.classLink "Compactforms$Value" (51 : Nat) "Compactforms$Groups") ∈ GW := gw_of m115 rfl
theorem m116 : (Jvm.Cond.instantiable "Compactforms$Groups" (2 : Nat)) ∈ lw_tbl := tk1 (List.mem_of_getElem? (i := 116) rfl)
theorem w116 : (Jvm.Cond.instantiable "Compactforms$Groups" (2 : Nat)) ∈ GW := gw_of m116 rfl
theorem m117 : (Jvm.Cond.methodLinkNest "Compactforms$Value" (53 : Nat) ({ cls := "Compactforms$Groups", name := "<init>", desc := "()V" } : Jvm.MethodName) "Compactforms") ∈ lw_tbl := tk1 (List.mem_of_getElem? (i := 117) rfl)
theorem m118 : (Jvm.Cond.instanceMethod ({ cls := "Compactforms$Groups", name := "<init>", desc := "()V" } : Jvm.MethodName)) ∈ lw_tbl := tk1 (List.mem_of_getElem? (i := 118) rfl)
theorem w118 : (Jvm.Cond.instanceMethod ({ cls := "Compactforms$Groups", name := "<init>", desc := "()V" } : Jvm.MethodName)) ∈ GW := gw_of m118 rfl
theorem m119 : (Jvm.Cond.code ({ cls := "Compactforms$Groups", name := "<init>", desc := "()V" } : Jvm.MethodName) prog_4_method_1_code (1 : Nat) (Option.none : Option Jvm.ClassFile.FieldType)) ∈ lw_tbl := tk1 (List.mem_of_getElem? (i := 119) rfl)
theorem w119 : (Jvm.Cond.code ({ cls := "Compactforms$Groups", name := "<init>", desc := "()V" } : Jvm.MethodName) prog_4_method_1_code (1 : Nat) (Option.none : Option Jvm.ClassFile.FieldType)) ∈ GW := gw_of m119 rfl
theorem m120 : (Jvm.Cond.methodLink "Compactforms$Groups" (3 : Nat) ({ cls := "java/lang/Object", name := "<init>", desc := "()V" } : Jvm.MethodName)) ∈ lw_tbl := tk1 (List.mem_of_getElem? (i := 120) rfl)
theorem w120 : (Jvm.Cond.methodLink "Compactforms$Groups" (3 : Nat) ({ cls := "java/lang/Object", name := "<init>", desc := "()V" } : Jvm.MethodName)) ∈ GW := gw_of m120 rfl
theorem m121 : (Jvm.Cond.fieldLink "Compactforms$Groups" (9 : Nat) "Compactforms$Groups" "places" "[I") ∈ lw_tbl := tk1 (List.mem_of_getElem? (i := 121) rfl)
theorem w121 : (Jvm.Cond.fieldLink "Compactforms$Groups" (9 : Nat) "Compactforms$Groups" "places" "[I") ∈ GW := gw_of m121 rfl
theorem m122 : (Jvm.Cond.fieldLink "Compactforms$Groups" (15 : Nat) "Compactforms$Groups" "waits" "[I") ∈ lw_tbl := tk1 (List.mem_of_getElem? (i := 122) rfl)
theorem w122 : (Jvm.Cond.fieldLink "Compactforms$Groups" (15 : Nat) "Compactforms$Groups" "waits" "[I") ∈ GW := gw_of m122 rfl
theorem m123 : (Jvm.Cond.laysFinal "Compactforms$Groups" "Compactforms$Groups" "places" "[I") ∈ lw_tbl := tk1 (List.mem_of_getElem? (i := 123) rfl)
theorem w123 : (Jvm.Cond.laysFinal "Compactforms$Groups" "Compactforms$Groups" "places" "[I") ∈ GW := gw_of m123 rfl
theorem m124 : (Jvm.Cond.soleField "Compactforms$Groups" "places") ∈ lw_tbl := tk1 (List.mem_of_getElem? (i := 124) rfl)
theorem w124 : (Jvm.Cond.soleField "Compactforms$Groups" "places") ∈ GW := gw_of m124 rfl
theorem m125 : (Jvm.Cond.laysFinal "Compactforms$Groups" "Compactforms$Groups" "waits" "[I") ∈ lw_tbl := tk1 (List.mem_of_getElem? (i := 125) rfl)
theorem w125 : (Jvm.Cond.laysFinal "Compactforms$Groups" "Compactforms$Groups" "waits" "[I") ∈ GW := gw_of m125 rfl
theorem m126 : (Jvm.Cond.soleField "Compactforms$Groups" "waits") ∈ lw_tbl := tk1 (List.mem_of_getElem? (i := 126) rfl)
theorem w126 : (Jvm.Cond.soleField "Compactforms$Groups" "waits") ∈ GW := gw_of m126 rfl
theorem m127 : (Jvm.Cond.superclass "Compactforms$Groups" "java/lang/Object") ∈ lw_tbl := tk1 (List.mem_of_getElem? (i := 127) rfl)
theorem w127 : (Jvm.Cond.superclass "Compactforms$Groups" "java/lang/Object") ∈ GW := gw_of m127 rfl
theorem m128 : (Jvm.Cond.fieldLink "Compactforms$Value" (9 : Nat) "Compactforms$Value" "held" "Z") ∈ lw_tbl := tk1 (List.mem_of_getElem? (i := 128) rfl)
theorem w128 : (Jvm.Cond.fieldLink "Compactforms$Value" (9 : Nat) "Compactforms$Value" "held" "Z") ∈ GW := gw_of m128 rfl
theorem m129 : (Jvm.Cond.fieldLinkNest "Compactforms" (115 : Nat) "Compactforms$Value" "held" "Z" "Compactforms") ∈ lw_tbl := tk1 (List.mem_of_getElem? (i := 129) rfl)
theorem m130 : (Jvm.Cond.fieldLink "Compactforms$Value" (15 : Nat) "Compactforms$Value" "type" "I") ∈ lw_tbl := tk1 (List.mem_of_getElem? (i := 130) rfl)
theorem w130 : (Jvm.Cond.fieldLink "Compactforms$Value" (15 : Nat) "Compactforms$Value" "type" "I") ∈ GW := gw_of m130 rfl
theorem m131 : (Jvm.Cond.fieldLinkNest "Compactforms" (214 : Nat) "Compactforms$Value" "type" "I" "Compactforms") ∈ lw_tbl := tk1 (List.mem_of_getElem? (i := 131) rfl)
theorem m132 : (Jvm.Cond.fieldLink "Compactforms$Value" (19 : Nat) "Compactforms$Value" "end" "I") ∈ lw_tbl := tk1 (List.mem_of_getElem? (i := 132) rfl)
theorem w132 : (Jvm.Cond.fieldLink "Compactforms$Value" (19 : Nat) "Compactforms$Value" "end" "I") ∈ GW := gw_of m132 rfl
theorem m133 : (Jvm.Cond.fieldLinkNest "Compactforms" (106 : Nat) "Compactforms$Value" "end" "I" "Compactforms") ∈ lw_tbl := tk1 (List.mem_of_getElem? (i := 133) rfl)
theorem m134 : (Jvm.Cond.fieldLink "Compactforms$Value" (22 : Nat) "Compactforms$Value" "id" "I") ∈ lw_tbl := tk1 (List.mem_of_getElem? (i := 134) rfl)
theorem w134 : (Jvm.Cond.fieldLink "Compactforms$Value" (22 : Nat) "Compactforms$Value" "id" "I") ∈ GW := gw_of m134 rfl
theorem m135 : (Jvm.Cond.fieldLinkNest "Compactforms" (230 : Nat) "Compactforms$Value" "id" "I" "Compactforms") ∈ lw_tbl := tk1 (List.mem_of_getElem? (i := 135) rfl)
theorem m136 : (Jvm.Cond.fieldLink "Compactforms$Value" (30 : Nat) "Compactforms$Value" "small" "LCompactforms$Row;") ∈ lw_tbl := tk1 (List.mem_of_getElem? (i := 136) rfl)
theorem w136 : (Jvm.Cond.fieldLink "Compactforms$Value" (30 : Nat) "Compactforms$Value" "small" "LCompactforms$Row;") ∈ GW := gw_of m136 rfl
theorem m137 : (Jvm.Cond.fieldLink "Compactforms$Value" (37 : Nat) "Compactforms$Value" "chain" "LCompactforms$Chain;") ∈ lw_tbl := tk1 (List.mem_of_getElem? (i := 137) rfl)
theorem w137 : (Jvm.Cond.fieldLink "Compactforms$Value" (37 : Nat) "Compactforms$Value" "chain" "LCompactforms$Chain;") ∈ GW := gw_of m137 rfl
theorem m138 : (Jvm.Cond.fieldLink "Compactforms$Value" (44 : Nat) "Compactforms$Value" "table" "LCompactforms$Table;") ∈ lw_tbl := tk1 (List.mem_of_getElem? (i := 138) rfl)
theorem w138 : (Jvm.Cond.fieldLink "Compactforms$Value" (44 : Nat) "Compactforms$Value" "table" "LCompactforms$Table;") ∈ GW := gw_of m138 rfl
theorem m139 : (Jvm.Cond.fieldLinkNest "Compactforms" (173 : Nat) "Compactforms$Value" "table" "LCompactforms$Table;" "Compactforms") ∈ lw_tbl := tk1 (List.mem_of_getElem? (i := 139) rfl)
theorem m140 : (Jvm.Cond.fieldLink "Compactforms$Value" (48 : Nat) "Compactforms$Value" "plain" "LCompactforms$Row;") ∈ lw_tbl := tk1 (List.mem_of_getElem? (i := 140) rfl)
theorem w140 : (Jvm.Cond.fieldLink "Compactforms$Value" (48 : Nat) "Compactforms$Value" "plain" "LCompactforms$Row;") ∈ GW := gw_of m140 rfl
theorem m141 : (Jvm.Cond.fieldLinkNest "Compactforms" (157 : Nat) "Compactforms$Value" "plain" "LCompactforms$Row;" "Compactforms") ∈ lw_tbl := tk1 (List.mem_of_getElem? (i := 141) rfl)
theorem m142 : (Jvm.Cond.fieldLink "Compactforms$Value" (54 : Nat) "Compactforms$Value" "groups" "LCompactforms$Groups;") ∈ lw_tbl := tk1 (List.mem_of_getElem? (i := 142) rfl)
theorem w142 : (Jvm.Cond.fieldLink "Compactforms$Value" (54 : Nat) "Compactforms$Value" "groups" "LCompactforms$Groups;") ∈ GW := gw_of m142 rfl
theorem m143 : (Jvm.Cond.fieldLinkNest "Compactforms" (93 : Nat) "Compactforms$Value" "groups" "LCompactforms$Groups;" "Compactforms") ∈ lw_tbl := tk1 (List.mem_of_getElem? (i := 143) rfl)
theorem m144 : (Jvm.Cond.fieldLink "Compactforms$Value" (58 : Nat) "Compactforms$Value" "form" "LCompactforms$Form;") ∈ lw_tbl := tk1 (List.mem_of_getElem? (i := 144) rfl)
theorem w144 : (Jvm.Cond.fieldLink "Compactforms$Value" (58 : Nat) "Compactforms$Value" "form" "LCompactforms$Form;") ∈ GW := gw_of m144 rfl
theorem m145 : (Jvm.Cond.fieldLinkNest "Compactforms" (148 : Nat) "Compactforms$Value" "form" "LCompactforms$Form;" "Compactforms") ∈ lw_tbl := tk1 (List.mem_of_getElem? (i := 145) rfl)
theorem m146 : (Jvm.Cond.lays "Compactforms$Value" "Compactforms$Value" "held" "Z") ∈ lw_tbl := tk1 (List.mem_of_getElem? (i := 146) rfl)
theorem w146 : (Jvm.Cond.lays "Compactforms$Value" "Compactforms$Value" "held" "Z") ∈ GW := gw_of m146 rfl
theorem m147 : (Jvm.Cond.soleField "Compactforms$Value" "held") ∈ lw_tbl := tk1 (List.mem_of_getElem? (i := 147) rfl)
theorem w147 : (Jvm.Cond.soleField "Compactforms$Value" "held") ∈ GW := gw_of m147 rfl
theorem m148 : (Jvm.Cond.lays "Compactforms$Value" "Compactforms$Value" "type" "I") ∈ lw_tbl := tk1 (List.mem_of_getElem? (i := 148) rfl)
theorem w148 : (Jvm.Cond.lays "Compactforms$Value" "Compactforms$Value" "type" "I") ∈ GW := gw_of m148 rfl
theorem m149 : (Jvm.Cond.soleField "Compactforms$Value" "type") ∈ lw_tbl := tk1 (List.mem_of_getElem? (i := 149) rfl)
theorem w149 : (Jvm.Cond.soleField "Compactforms$Value" "type") ∈ GW := gw_of m149 rfl
theorem m150 : (Jvm.Cond.lays "Compactforms$Value" "Compactforms$Value" "end" "I") ∈ lw_tbl := tk1 (List.mem_of_getElem? (i := 150) rfl)
theorem w150 : (Jvm.Cond.lays "Compactforms$Value" "Compactforms$Value" "end" "I") ∈ GW := gw_of m150 rfl
theorem m151 : (Jvm.Cond.soleField "Compactforms$Value" "end") ∈ lw_tbl := tk1 (List.mem_of_getElem? (i := 151) rfl)
theorem w151 : (Jvm.Cond.soleField "Compactforms$Value" "end") ∈ GW := gw_of m151 rfl
theorem m152 : (Jvm.Cond.lays "Compactforms$Value" "Compactforms$Value" "id" "I") ∈ lw_tbl := tk1 (List.mem_of_getElem? (i := 152) rfl)
theorem w152 : (Jvm.Cond.lays "Compactforms$Value" "Compactforms$Value" "id" "I") ∈ GW := gw_of m152 rfl
theorem m153 : (Jvm.Cond.soleField "Compactforms$Value" "id") ∈ lw_tbl := tk1 (List.mem_of_getElem? (i := 153) rfl)
theorem w153 : (Jvm.Cond.soleField "Compactforms$Value" "id") ∈ GW := gw_of m153 rfl
theorem m154 : (Jvm.Cond.laysFinal "Compactforms$Value" "Compactforms$Value" "small" "LCompactforms$Row;") ∈ lw_tbl := tk1 (List.mem_of_getElem? (i := 154) rfl)
theorem w154 : (Jvm.Cond.laysFinal "Compactforms$Value" "Compactforms$Value" "small" "LCompactforms$Row;") ∈ GW := gw_of m154 rfl
theorem m155 : (Jvm.Cond.soleField "Compactforms$Value" "small") ∈ lw_tbl := tk1 (List.mem_of_getElem? (i := 155) rfl)
theorem w155 : (Jvm.Cond.soleField "Compactforms$Value" "small") ∈ GW := gw_of m155 rfl
theorem m156 : (Jvm.Cond.laysFinal "Compactforms$Value" "Compactforms$Value" "chain" "LCompactforms$Chain;") ∈ lw_tbl := tk1 (List.mem_of_getElem? (i := 156) rfl)
theorem w156 : (Jvm.Cond.laysFinal "Compactforms$Value" "Compactforms$Value" "chain" "LCompactforms$Chain;") ∈ GW := gw_of m156 rfl
theorem m157 : (Jvm.Cond.soleField "Compactforms$Value" "chain") ∈ lw_tbl := tk1 (List.mem_of_getElem? (i := 157) rfl)
theorem w157 : (Jvm.Cond.soleField "Compactforms$Value" "chain") ∈ GW := gw_of m157 rfl
theorem m158 : (Jvm.Cond.laysFinal "Compactforms$Value" "Compactforms$Value" "table" "LCompactforms$Table;") ∈ lw_tbl := tk1 (List.mem_of_getElem? (i := 158) rfl)
theorem w158 : (Jvm.Cond.laysFinal "Compactforms$Value" "Compactforms$Value" "table" "LCompactforms$Table;") ∈ GW := gw_of m158 rfl
theorem m159 : (Jvm.Cond.soleField "Compactforms$Value" "table") ∈ lw_tbl := tk1 (List.mem_of_getElem? (i := 159) rfl)
theorem w159 : (Jvm.Cond.soleField "Compactforms$Value" "table") ∈ GW := gw_of m159 rfl
theorem m160 : (Jvm.Cond.laysFinal "Compactforms$Value" "Compactforms$Value" "plain" "LCompactforms$Row;") ∈ lw_tbl := tk1 (List.mem_of_getElem? (i := 160) rfl)
theorem w160 : (Jvm.Cond.laysFinal "Compactforms$Value" "Compactforms$Value" "plain" "LCompactforms$Row;") ∈ GW := gw_of m160 rfl
theorem m161 : (Jvm.Cond.soleField "Compactforms$Value" "plain") ∈ lw_tbl := tk1 (List.mem_of_getElem? (i := 161) rfl)
theorem w161 : (Jvm.Cond.soleField "Compactforms$Value" "plain") ∈ GW := gw_of m161 rfl
theorem m162 : (Jvm.Cond.laysFinal "Compactforms$Value" "Compactforms$Value" "groups" "LCompactforms$Groups;") ∈ lw_tbl := tk1 (List.mem_of_getElem? (i := 162) rfl)
theorem w162 : (Jvm.Cond.laysFinal "Compactforms$Value" "Compactforms$Value" "groups" "LCompactforms$Groups;") ∈ GW := gw_of m162 rfl
theorem m163 : (Jvm.Cond.soleField "Compactforms$Value" "groups") ∈ lw_tbl := tk1 (List.mem_of_getElem? (i := 163) rfl)
theorem w163 : (Jvm.Cond.soleField "Compactforms$Value" "groups") ∈ GW := gw_of m163 rfl
theorem m164 : (Jvm.Cond.lays "Compactforms$Value" "Compactforms$Value" "form" "LCompactforms$Form;") ∈ lw_tbl := tk1 (List.mem_of_getElem? (i := 164) rfl)
theorem w164 : (Jvm.Cond.lays "Compactforms$Value" "Compactforms$Value" "form" "LCompactforms$Form;") ∈ GW := gw_of m164 rfl
theorem m165 : (Jvm.Cond.soleField "Compactforms$Value" "form") ∈ lw_tbl := tk1 (List.mem_of_getElem? (i := 165) rfl)
theorem w165 : (Jvm.Cond.soleField "Compactforms$Value" "form") ∈ GW := gw_of m165 rfl
theorem m166 : (Jvm.Cond.superclass "Compactforms$Value" "java/lang/Object") ∈ lw_tbl := tk1 (List.mem_of_getElem? (i := 166) rfl)
theorem w166 : (Jvm.Cond.superclass "Compactforms$Value" "java/lang/Object") ∈ GW := gw_of m166 rfl
theorem m167 : (Jvm.Cond.fieldLink "Compactforms" (11 : Nat) "Compactforms" "values" "[LCompactforms$Value;") ∈ lw_tbl := tk1 (List.mem_of_getElem? (i := 167) rfl)
theorem w167 : (Jvm.Cond.fieldLink "Compactforms" (11 : Nat) "Compactforms" "values" "[LCompactforms$Value;") ∈ GW := gw_of m167 rfl
theorem m168 : (Jvm.Cond.fieldLink "Compactforms" (18 : Nat) "Compactforms" "log" "LCompactforms$Log;") ∈ lw_tbl := tk1 (List.mem_of_getElem? (i := 168) rfl)
theorem w168 : (Jvm.Cond.fieldLink "Compactforms" (18 : Nat) "Compactforms" "log" "LCompactforms$Log;") ∈ GW := gw_of m168 rfl
theorem m169 : (Jvm.Cond.fieldLink "Compactforms" (22 : Nat) "Compactforms" "newLog" "LCompactforms$Log;") ∈ lw_tbl := tk1 (List.mem_of_getElem? (i := 169) rfl)
theorem w169 : (Jvm.Cond.fieldLink "Compactforms" (22 : Nat) "Compactforms" "newLog" "LCompactforms$Log;") ∈ GW := gw_of m169 rfl
theorem m170 : (Jvm.Cond.fieldLink "Compactforms" (25 : Nat) "Compactforms" "rowsAtRewrite" "I") ∈ lw_tbl := tk1 (List.mem_of_getElem? (i := 170) rfl)
theorem w170 : (Jvm.Cond.fieldLink "Compactforms" (25 : Nat) "Compactforms" "rowsAtRewrite" "I") ∈ GW := gw_of m170 rfl
theorem m171 : (Jvm.Cond.fieldLink "Compactforms" (29 : Nat) "Compactforms" "keysToWrite" "I") ∈ lw_tbl := tk1 (List.mem_of_getElem? (i := 171) rfl)
theorem w171 : (Jvm.Cond.fieldLink "Compactforms" (29 : Nat) "Compactforms" "keysToWrite" "I") ∈ GW := gw_of m171 rfl
theorem m172 : (Jvm.Cond.fieldLink "Compactforms" (32 : Nat) "Compactforms" "clock" "I") ∈ lw_tbl := tk1 (List.mem_of_getElem? (i := 172) rfl)
theorem w172 : (Jvm.Cond.fieldLink "Compactforms" (32 : Nat) "Compactforms" "clock" "I") ∈ GW := gw_of m172 rfl
theorem m173 : (Jvm.Cond.fieldLink "Compactforms" (35 : Nat) "Compactforms" "lastSampled" "I") ∈ lw_tbl := tk1 (List.mem_of_getElem? (i := 173) rfl)
theorem w173 : (Jvm.Cond.fieldLink "Compactforms" (35 : Nat) "Compactforms" "lastSampled" "I") ∈ GW := gw_of m173 rfl
theorem m174 : (Jvm.Cond.fieldLink "Compactforms" (38 : Nat) "Compactforms" "lastValueId" "I") ∈ lw_tbl := tk1 (List.mem_of_getElem? (i := 174) rfl)
theorem w174 : (Jvm.Cond.fieldLink "Compactforms" (38 : Nat) "Compactforms" "lastValueId" "I") ∈ GW := gw_of m174 rfl
theorem m175 : (Jvm.Cond.laysFinal "Compactforms" "Compactforms" "values" "[LCompactforms$Value;") ∈ lw_tbl := tk1 (List.mem_of_getElem? (i := 175) rfl)
theorem w175 : (Jvm.Cond.laysFinal "Compactforms" "Compactforms" "values" "[LCompactforms$Value;") ∈ GW := gw_of m175 rfl
theorem m176 : (Jvm.Cond.soleField "Compactforms" "values") ∈ lw_tbl := tk1 (List.mem_of_getElem? (i := 176) rfl)
theorem w176 : (Jvm.Cond.soleField "Compactforms" "values") ∈ GW := gw_of m176 rfl
theorem m177 : (Jvm.Cond.lays "Compactforms" "Compactforms" "log" "LCompactforms$Log;") ∈ lw_tbl := tk1 (List.mem_of_getElem? (i := 177) rfl)
theorem w177 : (Jvm.Cond.lays "Compactforms" "Compactforms" "log" "LCompactforms$Log;") ∈ GW := gw_of m177 rfl
theorem m178 : (Jvm.Cond.soleField "Compactforms" "log") ∈ lw_tbl := tk1 (List.mem_of_getElem? (i := 178) rfl)
theorem w178 : (Jvm.Cond.soleField "Compactforms" "log") ∈ GW := gw_of m178 rfl
theorem m179 : (Jvm.Cond.lays "Compactforms" "Compactforms" "newLog" "LCompactforms$Log;") ∈ lw_tbl := tk1 (List.mem_of_getElem? (i := 179) rfl)
theorem w179 : (Jvm.Cond.lays "Compactforms" "Compactforms" "newLog" "LCompactforms$Log;") ∈ GW := gw_of m179 rfl
theorem m180 : (Jvm.Cond.soleField "Compactforms" "newLog") ∈ lw_tbl := tk1 (List.mem_of_getElem? (i := 180) rfl)
theorem w180 : (Jvm.Cond.soleField "Compactforms" "newLog") ∈ GW := gw_of m180 rfl
theorem m181 : (Jvm.Cond.lays "Compactforms" "Compactforms" "rowsAtRewrite" "I") ∈ lw_tbl := tk1 (List.mem_of_getElem? (i := 181) rfl)
theorem w181 : (Jvm.Cond.lays "Compactforms" "Compactforms" "rowsAtRewrite" "I") ∈ GW := gw_of m181 rfl
theorem m182 : (Jvm.Cond.soleField "Compactforms" "rowsAtRewrite") ∈ lw_tbl := tk1 (List.mem_of_getElem? (i := 182) rfl)
theorem w182 : (Jvm.Cond.soleField "Compactforms" "rowsAtRewrite") ∈ GW := gw_of m182 rfl
theorem m183 : (Jvm.Cond.lays "Compactforms" "Compactforms" "keysToWrite" "I") ∈ lw_tbl := tk1 (List.mem_of_getElem? (i := 183) rfl)
theorem w183 : (Jvm.Cond.lays "Compactforms" "Compactforms" "keysToWrite" "I") ∈ GW := gw_of m183 rfl
theorem m184 : (Jvm.Cond.soleField "Compactforms" "keysToWrite") ∈ lw_tbl := tk1 (List.mem_of_getElem? (i := 184) rfl)
theorem w184 : (Jvm.Cond.soleField "Compactforms" "keysToWrite") ∈ GW := gw_of m184 rfl
theorem m185 : (Jvm.Cond.lays "Compactforms" "Compactforms" "clock" "I") ∈ lw_tbl := tk1 (List.mem_of_getElem? (i := 185) rfl)
theorem w185 : (Jvm.Cond.lays "Compactforms" "Compactforms" "clock" "I") ∈ GW := gw_of m185 rfl
theorem m186 : (Jvm.Cond.soleField "Compactforms" "clock") ∈ lw_tbl := tk1 (List.mem_of_getElem? (i := 186) rfl)
theorem w186 : (Jvm.Cond.soleField "Compactforms" "clock") ∈ GW := gw_of m186 rfl
theorem m187 : (Jvm.Cond.lays "Compactforms" "Compactforms" "lastSampled" "I") ∈ lw_tbl := tk1 (List.mem_of_getElem? (i := 187) rfl)
theorem w187 : (Jvm.Cond.lays "Compactforms" "Compactforms" "lastSampled" "I") ∈ GW := gw_of m187 rfl
theorem m188 : (Jvm.Cond.soleField "Compactforms" "lastSampled") ∈ lw_tbl := tk1 (List.mem_of_getElem? (i := 188) rfl)
theorem w188 : (Jvm.Cond.soleField "Compactforms" "lastSampled") ∈ GW := gw_of m188 rfl
theorem m189 : (Jvm.Cond.lays "Compactforms" "Compactforms" "lastValueId" "I") ∈ lw_tbl := tk1 (List.mem_of_getElem? (i := 189) rfl)
theorem w189 : (Jvm.Cond.lays "Compactforms" "Compactforms" "lastValueId" "I") ∈ GW := gw_of m189 rfl
theorem m190 : (Jvm.Cond.soleField "Compactforms" "lastValueId") ∈ lw_tbl := tk1 (List.mem_of_getElem? (i := 190) rfl)
theorem w190 : (Jvm.Cond.soleField "Compactforms" "lastValueId") ∈ GW := gw_of m190 rfl
theorem m191 : (Jvm.Cond.superclass "Compactforms" "java/lang/Object") ∈ lw_tbl := tk1 (List.mem_of_getElem? (i := 191) rfl)
theorem w191 : (Jvm.Cond.superclass "Compactforms" "java/lang/Object") ∈ GW := gw_of m191 rfl
theorem m192 : (Jvm.Cond.constant "CompactformsLaw" (163 : Nat) (1073741824 : Int32)) ∈ lw_tbl := tk1 (List.mem_of_getElem? (i := 192) rfl)
theorem w192 : (Jvm.Cond.constant "CompactformsLaw" (163 : Nat) (1073741824 : Int32)) ∈ GW := gw_of m192 rfl
theorem m193 : (Jvm.Cond.methodLink "CompactformsLaw" (164 : Nat) ({ cls := "CompactformsLaw", name := "draw", desc := "([III)I" } : Jvm.MethodName)) ∈ lw_tbl := tk1 (List.mem_of_getElem? (i := 193) rfl)
theorem w193 : (Jvm.Cond.methodLink "CompactformsLaw" (164 : Nat) ({ cls := "CompactformsLaw", name := "draw", desc := "([III)I" } : Jvm.MethodName)) ∈ GW := gw_of m193 rfl
theorem m194 : (Jvm.Cond.static ({ cls := "CompactformsLaw", name := "draw", desc := "([III)I" } : Jvm.MethodName)) ∈ lw_tbl := tk1 (List.mem_of_getElem? (i := 194) rfl)
theorem w194 : (Jvm.Cond.static ({ cls := "CompactformsLaw", name := "draw", desc := "([III)I" } : Jvm.MethodName)) ∈ GW := gw_of m194 rfl
theorem m195 : (Jvm.Cond.code ({ cls := "CompactformsLaw", name := "draw", desc := "([III)I" } : Jvm.MethodName) method_2_code (4 : Nat) (Option.some Jvm.ClassFile.FieldType.int)) ∈ lw_tbl := tk1 (List.mem_of_getElem? (i := 195) rfl)
theorem w195 : (Jvm.Cond.code ({ cls := "CompactformsLaw", name := "draw", desc := "([III)I" } : Jvm.MethodName) method_2_code (4 : Nat) (Option.some Jvm.ClassFile.FieldType.int)) ∈ GW := gw_of m195 rfl
theorem m196 : (Jvm.Cond.constant "CompactformsLaw" (7 : Nat) (1003874759 : Int32)) ∈ lw_tbl := tk1 (List.mem_of_getElem? (i := 196) rfl)
theorem w196 : (Jvm.Cond.constant "CompactformsLaw" (7 : Nat) (1003874759 : Int32)) ∈ GW := gw_of m196 rfl
theorem m197 : (Jvm.Cond.constant "CompactformsLaw" (8 : Nat) (667002355 : Int32)) ∈ lw_tbl := tk1 (List.mem_of_getElem? (i := 197) rfl)
theorem w197 : (Jvm.Cond.constant "CompactformsLaw" (8 : Nat) (667002355 : Int32)) ∈ GW := gw_of m197 rfl
theorem m198 : (Jvm.Cond.constant "CompactformsLaw" (9 : Nat) (2147483647 : Int32)) ∈ lw_tbl := tk1 (List.mem_of_getElem? (i := 198) rfl)
theorem w198 : (Jvm.Cond.constant "CompactformsLaw" (9 : Nat) (2147483647 : Int32)) ∈ GW := gw_of m198 rfl
theorem m199 : (Jvm.Cond.methodLink "CompactformsLaw" (168 : Nat) ({ cls := "CompactformsLaw", name := "step", desc := "(LCompactforms;III[I)Z" } : Jvm.MethodName)) ∈ lw_tbl := tk1 (List.mem_of_getElem? (i := 199) rfl)
theorem w199 : (Jvm.Cond.methodLink "CompactformsLaw" (168 : Nat) ({ cls := "CompactformsLaw", name := "step", desc := "(LCompactforms;III[I)Z" } : Jvm.MethodName)) ∈ GW := gw_of m199 rfl
theorem m200 : (Jvm.Cond.static ({ cls := "CompactformsLaw", name := "step", desc := "(LCompactforms;III[I)Z" } : Jvm.MethodName)) ∈ lw_tbl := tk1 (List.mem_of_getElem? (i := 200) rfl)
theorem w200 : (Jvm.Cond.static ({ cls := "CompactformsLaw", name := "step", desc := "(LCompactforms;III[I)Z" } : Jvm.MethodName)) ∈ GW := gw_of m200 rfl
theorem m201 : (Jvm.Cond.code ({ cls := "CompactformsLaw", name := "step", desc := "(LCompactforms;III[I)Z" } : Jvm.MethodName) method_14_code (11 : Nat) (Option.some Jvm.ClassFile.FieldType.boolean)) ∈ lw_tbl := tk1 (List.mem_of_getElem? (i := 201) rfl)
theorem w201 : (Jvm.Cond.code ({ cls := "CompactformsLaw", name := "step", desc := "(LCompactforms;III[I)Z" } : Jvm.MethodName) method_14_code (11 : Nat) (Option.some Jvm.ClassFile.FieldType.boolean)) ∈ GW := gw_of m201 rfl
theorem m202 : (Jvm.Cond.methodLink "CompactformsLaw" (137 : Nat) ({ cls := "CompactformsLaw", name := "commands", desc := "(LCompactforms;IIII[I)Z" } : Jvm.MethodName)) ∈ lw_tbl := tk1 (List.mem_of_getElem? (i := 202) rfl)
theorem w202 : (Jvm.Cond.methodLink "CompactformsLaw" (137 : Nat) ({ cls := "CompactformsLaw", name := "commands", desc := "(LCompactforms;IIII[I)Z" } : Jvm.MethodName)) ∈ GW := gw_of m202 rfl
theorem m203 : (Jvm.Cond.static ({ cls := "CompactformsLaw", name := "commands", desc := "(LCompactforms;IIII[I)Z" } : Jvm.MethodName)) ∈ lw_tbl := tk1 (List.mem_of_getElem? (i := 203) rfl)
theorem w203 : (Jvm.Cond.static ({ cls := "CompactformsLaw", name := "commands", desc := "(LCompactforms;IIII[I)Z" } : Jvm.MethodName)) ∈ GW := gw_of m203 rfl
theorem m204 : (Jvm.Cond.code ({ cls := "CompactformsLaw", name := "commands", desc := "(LCompactforms;IIII[I)Z" } : Jvm.MethodName) method_11_code (16 : Nat) (Option.some Jvm.ClassFile.FieldType.boolean)) ∈ lw_tbl := tk1 (List.mem_of_getElem? (i := 204) rfl)
theorem w204 : (Jvm.Cond.code ({ cls := "CompactformsLaw", name := "commands", desc := "(LCompactforms;IIII[I)Z" } : Jvm.MethodName) method_11_code (16 : Nat) (Option.some Jvm.ClassFile.FieldType.boolean)) ∈ GW := gw_of m204 rfl
theorem m205 : (Jvm.Cond.methodLink "CompactformsLaw" (75 : Nat) ({ cls := "Compactforms", name := "typeOf", desc := "(I)I" } : Jvm.MethodName)) ∈ lw_tbl := tk1 (List.mem_of_getElem? (i := 205) rfl)
theorem w205 : (Jvm.Cond.methodLink "CompactformsLaw" (75 : Nat) ({ cls := "Compactforms", name := "typeOf", desc := "(I)I" } : Jvm.MethodName)) ∈ GW := gw_of m205 rfl
theorem m206 : (Jvm.Cond.instanceMethod ({ cls := "Compactforms", name := "typeOf", desc := "(I)I" } : Jvm.MethodName)) ∈ lw_tbl := tk1 (List.mem_of_getElem? (i := 206) rfl)
theorem w206 : (Jvm.Cond.instanceMethod ({ cls := "Compactforms", name := "typeOf", desc := "(I)I" } : Jvm.MethodName)) ∈ GW := gw_of m206 rfl
theorem m207 : (Jvm.Cond.selects "Compactforms" ({ cls := "Compactforms", name := "typeOf", desc := "(I)I" } : Jvm.MethodName) ({ cls := "Compactforms", name := "typeOf", desc := "(I)I" } : Jvm.MethodName)) ∈ lw_tbl := tk1 (List.mem_of_getElem? (i := 207) rfl)
theorem w207 : (Jvm.Cond.selects "Compactforms" ({ cls := "Compactforms", name := "typeOf", desc := "(I)I" } : Jvm.MethodName) ({ cls := "Compactforms", name := "typeOf", desc := "(I)I" } : Jvm.MethodName)) ∈ GW := gw_of m207 rfl
theorem m208 : (Jvm.Cond.code ({ cls := "Compactforms", name := "typeOf", desc := "(I)I" } : Jvm.MethodName) prog_1_method_22_code (2 : Nat) (Option.some Jvm.ClassFile.FieldType.int)) ∈ lw_tbl := tk1 (List.mem_of_getElem? (i := 208) rfl)
theorem w208 : (Jvm.Cond.code ({ cls := "Compactforms", name := "typeOf", desc := "(I)I" } : Jvm.MethodName) prog_1_method_22_code (2 : Nat) (Option.some Jvm.ClassFile.FieldType.int)) ∈ GW := gw_of m208 rfl
theorem m209 : (Jvm.Cond.methodLink "Compactforms" (42 : Nat) ({ cls := "Compactforms", name := "needKey", desc := "(I)V" } : Jvm.MethodName)) ∈ lw_tbl := tk1 (List.mem_of_getElem? (i := 209) rfl)
theorem w209 : (Jvm.Cond.methodLink "Compactforms" (42 : Nat) ({ cls := "Compactforms", name := "needKey", desc := "(I)V" } : Jvm.MethodName)) ∈ GW := gw_of m209 rfl
theorem m210 : (Jvm.Cond.static ({ cls := "Compactforms", name := "needKey", desc := "(I)V" } : Jvm.MethodName)) ∈ lw_tbl := tk1 (List.mem_of_getElem? (i := 210) rfl)
theorem w210 : (Jvm.Cond.static ({ cls := "Compactforms", name := "needKey", desc := "(I)V" } : Jvm.MethodName)) ∈ GW := gw_of m210 rfl
theorem m211 : (Jvm.Cond.code ({ cls := "Compactforms", name := "needKey", desc := "(I)V" } : Jvm.MethodName) prog_1_method_34_code (1 : Nat) (Option.none : Option Jvm.ClassFile.FieldType)) ∈ lw_tbl := tk1 (List.mem_of_getElem? (i := 211) rfl)
theorem w211 : (Jvm.Cond.code ({ cls := "Compactforms", name := "needKey", desc := "(I)V" } : Jvm.MethodName) prog_1_method_34_code (1 : Nat) (Option.none : Option Jvm.ClassFile.FieldType)) ∈ GW := gw_of m211 rfl
theorem m212 : (Jvm.Cond.methodLink "Compactforms" (189 : Nat) ({ cls := "Compactforms", name := "isKey", desc := "(I)Z" } : Jvm.MethodName)) ∈ lw_tbl := tk1 (List.mem_of_getElem? (i := 212) rfl)
theorem w212 : (Jvm.Cond.methodLink "Compactforms" (189 : Nat) ({ cls := "Compactforms", name := "isKey", desc := "(I)Z" } : Jvm.MethodName)) ∈ GW := gw_of m212 rfl
theorem m213 : (Jvm.Cond.static ({ cls := "Compactforms", name := "isKey", desc := "(I)Z" } : Jvm.MethodName)) ∈ lw_tbl := tk1 (List.mem_of_getElem? (i := 213) rfl)
theorem w213 : (Jvm.Cond.static ({ cls := "Compactforms", name := "isKey", desc := "(I)Z" } : Jvm.MethodName)) ∈ GW := gw_of m213 rfl
theorem m214 : (Jvm.Cond.code ({ cls := "Compactforms", name := "isKey", desc := "(I)Z" } : Jvm.MethodName) prog_1_method_32_code (1 : Nat) (Option.some Jvm.ClassFile.FieldType.boolean)) ∈ lw_tbl := tk1 (List.mem_of_getElem? (i := 214) rfl)
theorem w214 : (Jvm.Cond.code ({ cls := "Compactforms", name := "isKey", desc := "(I)Z" } : Jvm.MethodName) prog_1_method_32_code (1 : Nat) (Option.some Jvm.ClassFile.FieldType.boolean)) ∈ GW := gw_of m214 rfl
theorem m215 : (Jvm.Cond.methodLink "Compactforms" (185 : Nat) ({ cls := "Compactforms", name := "isWithin", desc := "(III)Z" } : Jvm.MethodName)) ∈ lw_tbl := tk1 (List.mem_of_getElem? (i := 215) rfl)
theorem w215 : (Jvm.Cond.methodLink "Compactforms" (185 : Nat) ({ cls := "Compactforms", name := "isWithin", desc := "(III)Z" } : Jvm.MethodName)) ∈ GW := gw_of m215 rfl
theorem m216 : (Jvm.Cond.static ({ cls := "Compactforms", name := "isWithin", desc := "(III)Z" } : Jvm.MethodName)) ∈ lw_tbl := tk1 (List.mem_of_getElem? (i := 216) rfl)
theorem w216 : (Jvm.Cond.static ({ cls := "Compactforms", name := "isWithin", desc := "(III)Z" } : Jvm.MethodName)) ∈ GW := gw_of m216 rfl
theorem m217 : (Jvm.Cond.code ({ cls := "Compactforms", name := "isWithin", desc := "(III)Z" } : Jvm.MethodName) prog_1_method_31_code (3 : Nat) (Option.some Jvm.ClassFile.FieldType.boolean)) ∈ lw_tbl := tk1 (List.mem_of_getElem? (i := 217) rfl)
theorem w217 : (Jvm.Cond.code ({ cls := "Compactforms", name := "isWithin", desc := "(III)Z" } : Jvm.MethodName) prog_1_method_31_code (3 : Nat) (Option.some Jvm.ClassFile.FieldType.boolean)) ∈ GW := gw_of m217 rfl
theorem m218 : (Jvm.Cond.classLink "Compactforms" (192 : Nat) "java/lang/IndexOutOfBoundsException") ∈ lw_tbl := tk1 (List.mem_of_getElem? (i := 218) rfl)
theorem w218 : (Jvm.Cond.classLink "Compactforms" (192 : Nat) "java/lang/IndexOutOfBoundsException") ∈ GW := gw_of m218 rfl
theorem m219 : (Jvm.Cond.instantiable "java/lang/IndexOutOfBoundsException" (6 : Nat)) ∈ lw_tbl := tk1 (List.mem_of_getElem? (i := 219) rfl)
theorem w219 : (Jvm.Cond.instantiable "java/lang/IndexOutOfBoundsException" (6 : Nat)) ∈ GW := gw_of m219 rfl
theorem m220 : (Jvm.Cond.castable "java/lang/IndexOutOfBoundsException" "java/lang/IndexOutOfBoundsException") ∈ lw_tbl := tk1 (List.mem_of_getElem? (i := 220) rfl)
theorem m221 : (Jvm.Cond.declares ({ cls := "java/lang/RuntimeException", name := "<init>", desc := "()V" } : Jvm.MethodName)) ∈ lw_tbl := tk1 (List.mem_of_getElem? (i := 221) rfl)
theorem m222 : (Jvm.Cond.declares ({ cls := "java/lang/RuntimeException", name := "<init>", desc := "(Ljava/lang/String;)V" } : Jvm.MethodName)) ∈ lw_tbl := tk1 (List.mem_of_getElem? (i := 222) rfl)
theorem m223 : (Jvm.Cond.declares ({ cls := "java/lang/Exception", name := "<init>", desc := "()V" } : Jvm.MethodName)) ∈ lw_tbl := tk1 (List.mem_of_getElem? (i := 223) rfl)
theorem m224 : (Jvm.Cond.declares ({ cls := "java/lang/Exception", name := "<init>", desc := "(Ljava/lang/String;)V" } : Jvm.MethodName)) ∈ lw_tbl := tk1 (List.mem_of_getElem? (i := 224) rfl)
theorem m225 : (Jvm.Cond.declares ({ cls := "java/lang/Throwable", name := "<init>", desc := "()V" } : Jvm.MethodName)) ∈ lw_tbl := tk1 (List.mem_of_getElem? (i := 225) rfl)
theorem m226 : (Jvm.Cond.declares ({ cls := "java/lang/Throwable", name := "<init>", desc := "(Ljava/lang/String;)V" } : Jvm.MethodName)) ∈ lw_tbl := tk1 (List.mem_of_getElem? (i := 226) rfl)
theorem m227 : (Jvm.Cond.selects "java/lang/IndexOutOfBoundsException" ({ cls := "java/lang/Throwable", name := "fillInStackTrace", desc := "(I)Ljava/lang/Throwable;" } : Jvm.MethodName) ({ cls := "java/lang/Throwable", name := "fillInStackTrace", desc := "(I)Ljava/lang/Throwable;" } : Jvm.MethodName)) ∈ lw_tbl := tk1 (List.mem_of_getElem? (i := 227) rfl)
theorem w227 : (Jvm.Cond.selects "java/lang/IndexOutOfBoundsException" ({ cls := "java/lang/Throwable", name := "fillInStackTrace", desc := "(I)Ljava/lang/Throwable;" } : Jvm.MethodName) ({ cls := "java/lang/Throwable", name := "fillInStackTrace", desc := "(I)Ljava/lang/Throwable;" } : Jvm.MethodName)) ∈ GW := gw_of m227 rfl
theorem m228 : (Jvm.Cond.selects "java/lang/IndexOutOfBoundsException" ({ cls := "java/lang/Throwable", name := "fillInStackTrace", desc := "()Ljava/lang/Throwable;" } : Jvm.MethodName) ({ cls := "java/lang/Throwable", name := "fillInStackTrace", desc := "()Ljava/lang/Throwable;" } : Jvm.MethodName)) ∈ lw_tbl := tk1 (List.mem_of_getElem? (i := 228) rfl)
theorem w228 : (Jvm.Cond.selects "java/lang/IndexOutOfBoundsException" ({ cls := "java/lang/Throwable", name := "fillInStackTrace", desc := "()Ljava/lang/Throwable;" } : Jvm.MethodName) ({ cls := "java/lang/Throwable", name := "fillInStackTrace", desc := "()Ljava/lang/Throwable;" } : Jvm.MethodName)) ∈ GW := gw_of m228 rfl
theorem m229 : (Jvm.Cond.lays "java/lang/IndexOutOfBoundsException" "java/lang/Throwable" "cause" "Ljava/lang/Throwable;") ∈ lw_tbl := tk1 (List.mem_of_getElem? (i := 229) rfl)
theorem w229 : (Jvm.Cond.lays "java/lang/IndexOutOfBoundsException" "java/lang/Throwable" "cause" "Ljava/lang/Throwable;") ∈ GW := gw_of m229 rfl
theorem m230 : (Jvm.Cond.lays "java/lang/Throwable" "java/lang/Throwable" "cause" "Ljava/lang/Throwable;") ∈ lw_tbl := tk1 (List.mem_of_getElem? (i := 230) rfl)
theorem w230 : (Jvm.Cond.lays "java/lang/Throwable" "java/lang/Throwable" "cause" "Ljava/lang/Throwable;") ∈ GW := gw_of m230 rfl
theorem m231 : (Jvm.Cond.lays "java/lang/IndexOutOfBoundsException" "java/lang/Throwable" "stackTrace" "[Ljava/lang/StackTraceElement;") ∈ lw_tbl := tk1 (List.mem_of_getElem? (i := 231) rfl)
theorem w231 : (Jvm.Cond.lays "java/lang/IndexOutOfBoundsException" "java/lang/Throwable" "stackTrace" "[Ljava/lang/StackTraceElement;") ∈ GW := gw_of m231 rfl
theorem m232 : (Jvm.Cond.lays "java/lang/Throwable" "java/lang/Throwable" "stackTrace" "[Ljava/lang/StackTraceElement;") ∈ lw_tbl := tk1 (List.mem_of_getElem? (i := 232) rfl)
theorem w232 : (Jvm.Cond.lays "java/lang/Throwable" "java/lang/Throwable" "stackTrace" "[Ljava/lang/StackTraceElement;") ∈ GW := gw_of m232 rfl
theorem m233 : (Jvm.Cond.lays "java/lang/IndexOutOfBoundsException" "java/lang/Throwable" "suppressedExceptions" "Ljava/util/List;") ∈ lw_tbl := tk1 (List.mem_of_getElem? (i := 233) rfl)
theorem w233 : (Jvm.Cond.lays "java/lang/IndexOutOfBoundsException" "java/lang/Throwable" "suppressedExceptions" "Ljava/util/List;") ∈ GW := gw_of m233 rfl
theorem m234 : (Jvm.Cond.lays "java/lang/Throwable" "java/lang/Throwable" "suppressedExceptions" "Ljava/util/List;") ∈ lw_tbl := tk1 (List.mem_of_getElem? (i := 234) rfl)
theorem w234 : (Jvm.Cond.lays "java/lang/Throwable" "java/lang/Throwable" "suppressedExceptions" "Ljava/util/List;") ∈ GW := gw_of m234 rfl
theorem m235 : (Jvm.Cond.lays "java/lang/IndexOutOfBoundsException" "java/lang/Throwable" "detailMessage" "Ljava/lang/String;") ∈ lw_tbl := tk1 (List.mem_of_getElem? (i := 235) rfl)
theorem w235 : (Jvm.Cond.lays "java/lang/IndexOutOfBoundsException" "java/lang/Throwable" "detailMessage" "Ljava/lang/String;") ∈ GW := gw_of m235 rfl
theorem m236 : (Jvm.Cond.lays "java/lang/Throwable" "java/lang/Throwable" "detailMessage" "Ljava/lang/String;") ∈ lw_tbl := tk1 (List.mem_of_getElem? (i := 236) rfl)
theorem w236 : (Jvm.Cond.lays "java/lang/Throwable" "java/lang/Throwable" "detailMessage" "Ljava/lang/String;") ∈ GW := gw_of m236 rfl
theorem m237 : (Jvm.Cond.lays "java/lang/IndexOutOfBoundsException" "java/lang/Throwable" "backtrace" "Ljava/lang/Object;") ∈ lw_tbl := tk1 (List.mem_of_getElem? (i := 237) rfl)
theorem w237 : (Jvm.Cond.lays "java/lang/IndexOutOfBoundsException" "java/lang/Throwable" "backtrace" "Ljava/lang/Object;") ∈ GW := gw_of m237 rfl
theorem m238 : (Jvm.Cond.lays "java/lang/Throwable" "java/lang/Throwable" "backtrace" "Ljava/lang/Object;") ∈ lw_tbl := tk1 (List.mem_of_getElem? (i := 238) rfl)
theorem w238 : (Jvm.Cond.lays "java/lang/Throwable" "java/lang/Throwable" "backtrace" "Ljava/lang/Object;") ∈ GW := gw_of m238 rfl
theorem m239 : (Jvm.Cond.fieldLink "java/lang/Throwable" (198 : Nat) "java/lang/Throwable" "backtrace" "Ljava/lang/Object;") ∈ lw_tbl := tk1 (List.mem_of_getElem? (i := 239) rfl)
theorem w239 : (Jvm.Cond.fieldLink "java/lang/Throwable" (198 : Nat) "java/lang/Throwable" "backtrace" "Ljava/lang/Object;") ∈ GW := gw_of m239 rfl
theorem m240 : (Jvm.Cond.superclass "java/lang/Throwable" "java/lang/Object") ∈ lw_tbl := tk2 (List.mem_of_getElem? (i := 0) rfl)
theorem w240 : (Jvm.Cond.superclass "java/lang/Throwable" "java/lang/Object") ∈ GW := gw_of m240 rfl
theorem m241 : (Jvm.Cond.instanceMethod ({ cls := "java/lang/Throwable", name := "<init>", desc := "()V" } : Jvm.MethodName)) ∈ lw_tbl := tk2 (List.mem_of_getElem? (i := 1) rfl)
theorem w241 : (Jvm.Cond.instanceMethod ({ cls := "java/lang/Throwable", name := "<init>", desc := "()V" } : Jvm.MethodName)) ∈ GW := gw_of m241 rfl
theorem m242 : (Jvm.Cond.code ({ cls := "java/lang/Throwable", name := "<init>", desc := "()V" } : Jvm.MethodName) prog_19_method_1_code (1 : Nat) (Option.none : Option Jvm.ClassFile.FieldType)) ∈ lw_tbl := tk2 (List.mem_of_getElem? (i := 2) rfl)
theorem w242 : (Jvm.Cond.code ({ cls := "java/lang/Throwable", name := "<init>", desc := "()V" } : Jvm.MethodName) prog_19_method_1_code (1 : Nat) (Option.none : Option Jvm.ClassFile.FieldType)) ∈ GW := gw_of m242 rfl
theorem m243 : (Jvm.Cond.methodLink "java/lang/Throwable" (1 : Nat) ({ cls := "java/lang/Object", name := "<init>", desc := "()V" } : Jvm.MethodName)) ∈ lw_tbl := tk2 (List.mem_of_getElem? (i := 3) rfl)
theorem w243 : (Jvm.Cond.methodLink "java/lang/Throwable" (1 : Nat) ({ cls := "java/lang/Object", name := "<init>", desc := "()V" } : Jvm.MethodName)) ∈ GW := gw_of m243 rfl
theorem m244 : (Jvm.Cond.fieldLink "java/lang/Throwable" (13 : Nat) "java/lang/Throwable" "UNASSIGNED_STACK" "[Ljava/lang/StackTraceElement;") ∈ lw_tbl := tk2 (List.mem_of_getElem? (i := 4) rfl)
theorem w244 : (Jvm.Cond.fieldLink "java/lang/Throwable" (13 : Nat) "java/lang/Throwable" "UNASSIGNED_STACK" "[Ljava/lang/StackTraceElement;") ∈ GW := gw_of m244 rfl
theorem m245 : (Jvm.Cond.laysStatic "java/lang/Throwable" "UNASSIGNED_STACK" "[Ljava/lang/StackTraceElement;") ∈ lw_tbl := tk2 (List.mem_of_getElem? (i := 5) rfl)
theorem m246 : (Jvm.Cond.fieldLink "java/lang/Throwable" (20 : Nat) "java/lang/Throwable" "SUPPRESSED_SENTINEL" "Ljava/util/List;") ∈ lw_tbl := tk2 (List.mem_of_getElem? (i := 6) rfl)
theorem w246 : (Jvm.Cond.fieldLink "java/lang/Throwable" (20 : Nat) "java/lang/Throwable" "SUPPRESSED_SENTINEL" "Ljava/util/List;") ∈ GW := gw_of m246 rfl
theorem m247 : (Jvm.Cond.laysStatic "java/lang/Throwable" "SUPPRESSED_SENTINEL" "Ljava/util/List;") ∈ lw_tbl := tk2 (List.mem_of_getElem? (i := 7) rfl)
theorem m248 : (Jvm.Cond.methodLink "java/lang/Throwable" (27 : Nat) ({ cls := "java/lang/Throwable", name := "fillInStackTrace", desc := "()Ljava/lang/Throwable;" } : Jvm.MethodName)) ∈ lw_tbl := tk2 (List.mem_of_getElem? (i := 8) rfl)
theorem w248 : (Jvm.Cond.methodLink "java/lang/Throwable" (27 : Nat) ({ cls := "java/lang/Throwable", name := "fillInStackTrace", desc := "()Ljava/lang/Throwable;" } : Jvm.MethodName)) ∈ GW := gw_of m248 rfl
theorem m249 : (Jvm.Cond.instanceMethod ({ cls := "java/lang/Throwable", name := "fillInStackTrace", desc := "()Ljava/lang/Throwable;" } : Jvm.MethodName)) ∈ lw_tbl := tk2 (List.mem_of_getElem? (i := 9) rfl)
theorem w249 : (Jvm.Cond.instanceMethod ({ cls := "java/lang/Throwable", name := "fillInStackTrace", desc := "()Ljava/lang/Throwable;" } : Jvm.MethodName)) ∈ GW := gw_of m249 rfl
theorem m250 : (Jvm.Cond.sameMethod "java/lang/Throwable" "java/lang/Throwable" "fillInStackTrace" "()Ljava/lang/Throwable;") ∈ lw_tbl := tk2 (List.mem_of_getElem? (i := 10) rfl)
theorem w250 : (Jvm.Cond.sameMethod "java/lang/Throwable" "java/lang/Throwable" "fillInStackTrace" "()Ljava/lang/Throwable;") ∈ GW := gw_of m250 rfl
theorem m251 : (Jvm.Cond.selects "java/lang/IllegalArgumentException" ({ cls := "java/lang/Throwable", name := "fillInStackTrace", desc := "()Ljava/lang/Throwable;" } : Jvm.MethodName) ({ cls := "java/lang/Throwable", name := "fillInStackTrace", desc := "()Ljava/lang/Throwable;" } : Jvm.MethodName)) ∈ lw_tbl := tk2 (List.mem_of_getElem? (i := 11) rfl)
theorem w251 : (Jvm.Cond.selects "java/lang/IllegalArgumentException" ({ cls := "java/lang/Throwable", name := "fillInStackTrace", desc := "()Ljava/lang/Throwable;" } : Jvm.MethodName) ({ cls := "java/lang/Throwable", name := "fillInStackTrace", desc := "()Ljava/lang/Throwable;" } : Jvm.MethodName)) ∈ GW := gw_of m251 rfl
theorem m252 : (Jvm.Cond.selects "java/lang/IllegalStateException" ({ cls := "java/lang/Throwable", name := "fillInStackTrace", desc := "()Ljava/lang/Throwable;" } : Jvm.MethodName) ({ cls := "java/lang/Throwable", name := "fillInStackTrace", desc := "()Ljava/lang/Throwable;" } : Jvm.MethodName)) ∈ lw_tbl := tk2 (List.mem_of_getElem? (i := 12) rfl)
theorem w252 : (Jvm.Cond.selects "java/lang/IllegalStateException" ({ cls := "java/lang/Throwable", name := "fillInStackTrace", desc := "()Ljava/lang/Throwable;" } : Jvm.MethodName) ({ cls := "java/lang/Throwable", name := "fillInStackTrace", desc := "()Ljava/lang/Throwable;" } : Jvm.MethodName)) ∈ GW := gw_of m252 rfl
theorem m253 : (Jvm.Cond.codeSync ({ cls := "java/lang/Throwable", name := "fillInStackTrace", desc := "()Ljava/lang/Throwable;" } : Jvm.MethodName) prog_19_method_18_code (1 : Nat) (Option.some (Jvm.ClassFile.FieldType.object "java/lang/Throwable"))) ∈ lw_tbl := tk2 (List.mem_of_getElem? (i := 13) rfl)
theorem w253 : (Jvm.Cond.codeSync ({ cls := "java/lang/Throwable", name := "fillInStackTrace", desc := "()Ljava/lang/Throwable;" } : Jvm.MethodName) prog_19_method_18_code (1 : Nat) (Option.some (Jvm.ClassFile.FieldType.object "java/lang/Throwable"))) ∈ GW := gw_of m253 rfl
theorem m254 : (Jvm.Cond.methodLink "java/lang/Throwable" (202 : Nat) ({ cls := "java/lang/Throwable", name := "fillInStackTrace", desc := "(I)Ljava/lang/Throwable;" } : Jvm.MethodName)) ∈ lw_tbl := tk2 (List.mem_of_getElem? (i := 14) rfl)
theorem w254 : (Jvm.Cond.methodLink "java/lang/Throwable" (202 : Nat) ({ cls := "java/lang/Throwable", name := "fillInStackTrace", desc := "(I)Ljava/lang/Throwable;" } : Jvm.MethodName)) ∈ GW := gw_of m254 rfl
theorem m255 : (Jvm.Cond.privateMethod ({ cls := "java/lang/Throwable", name := "fillInStackTrace", desc := "(I)Ljava/lang/Throwable;" } : Jvm.MethodName)) ∈ lw_tbl := tk2 (List.mem_of_getElem? (i := 15) rfl)
theorem m256 : (Jvm.Cond.instanceMethod ({ cls := "java/lang/Throwable", name := "fillInStackTrace", desc := "(I)Ljava/lang/Throwable;" } : Jvm.MethodName)) ∈ lw_tbl := tk2 (List.mem_of_getElem? (i := 16) rfl)
theorem w256 : (Jvm.Cond.instanceMethod ({ cls := "java/lang/Throwable", name := "fillInStackTrace", desc := "(I)Ljava/lang/Throwable;" } : Jvm.MethodName)) ∈ GW := gw_of m256 rfl
theorem m257 : (Jvm.Cond.instantiable "java/lang/Throwable" (6 : Nat)) ∈ lw_tbl := tk2 (List.mem_of_getElem? (i := 17) rfl)
theorem w257 : (Jvm.Cond.instantiable "java/lang/Throwable" (6 : Nat)) ∈ GW := gw_of m257 rfl
theorem m258 : (Jvm.Cond.native ({ cls := "java/lang/Throwable", name := "fillInStackTrace", desc := "(I)Ljava/lang/Throwable;" } : Jvm.MethodName)) ∈ lw_tbl := tk2 (List.mem_of_getElem? (i := 18) rfl)
theorem w258 : (Jvm.Cond.native ({ cls := "java/lang/Throwable", name := "fillInStackTrace", desc := "(I)Ljava/lang/Throwable;" } : Jvm.MethodName)) ∈ GW := gw_of m258 rfl
theorem m259 : (Jvm.Cond.stringRef "Compactforms" (194 : Nat) "no such key") ∈ lw_tbl := tk2 (List.mem_of_getElem? (i := 19) rfl)
theorem m260 : (Jvm.Cond.methodLink "Compactforms" (196 : Nat) ({ cls := "java/lang/IndexOutOfBoundsException", name := "<init>", desc := "(Ljava/lang/String;)V" } : Jvm.MethodName)) ∈ lw_tbl := tk2 (List.mem_of_getElem? (i := 20) rfl)
theorem w260 : (Jvm.Cond.methodLink "Compactforms" (196 : Nat) ({ cls := "java/lang/IndexOutOfBoundsException", name := "<init>", desc := "(Ljava/lang/String;)V" } : Jvm.MethodName)) ∈ GW := gw_of m260 rfl
theorem m261 : (Jvm.Cond.instanceMethod ({ cls := "java/lang/IndexOutOfBoundsException", name := "<init>", desc := "(Ljava/lang/String;)V" } : Jvm.MethodName)) ∈ lw_tbl := tk2 (List.mem_of_getElem? (i := 21) rfl)
theorem w261 : (Jvm.Cond.instanceMethod ({ cls := "java/lang/IndexOutOfBoundsException", name := "<init>", desc := "(Ljava/lang/String;)V" } : Jvm.MethodName)) ∈ GW := gw_of m261 rfl
theorem m262 : (Jvm.Cond.code ({ cls := "java/lang/IndexOutOfBoundsException", name := "<init>", desc := "(Ljava/lang/String;)V" } : Jvm.MethodName) prog_14_method_2_code (2 : Nat) (Option.none : Option Jvm.ClassFile.FieldType)) ∈ lw_tbl := tk2 (List.mem_of_getElem? (i := 22) rfl)
theorem w262 : (Jvm.Cond.code ({ cls := "java/lang/IndexOutOfBoundsException", name := "<init>", desc := "(Ljava/lang/String;)V" } : Jvm.MethodName) prog_14_method_2_code (2 : Nat) (Option.none : Option Jvm.ClassFile.FieldType)) ∈ GW := gw_of m262 rfl
theorem m263 : (Jvm.Cond.methodLink "java/lang/IndexOutOfBoundsException" (7 : Nat) ({ cls := "java/lang/RuntimeException", name := "<init>", desc := "(Ljava/lang/String;)V" } : Jvm.MethodName)) ∈ lw_tbl := tk2 (List.mem_of_getElem? (i := 23) rfl)
theorem w263 : (Jvm.Cond.methodLink "java/lang/IndexOutOfBoundsException" (7 : Nat) ({ cls := "java/lang/RuntimeException", name := "<init>", desc := "(Ljava/lang/String;)V" } : Jvm.MethodName)) ∈ GW := gw_of m263 rfl
theorem m264 : (Jvm.Cond.instanceMethod ({ cls := "java/lang/RuntimeException", name := "<init>", desc := "(Ljava/lang/String;)V" } : Jvm.MethodName)) ∈ lw_tbl := tk2 (List.mem_of_getElem? (i := 24) rfl)
theorem w264 : (Jvm.Cond.instanceMethod ({ cls := "java/lang/RuntimeException", name := "<init>", desc := "(Ljava/lang/String;)V" } : Jvm.MethodName)) ∈ GW := gw_of m264 rfl
theorem m265 : (Jvm.Cond.code ({ cls := "java/lang/RuntimeException", name := "<init>", desc := "(Ljava/lang/String;)V" } : Jvm.MethodName) prog_16_method_2_code (2 : Nat) (Option.none : Option Jvm.ClassFile.FieldType)) ∈ lw_tbl := tk2 (List.mem_of_getElem? (i := 25) rfl)
theorem w265 : (Jvm.Cond.code ({ cls := "java/lang/RuntimeException", name := "<init>", desc := "(Ljava/lang/String;)V" } : Jvm.MethodName) prog_16_method_2_code (2 : Nat) (Option.none : Option Jvm.ClassFile.FieldType)) ∈ GW := gw_of m265 rfl
theorem m266 : (Jvm.Cond.methodLink "java/lang/RuntimeException" (7 : Nat) ({ cls := "java/lang/Exception", name := "<init>", desc := "(Ljava/lang/String;)V" } : Jvm.MethodName)) ∈ lw_tbl := tk2 (List.mem_of_getElem? (i := 26) rfl)
theorem w266 : (Jvm.Cond.methodLink "java/lang/RuntimeException" (7 : Nat) ({ cls := "java/lang/Exception", name := "<init>", desc := "(Ljava/lang/String;)V" } : Jvm.MethodName)) ∈ GW := gw_of m266 rfl
theorem m267 : (Jvm.Cond.instanceMethod ({ cls := "java/lang/Exception", name := "<init>", desc := "(Ljava/lang/String;)V" } : Jvm.MethodName)) ∈ lw_tbl := tk2 (List.mem_of_getElem? (i := 27) rfl)
theorem w267 : (Jvm.Cond.instanceMethod ({ cls := "java/lang/Exception", name := "<init>", desc := "(Ljava/lang/String;)V" } : Jvm.MethodName)) ∈ GW := gw_of m267 rfl
theorem m268 : (Jvm.Cond.code ({ cls := "java/lang/Exception", name := "<init>", desc := "(Ljava/lang/String;)V" } : Jvm.MethodName) prog_11_method_2_code (2 : Nat) (Option.none : Option Jvm.ClassFile.FieldType)) ∈ lw_tbl := tk2 (List.mem_of_getElem? (i := 28) rfl)
theorem w268 : (Jvm.Cond.code ({ cls := "java/lang/Exception", name := "<init>", desc := "(Ljava/lang/String;)V" } : Jvm.MethodName) prog_11_method_2_code (2 : Nat) (Option.none : Option Jvm.ClassFile.FieldType)) ∈ GW := gw_of m268 rfl
theorem m269 : (Jvm.Cond.methodLink "java/lang/Exception" (7 : Nat) ({ cls := "java/lang/Throwable", name := "<init>", desc := "(Ljava/lang/String;)V" } : Jvm.MethodName)) ∈ lw_tbl := tk2 (List.mem_of_getElem? (i := 29) rfl)
theorem w269 : (Jvm.Cond.methodLink "java/lang/Exception" (7 : Nat) ({ cls := "java/lang/Throwable", name := "<init>", desc := "(Ljava/lang/String;)V" } : Jvm.MethodName)) ∈ GW := gw_of m269 rfl
theorem m270 : (Jvm.Cond.instanceMethod ({ cls := "java/lang/Throwable", name := "<init>", desc := "(Ljava/lang/String;)V" } : Jvm.MethodName)) ∈ lw_tbl := tk2 (List.mem_of_getElem? (i := 30) rfl)
theorem w270 : (Jvm.Cond.instanceMethod ({ cls := "java/lang/Throwable", name := "<init>", desc := "(Ljava/lang/String;)V" } : Jvm.MethodName)) ∈ GW := gw_of m270 rfl
theorem m271 : (Jvm.Cond.code ({ cls := "java/lang/Throwable", name := "<init>", desc := "(Ljava/lang/String;)V" } : Jvm.MethodName) prog_19_method_2_code (2 : Nat) (Option.none : Option Jvm.ClassFile.FieldType)) ∈ lw_tbl := tk2 (List.mem_of_getElem? (i := 31) rfl)
theorem w271 : (Jvm.Cond.code ({ cls := "java/lang/Throwable", name := "<init>", desc := "(Ljava/lang/String;)V" } : Jvm.MethodName) prog_19_method_2_code (2 : Nat) (Option.none : Option Jvm.ClassFile.FieldType)) ∈ GW := gw_of m271 rfl
theorem m272 : (Jvm.Cond.fieldLink "java/lang/Throwable" (198 : Nat) "java/lang/Throwable" "backtrace" "Ljava/lang/Object;") ∈ lw_tbl := tk2 (List.mem_of_getElem? (i := 32) rfl)
theorem w272 : (Jvm.Cond.fieldLink "java/lang/Throwable" (198 : Nat) "java/lang/Throwable" "backtrace" "Ljava/lang/Object;") ∈ GW := gw_of m272 rfl
theorem m273 : (Jvm.Cond.fieldLink "java/lang/Throwable" (31 : Nat) "java/lang/Throwable" "detailMessage" "Ljava/lang/String;") ∈ lw_tbl := tk2 (List.mem_of_getElem? (i := 33) rfl)
theorem w273 : (Jvm.Cond.fieldLink "java/lang/Throwable" (31 : Nat) "java/lang/Throwable" "detailMessage" "Ljava/lang/String;") ∈ GW := gw_of m273 rfl
theorem m274 : (Jvm.Cond.fieldLink "java/lang/Throwable" (7 : Nat) "java/lang/Throwable" "cause" "Ljava/lang/Throwable;") ∈ lw_tbl := tk2 (List.mem_of_getElem? (i := 34) rfl)
theorem w274 : (Jvm.Cond.fieldLink "java/lang/Throwable" (7 : Nat) "java/lang/Throwable" "cause" "Ljava/lang/Throwable;") ∈ GW := gw_of m274 rfl
theorem m275 : (Jvm.Cond.fieldLink "java/lang/Throwable" (17 : Nat) "java/lang/Throwable" "stackTrace" "[Ljava/lang/StackTraceElement;") ∈ lw_tbl := tk2 (List.mem_of_getElem? (i := 35) rfl)
theorem w275 : (Jvm.Cond.fieldLink "java/lang/Throwable" (17 : Nat) "java/lang/Throwable" "stackTrace" "[Ljava/lang/StackTraceElement;") ∈ GW := gw_of m275 rfl
theorem m276 : (Jvm.Cond.fieldLink "java/lang/Throwable" (24 : Nat) "java/lang/Throwable" "suppressedExceptions" "Ljava/util/List;") ∈ lw_tbl := tk2 (List.mem_of_getElem? (i := 36) rfl)
theorem w276 : (Jvm.Cond.fieldLink "java/lang/Throwable" (24 : Nat) "java/lang/Throwable" "suppressedExceptions" "Ljava/util/List;") ∈ GW := gw_of m276 rfl
theorem m277 : (Jvm.Cond.soleField "java/lang/Throwable" "backtrace") ∈ lw_tbl := tk2 (List.mem_of_getElem? (i := 37) rfl)
theorem w277 : (Jvm.Cond.soleField "java/lang/Throwable" "backtrace") ∈ GW := gw_of m277 rfl
theorem m278 : (Jvm.Cond.soleField "java/lang/Throwable" "detailMessage") ∈ lw_tbl := tk2 (List.mem_of_getElem? (i := 38) rfl)
theorem w278 : (Jvm.Cond.soleField "java/lang/Throwable" "detailMessage") ∈ GW := gw_of m278 rfl
theorem m279 : (Jvm.Cond.soleField "java/lang/Throwable" "cause") ∈ lw_tbl := tk2 (List.mem_of_getElem? (i := 39) rfl)
theorem w279 : (Jvm.Cond.soleField "java/lang/Throwable" "cause") ∈ GW := gw_of m279 rfl
theorem m280 : (Jvm.Cond.soleField "java/lang/Throwable" "stackTrace") ∈ lw_tbl := tk2 (List.mem_of_getElem? (i := 40) rfl)
theorem w280 : (Jvm.Cond.soleField "java/lang/Throwable" "stackTrace") ∈ GW := gw_of m280 rfl
theorem m281 : (Jvm.Cond.lays "java/lang/IndexOutOfBoundsException" "java/lang/Throwable" "depth" "I") ∈ lw_tbl := tk2 (List.mem_of_getElem? (i := 41) rfl)
theorem w281 : (Jvm.Cond.lays "java/lang/IndexOutOfBoundsException" "java/lang/Throwable" "depth" "I") ∈ GW := gw_of m281 rfl
theorem m282 : (Jvm.Cond.soleField "java/lang/Throwable" "depth") ∈ lw_tbl := tk2 (List.mem_of_getElem? (i := 42) rfl)
theorem w282 : (Jvm.Cond.soleField "java/lang/Throwable" "depth") ∈ GW := gw_of m282 rfl
theorem m283 : (Jvm.Cond.soleField "java/lang/Throwable" "suppressedExceptions") ∈ lw_tbl := tk2 (List.mem_of_getElem? (i := 43) rfl)
theorem w283 : (Jvm.Cond.soleField "java/lang/Throwable" "suppressedExceptions") ∈ GW := gw_of m283 rfl
theorem m284 : (Jvm.Cond.superclass "java/lang/IndexOutOfBoundsException" "java/lang/RuntimeException") ∈ lw_tbl := tk2 (List.mem_of_getElem? (i := 44) rfl)
theorem w284 : (Jvm.Cond.superclass "java/lang/IndexOutOfBoundsException" "java/lang/RuntimeException") ∈ GW := gw_of m284 rfl
theorem m285 : (Jvm.Cond.arrayClass Jvm.ClassFile.FieldType.byte) ∈ lw_tbl := tk2 (List.mem_of_getElem? (i := 45) rfl)
theorem w285 : (Jvm.Cond.arrayClass Jvm.ClassFile.FieldType.byte) ∈ GW := gw_of m285 rfl
theorem m286 : (Jvm.Cond.methodLink "Compactforms" (70 : Nat) ({ cls := "Compactforms", name := "typeNow", desc := "(I)I" } : Jvm.MethodName)) ∈ lw_tbl := tk2 (List.mem_of_getElem? (i := 46) rfl)
theorem w286 : (Jvm.Cond.methodLink "Compactforms" (70 : Nat) ({ cls := "Compactforms", name := "typeNow", desc := "(I)I" } : Jvm.MethodName)) ∈ GW := gw_of m286 rfl
theorem m287 : (Jvm.Cond.privateMethod ({ cls := "Compactforms", name := "typeNow", desc := "(I)I" } : Jvm.MethodName)) ∈ lw_tbl := tk2 (List.mem_of_getElem? (i := 47) rfl)
theorem m288 : (Jvm.Cond.instanceMethod ({ cls := "Compactforms", name := "typeNow", desc := "(I)I" } : Jvm.MethodName)) ∈ lw_tbl := tk2 (List.mem_of_getElem? (i := 48) rfl)
theorem w288 : (Jvm.Cond.instanceMethod ({ cls := "Compactforms", name := "typeNow", desc := "(I)I" } : Jvm.MethodName)) ∈ GW := gw_of m288 rfl
theorem m289 : (Jvm.Cond.code ({ cls := "Compactforms", name := "typeNow", desc := "(I)I" } : Jvm.MethodName) prog_1_method_45_code (2 : Nat) (Option.some Jvm.ClassFile.FieldType.int)) ∈ lw_tbl := tk2 (List.mem_of_getElem? (i := 49) rfl)
theorem w289 : (Jvm.Cond.code ({ cls := "Compactforms", name := "typeNow", desc := "(I)I" } : Jvm.MethodName) prog_1_method_45_code (2 : Nat) (Option.some Jvm.ClassFile.FieldType.int)) ∈ GW := gw_of m289 rfl
theorem m290 : (Jvm.Cond.methodLink "Compactforms" (102 : Nat) ({ cls := "Compactforms", name := "isThere", desc := "(I)Z" } : Jvm.MethodName)) ∈ lw_tbl := tk2 (List.mem_of_getElem? (i := 50) rfl)
theorem w290 : (Jvm.Cond.methodLink "Compactforms" (102 : Nat) ({ cls := "Compactforms", name := "isThere", desc := "(I)Z" } : Jvm.MethodName)) ∈ GW := gw_of m290 rfl
theorem m291 : (Jvm.Cond.privateMethod ({ cls := "Compactforms", name := "isThere", desc := "(I)Z" } : Jvm.MethodName)) ∈ lw_tbl := tk2 (List.mem_of_getElem? (i := 51) rfl)
theorem m292 : (Jvm.Cond.instanceMethod ({ cls := "Compactforms", name := "isThere", desc := "(I)Z" } : Jvm.MethodName)) ∈ lw_tbl := tk2 (List.mem_of_getElem? (i := 52) rfl)
theorem w292 : (Jvm.Cond.instanceMethod ({ cls := "Compactforms", name := "isThere", desc := "(I)Z" } : Jvm.MethodName)) ∈ GW := gw_of m292 rfl
theorem m293 : (Jvm.Cond.code ({ cls := "Compactforms", name := "isThere", desc := "(I)Z" } : Jvm.MethodName) prog_1_method_44_code (2 : Nat) (Option.some Jvm.ClassFile.FieldType.boolean)) ∈ lw_tbl := tk2 (List.mem_of_getElem? (i := 53) rfl)
theorem w293 : (Jvm.Cond.code ({ cls := "Compactforms", name := "isThere", desc := "(I)Z" } : Jvm.MethodName) prog_1_method_44_code (2 : Nat) (Option.some Jvm.ClassFile.FieldType.boolean)) ∈ GW := gw_of m293 rfl
theorem m294 : (Jvm.Cond.methodLink "Compactforms" (119 : Nat) ({ cls := "Compactforms$Value", name := "isThere", desc := "(I)Z" } : Jvm.MethodName)) ∈ lw_tbl := tk2 (List.mem_of_getElem? (i := 54) rfl)
theorem w294 : (Jvm.Cond.methodLink "Compactforms" (119 : Nat) ({ cls := "Compactforms$Value", name := "isThere", desc := "(I)Z" } : Jvm.MethodName)) ∈ GW := gw_of m294 rfl
theorem m295 : (Jvm.Cond.instanceMethod ({ cls := "Compactforms$Value", name := "isThere", desc := "(I)Z" } : Jvm.MethodName)) ∈ lw_tbl := tk2 (List.mem_of_getElem? (i := 55) rfl)
theorem w295 : (Jvm.Cond.instanceMethod ({ cls := "Compactforms$Value", name := "isThere", desc := "(I)Z" } : Jvm.MethodName)) ∈ GW := gw_of m295 rfl
theorem m296 : (Jvm.Cond.selects "Compactforms$Value" ({ cls := "Compactforms$Value", name := "isThere", desc := "(I)Z" } : Jvm.MethodName) ({ cls := "Compactforms$Value", name := "isThere", desc := "(I)Z" } : Jvm.MethodName)) ∈ lw_tbl := tk2 (List.mem_of_getElem? (i := 56) rfl)
theorem w296 : (Jvm.Cond.selects "Compactforms$Value" ({ cls := "Compactforms$Value", name := "isThere", desc := "(I)Z" } : Jvm.MethodName) ({ cls := "Compactforms$Value", name := "isThere", desc := "(I)Z" } : Jvm.MethodName)) ∈ GW := gw_of m296 rfl
theorem m297 : (Jvm.Cond.code ({ cls := "Compactforms$Value", name := "isThere", desc := "(I)Z" } : Jvm.MethodName) prog_8_method_2_code (2 : Nat) (Option.some Jvm.ClassFile.FieldType.boolean)) ∈ lw_tbl := tk2 (List.mem_of_getElem? (i := 57) rfl)
theorem w297 : (Jvm.Cond.code ({ cls := "Compactforms$Value", name := "isThere", desc := "(I)Z" } : Jvm.MethodName) prog_8_method_2_code (2 : Nat) (Option.some Jvm.ClassFile.FieldType.boolean)) ∈ GW := gw_of m297 rfl
theorem m298 : (Jvm.Cond.methodLink "CompactformsLaw" (78 : Nat) ({ cls := "Compactforms", name := "size", desc := "(I)I" } : Jvm.MethodName)) ∈ lw_tbl := tk2 (List.mem_of_getElem? (i := 58) rfl)
theorem w298 : (Jvm.Cond.methodLink "CompactformsLaw" (78 : Nat) ({ cls := "Compactforms", name := "size", desc := "(I)I" } : Jvm.MethodName)) ∈ GW := gw_of m298 rfl
theorem m299 : (Jvm.Cond.instanceMethod ({ cls := "Compactforms", name := "size", desc := "(I)I" } : Jvm.MethodName)) ∈ lw_tbl := tk2 (List.mem_of_getElem? (i := 59) rfl)
theorem w299 : (Jvm.Cond.instanceMethod ({ cls := "Compactforms", name := "size", desc := "(I)I" } : Jvm.MethodName)) ∈ GW := gw_of m299 rfl
theorem m300 : (Jvm.Cond.selects "Compactforms" ({ cls := "Compactforms", name := "size", desc := "(I)I" } : Jvm.MethodName) ({ cls := "Compactforms", name := "size", desc := "(I)I" } : Jvm.MethodName)) ∈ lw_tbl := tk2 (List.mem_of_getElem? (i := 60) rfl)
theorem w300 : (Jvm.Cond.selects "Compactforms" ({ cls := "Compactforms", name := "size", desc := "(I)I" } : Jvm.MethodName) ({ cls := "Compactforms", name := "size", desc := "(I)I" } : Jvm.MethodName)) ∈ GW := gw_of m300 rfl
theorem m301 : (Jvm.Cond.code ({ cls := "Compactforms", name := "size", desc := "(I)I" } : Jvm.MethodName) prog_1_method_24_code (2 : Nat) (Option.some Jvm.ClassFile.FieldType.int)) ∈ lw_tbl := tk2 (List.mem_of_getElem? (i := 61) rfl)
theorem w301 : (Jvm.Cond.code ({ cls := "Compactforms", name := "size", desc := "(I)I" } : Jvm.MethodName) prog_1_method_24_code (2 : Nat) (Option.some Jvm.ClassFile.FieldType.int)) ∈ GW := gw_of m301 rfl
theorem m302 : (Jvm.Cond.methodLink "Compactforms" (142 : Nat) ({ cls := "Compactforms", name := "sizeNow", desc := "(I)I" } : Jvm.MethodName)) ∈ lw_tbl := tk2 (List.mem_of_getElem? (i := 62) rfl)
theorem w302 : (Jvm.Cond.methodLink "Compactforms" (142 : Nat) ({ cls := "Compactforms", name := "sizeNow", desc := "(I)I" } : Jvm.MethodName)) ∈ GW := gw_of m302 rfl
theorem m303 : (Jvm.Cond.privateMethod ({ cls := "Compactforms", name := "sizeNow", desc := "(I)I" } : Jvm.MethodName)) ∈ lw_tbl := tk2 (List.mem_of_getElem? (i := 63) rfl)
theorem m304 : (Jvm.Cond.instanceMethod ({ cls := "Compactforms", name := "sizeNow", desc := "(I)I" } : Jvm.MethodName)) ∈ lw_tbl := tk2 (List.mem_of_getElem? (i := 64) rfl)
theorem w304 : (Jvm.Cond.instanceMethod ({ cls := "Compactforms", name := "sizeNow", desc := "(I)I" } : Jvm.MethodName)) ∈ GW := gw_of m304 rfl
theorem m305 : (Jvm.Cond.code ({ cls := "Compactforms", name := "sizeNow", desc := "(I)I" } : Jvm.MethodName) prog_1_method_46_code (2 : Nat) (Option.some Jvm.ClassFile.FieldType.int)) ∈ lw_tbl := tk2 (List.mem_of_getElem? (i := 65) rfl)
theorem w305 : (Jvm.Cond.code ({ cls := "Compactforms", name := "sizeNow", desc := "(I)I" } : Jvm.MethodName) prog_1_method_46_code (2 : Nat) (Option.some Jvm.ClassFile.FieldType.int)) ∈ GW := gw_of m305 rfl
theorem m306 : (Jvm.Cond.methodLink "Compactforms" (217 : Nat) ({ cls := "Compactforms$Value", name := "count", desc := "()I" } : Jvm.MethodName)) ∈ lw_tbl := tk2 (List.mem_of_getElem? (i := 66) rfl)
theorem w306 : (Jvm.Cond.methodLink "Compactforms" (217 : Nat) ({ cls := "Compactforms$Value", name := "count", desc := "()I" } : Jvm.MethodName)) ∈ GW := gw_of m306 rfl
theorem m307 : (Jvm.Cond.instanceMethod ({ cls := "Compactforms$Value", name := "count", desc := "()I" } : Jvm.MethodName)) ∈ lw_tbl := tk2 (List.mem_of_getElem? (i := 67) rfl)
theorem w307 : (Jvm.Cond.instanceMethod ({ cls := "Compactforms$Value", name := "count", desc := "()I" } : Jvm.MethodName)) ∈ GW := gw_of m307 rfl
theorem m308 : (Jvm.Cond.selects "Compactforms$Value" ({ cls := "Compactforms$Value", name := "count", desc := "()I" } : Jvm.MethodName) ({ cls := "Compactforms$Value", name := "count", desc := "()I" } : Jvm.MethodName)) ∈ lw_tbl := tk2 (List.mem_of_getElem? (i := 68) rfl)
theorem w308 : (Jvm.Cond.selects "Compactforms$Value" ({ cls := "Compactforms$Value", name := "count", desc := "()I" } : Jvm.MethodName) ({ cls := "Compactforms$Value", name := "count", desc := "()I" } : Jvm.MethodName)) ∈ GW := gw_of m308 rfl
theorem m309 : (Jvm.Cond.code ({ cls := "Compactforms$Value", name := "count", desc := "()I" } : Jvm.MethodName) prog_8_method_4_code (1 : Nat) (Option.some Jvm.ClassFile.FieldType.int)) ∈ lw_tbl := tk2 (List.mem_of_getElem? (i := 69) rfl)
theorem w309 : (Jvm.Cond.code ({ cls := "Compactforms$Value", name := "count", desc := "()I" } : Jvm.MethodName) prog_8_method_4_code (1 : Nat) (Option.some Jvm.ClassFile.FieldType.int)) ∈ GW := gw_of m309 rfl
theorem m310 : (Jvm.Cond.methodLink "CompactformsLaw" (90 : Nat) ({ cls := "Compactforms", name := "indexOf", desc := "(II)I" } : Jvm.MethodName)) ∈ lw_tbl := tk2 (List.mem_of_getElem? (i := 70) rfl)
theorem w310 : (Jvm.Cond.methodLink "CompactformsLaw" (90 : Nat) ({ cls := "Compactforms", name := "indexOf", desc := "(II)I" } : Jvm.MethodName)) ∈ GW := gw_of m310 rfl
theorem m311 : (Jvm.Cond.instanceMethod ({ cls := "Compactforms", name := "indexOf", desc := "(II)I" } : Jvm.MethodName)) ∈ lw_tbl := tk2 (List.mem_of_getElem? (i := 71) rfl)
theorem w311 : (Jvm.Cond.instanceMethod ({ cls := "Compactforms", name := "indexOf", desc := "(II)I" } : Jvm.MethodName)) ∈ GW := gw_of m311 rfl
theorem m312 : (Jvm.Cond.selects "Compactforms" ({ cls := "Compactforms", name := "indexOf", desc := "(II)I" } : Jvm.MethodName) ({ cls := "Compactforms", name := "indexOf", desc := "(II)I" } : Jvm.MethodName)) ∈ lw_tbl := tk2 (List.mem_of_getElem? (i := 72) rfl)
theorem w312 : (Jvm.Cond.selects "Compactforms" ({ cls := "Compactforms", name := "indexOf", desc := "(II)I" } : Jvm.MethodName) ({ cls := "Compactforms", name := "indexOf", desc := "(II)I" } : Jvm.MethodName)) ∈ GW := gw_of m312 rfl
theorem m313 : (Jvm.Cond.code ({ cls := "Compactforms", name := "indexOf", desc := "(II)I" } : Jvm.MethodName) prog_1_method_27_code (3 : Nat) (Option.some Jvm.ClassFile.FieldType.int)) ∈ lw_tbl := tk2 (List.mem_of_getElem? (i := 73) rfl)
theorem w313 : (Jvm.Cond.code ({ cls := "Compactforms", name := "indexOf", desc := "(II)I" } : Jvm.MethodName) prog_1_method_27_code (3 : Nat) (Option.some Jvm.ClassFile.FieldType.int)) ∈ GW := gw_of m313 rfl
theorem m314 : (Jvm.Cond.methodLink "Compactforms" (46 : Nat) ({ cls := "Compactforms", name := "needValue", desc := "(I)V" } : Jvm.MethodName)) ∈ lw_tbl := tk2 (List.mem_of_getElem? (i := 74) rfl)
theorem w314 : (Jvm.Cond.methodLink "Compactforms" (46 : Nat) ({ cls := "Compactforms", name := "needValue", desc := "(I)V" } : Jvm.MethodName)) ∈ GW := gw_of m314 rfl
theorem m315 : (Jvm.Cond.static ({ cls := "Compactforms", name := "needValue", desc := "(I)V" } : Jvm.MethodName)) ∈ lw_tbl := tk2 (List.mem_of_getElem? (i := 75) rfl)
theorem w315 : (Jvm.Cond.static ({ cls := "Compactforms", name := "needValue", desc := "(I)V" } : Jvm.MethodName)) ∈ GW := gw_of m315 rfl
theorem m316 : (Jvm.Cond.code ({ cls := "Compactforms", name := "needValue", desc := "(I)V" } : Jvm.MethodName) prog_1_method_38_code (1 : Nat) (Option.none : Option Jvm.ClassFile.FieldType)) ∈ lw_tbl := tk2 (List.mem_of_getElem? (i := 76) rfl)
theorem w316 : (Jvm.Cond.code ({ cls := "Compactforms", name := "needValue", desc := "(I)V" } : Jvm.MethodName) prog_1_method_38_code (1 : Nat) (Option.none : Option Jvm.ClassFile.FieldType)) ∈ GW := gw_of m316 rfl
theorem m317 : (Jvm.Cond.methodLink "Compactforms" (89 : Nat) ({ cls := "Compactforms", name := "needWithin", desc := "(III)V" } : Jvm.MethodName)) ∈ lw_tbl := tk2 (List.mem_of_getElem? (i := 77) rfl)
theorem w317 : (Jvm.Cond.methodLink "Compactforms" (89 : Nat) ({ cls := "Compactforms", name := "needWithin", desc := "(III)V" } : Jvm.MethodName)) ∈ GW := gw_of m317 rfl
theorem m318 : (Jvm.Cond.static ({ cls := "Compactforms", name := "needWithin", desc := "(III)V" } : Jvm.MethodName)) ∈ lw_tbl := tk2 (List.mem_of_getElem? (i := 78) rfl)
theorem w318 : (Jvm.Cond.static ({ cls := "Compactforms", name := "needWithin", desc := "(III)V" } : Jvm.MethodName)) ∈ GW := gw_of m318 rfl
theorem m319 : (Jvm.Cond.code ({ cls := "Compactforms", name := "needWithin", desc := "(III)V" } : Jvm.MethodName) prog_1_method_39_code (3 : Nat) (Option.none : Option Jvm.ClassFile.FieldType)) ∈ lw_tbl := tk2 (List.mem_of_getElem? (i := 79) rfl)
theorem w319 : (Jvm.Cond.code ({ cls := "Compactforms", name := "needWithin", desc := "(III)V" } : Jvm.MethodName) prog_1_method_39_code (3 : Nat) (Option.none : Option Jvm.ClassFile.FieldType)) ∈ GW := gw_of m319 rfl
theorem m320 : (Jvm.Cond.classLink "Compactforms" (76 : Nat) "java/lang/IllegalArgumentException") ∈ lw_tbl := tk2 (List.mem_of_getElem? (i := 80) rfl)
theorem w320 : (Jvm.Cond.classLink "Compactforms" (76 : Nat) "java/lang/IllegalArgumentException") ∈ GW := gw_of m320 rfl
theorem m321 : (Jvm.Cond.instantiable "java/lang/IllegalArgumentException" (6 : Nat)) ∈ lw_tbl := tk2 (List.mem_of_getElem? (i := 81) rfl)
theorem w321 : (Jvm.Cond.instantiable "java/lang/IllegalArgumentException" (6 : Nat)) ∈ GW := gw_of m321 rfl
theorem m322 : (Jvm.Cond.castable "java/lang/IllegalArgumentException" "java/lang/IllegalArgumentException") ∈ lw_tbl := tk2 (List.mem_of_getElem? (i := 82) rfl)
theorem m323 : (Jvm.Cond.selects "java/lang/IllegalArgumentException" ({ cls := "java/lang/Throwable", name := "fillInStackTrace", desc := "(I)Ljava/lang/Throwable;" } : Jvm.MethodName) ({ cls := "java/lang/Throwable", name := "fillInStackTrace", desc := "(I)Ljava/lang/Throwable;" } : Jvm.MethodName)) ∈ lw_tbl := tk2 (List.mem_of_getElem? (i := 83) rfl)
theorem w323 : (Jvm.Cond.selects "java/lang/IllegalArgumentException" ({ cls := "java/lang/Throwable", name := "fillInStackTrace", desc := "(I)Ljava/lang/Throwable;" } : Jvm.MethodName) ({ cls := "java/lang/Throwable", name := "fillInStackTrace", desc := "(I)Ljava/lang/Throwable;" } : Jvm.MethodName)) ∈ GW := gw_of m323 rfl
theorem m324 : (Jvm.Cond.lays "java/lang/IllegalArgumentException" "java/lang/Throwable" "cause" "Ljava/lang/Throwable;") ∈ lw_tbl := tk2 (List.mem_of_getElem? (i := 84) rfl)
theorem w324 : (Jvm.Cond.lays "java/lang/IllegalArgumentException" "java/lang/Throwable" "cause" "Ljava/lang/Throwable;") ∈ GW := gw_of m324 rfl
theorem m325 : (Jvm.Cond.lays "java/lang/IllegalArgumentException" "java/lang/Throwable" "stackTrace" "[Ljava/lang/StackTraceElement;") ∈ lw_tbl := tk2 (List.mem_of_getElem? (i := 85) rfl)
theorem w325 : (Jvm.Cond.lays "java/lang/IllegalArgumentException" "java/lang/Throwable" "stackTrace" "[Ljava/lang/StackTraceElement;") ∈ GW := gw_of m325 rfl
theorem m326 : (Jvm.Cond.lays "java/lang/IllegalArgumentException" "java/lang/Throwable" "suppressedExceptions" "Ljava/util/List;") ∈ lw_tbl := tk2 (List.mem_of_getElem? (i := 86) rfl)
theorem w326 : (Jvm.Cond.lays "java/lang/IllegalArgumentException" "java/lang/Throwable" "suppressedExceptions" "Ljava/util/List;") ∈ GW := gw_of m326 rfl
theorem m327 : (Jvm.Cond.lays "java/lang/IllegalArgumentException" "java/lang/Throwable" "detailMessage" "Ljava/lang/String;") ∈ lw_tbl := tk2 (List.mem_of_getElem? (i := 87) rfl)
theorem w327 : (Jvm.Cond.lays "java/lang/IllegalArgumentException" "java/lang/Throwable" "detailMessage" "Ljava/lang/String;") ∈ GW := gw_of m327 rfl
theorem m328 : (Jvm.Cond.lays "java/lang/IllegalArgumentException" "java/lang/Throwable" "backtrace" "Ljava/lang/Object;") ∈ lw_tbl := tk2 (List.mem_of_getElem? (i := 88) rfl)
theorem w328 : (Jvm.Cond.lays "java/lang/IllegalArgumentException" "java/lang/Throwable" "backtrace" "Ljava/lang/Object;") ∈ GW := gw_of m328 rfl
theorem m329 : (Jvm.Cond.stringRef "Compactforms" (206 : Nat) "out of range") ∈ lw_tbl := tk2 (List.mem_of_getElem? (i := 89) rfl)
theorem m330 : (Jvm.Cond.methodLink "Compactforms" (80 : Nat) ({ cls := "java/lang/IllegalArgumentException", name := "<init>", desc := "(Ljava/lang/String;)V" } : Jvm.MethodName)) ∈ lw_tbl := tk2 (List.mem_of_getElem? (i := 90) rfl)
theorem w330 : (Jvm.Cond.methodLink "Compactforms" (80 : Nat) ({ cls := "java/lang/IllegalArgumentException", name := "<init>", desc := "(Ljava/lang/String;)V" } : Jvm.MethodName)) ∈ GW := gw_of m330 rfl
theorem m331 : (Jvm.Cond.instanceMethod ({ cls := "java/lang/IllegalArgumentException", name := "<init>", desc := "(Ljava/lang/String;)V" } : Jvm.MethodName)) ∈ lw_tbl := tk2 (List.mem_of_getElem? (i := 91) rfl)
theorem w331 : (Jvm.Cond.instanceMethod ({ cls := "java/lang/IllegalArgumentException", name := "<init>", desc := "(Ljava/lang/String;)V" } : Jvm.MethodName)) ∈ GW := gw_of m331 rfl
theorem m332 : (Jvm.Cond.code ({ cls := "java/lang/IllegalArgumentException", name := "<init>", desc := "(Ljava/lang/String;)V" } : Jvm.MethodName) prog_12_method_2_code (2 : Nat) (Option.none : Option Jvm.ClassFile.FieldType)) ∈ lw_tbl := tk2 (List.mem_of_getElem? (i := 92) rfl)
theorem w332 : (Jvm.Cond.code ({ cls := "java/lang/IllegalArgumentException", name := "<init>", desc := "(Ljava/lang/String;)V" } : Jvm.MethodName) prog_12_method_2_code (2 : Nat) (Option.none : Option Jvm.ClassFile.FieldType)) ∈ GW := gw_of m332 rfl
theorem m333 : (Jvm.Cond.methodLink "java/lang/IllegalArgumentException" (7 : Nat) ({ cls := "java/lang/RuntimeException", name := "<init>", desc := "(Ljava/lang/String;)V" } : Jvm.MethodName)) ∈ lw_tbl := tk2 (List.mem_of_getElem? (i := 93) rfl)
theorem w333 : (Jvm.Cond.methodLink "java/lang/IllegalArgumentException" (7 : Nat) ({ cls := "java/lang/RuntimeException", name := "<init>", desc := "(Ljava/lang/String;)V" } : Jvm.MethodName)) ∈ GW := gw_of m333 rfl
theorem m334 : (Jvm.Cond.lays "java/lang/IllegalArgumentException" "java/lang/Throwable" "depth" "I") ∈ lw_tbl := tk2 (List.mem_of_getElem? (i := 94) rfl)
theorem w334 : (Jvm.Cond.lays "java/lang/IllegalArgumentException" "java/lang/Throwable" "depth" "I") ∈ GW := gw_of m334 rfl
theorem m335 : (Jvm.Cond.superclass "java/lang/IllegalArgumentException" "java/lang/RuntimeException") ∈ lw_tbl := tk2 (List.mem_of_getElem? (i := 95) rfl)
theorem w335 : (Jvm.Cond.superclass "java/lang/IllegalArgumentException" "java/lang/RuntimeException") ∈ GW := gw_of m335 rfl
theorem m336 : (Jvm.Cond.methodLink "Compactforms" (66 : Nat) ({ cls := "Compactforms", name := "placeIn", desc := "(II)I" } : Jvm.MethodName)) ∈ lw_tbl := tk2 (List.mem_of_getElem? (i := 96) rfl)
theorem w336 : (Jvm.Cond.methodLink "Compactforms" (66 : Nat) ({ cls := "Compactforms", name := "placeIn", desc := "(II)I" } : Jvm.MethodName)) ∈ GW := gw_of m336 rfl
theorem m337 : (Jvm.Cond.privateMethod ({ cls := "Compactforms", name := "placeIn", desc := "(II)I" } : Jvm.MethodName)) ∈ lw_tbl := tk2 (List.mem_of_getElem? (i := 97) rfl)
theorem m338 : (Jvm.Cond.instanceMethod ({ cls := "Compactforms", name := "placeIn", desc := "(II)I" } : Jvm.MethodName)) ∈ lw_tbl := tk2 (List.mem_of_getElem? (i := 98) rfl)
theorem w338 : (Jvm.Cond.instanceMethod ({ cls := "Compactforms", name := "placeIn", desc := "(II)I" } : Jvm.MethodName)) ∈ GW := gw_of m338 rfl
theorem m339 : (Jvm.Cond.code ({ cls := "Compactforms", name := "placeIn", desc := "(II)I" } : Jvm.MethodName) prog_1_method_47_code (3 : Nat) (Option.some Jvm.ClassFile.FieldType.int)) ∈ lw_tbl := tk2 (List.mem_of_getElem? (i := 99) rfl)
theorem w339 : (Jvm.Cond.code ({ cls := "Compactforms", name := "placeIn", desc := "(II)I" } : Jvm.MethodName) prog_1_method_47_code (3 : Nat) (Option.some Jvm.ClassFile.FieldType.int)) ∈ GW := gw_of m339 rfl
theorem m340 : (Jvm.Cond.methodLink "Compactforms" (220 : Nat) ({ cls := "Compactforms$Form", name := "placeOf", desc := "(I)I" } : Jvm.MethodName)) ∈ lw_tbl := tk2 (List.mem_of_getElem? (i := 100) rfl)
theorem w340 : (Jvm.Cond.methodLink "Compactforms" (220 : Nat) ({ cls := "Compactforms$Form", name := "placeOf", desc := "(I)I" } : Jvm.MethodName)) ∈ GW := gw_of m340 rfl
theorem m341 : (Jvm.Cond.declares ({ cls := "Compactforms$Form", name := "placeOf", desc := "(I)I" } : Jvm.MethodName)) ∈ lw_tbl := tk2 (List.mem_of_getElem? (i := 101) rfl)
theorem m342 : (Jvm.Cond.sameMethod "Compactforms$Form" "Compactforms$Form" "placeOf" "(I)I") ∈ lw_tbl := tk2 (List.mem_of_getElem? (i := 102) rfl)
theorem w342 : (Jvm.Cond.sameMethod "Compactforms$Form" "Compactforms$Form" "placeOf" "(I)I") ∈ GW := gw_of m342 rfl
theorem m343 : (Jvm.Cond.selects "Compactforms$Chain" ({ cls := "Compactforms$Form", name := "placeOf", desc := "(I)I" } : Jvm.MethodName) ({ cls := "Compactforms$Chain", name := "placeOf", desc := "(I)I" } : Jvm.MethodName)) ∈ lw_tbl := tk2 (List.mem_of_getElem? (i := 103) rfl)
theorem w343 : (Jvm.Cond.selects "Compactforms$Chain" ({ cls := "Compactforms$Form", name := "placeOf", desc := "(I)I" } : Jvm.MethodName) ({ cls := "Compactforms$Chain", name := "placeOf", desc := "(I)I" } : Jvm.MethodName)) ∈ GW := gw_of m343 rfl
theorem m344 : (Jvm.Cond.instanceMethod ({ cls := "Compactforms$Chain", name := "placeOf", desc := "(I)I" } : Jvm.MethodName)) ∈ lw_tbl := tk2 (List.mem_of_getElem? (i := 104) rfl)
theorem w344 : (Jvm.Cond.instanceMethod ({ cls := "Compactforms$Chain", name := "placeOf", desc := "(I)I" } : Jvm.MethodName)) ∈ GW := gw_of m344 rfl
theorem m345 : (Jvm.Cond.code ({ cls := "Compactforms$Chain", name := "placeOf", desc := "(I)I" } : Jvm.MethodName) prog_2_method_6_code (4 : Nat) (Option.some Jvm.ClassFile.FieldType.int)) ∈ lw_tbl := tk2 (List.mem_of_getElem? (i := 105) rfl)
theorem w345 : (Jvm.Cond.code ({ cls := "Compactforms$Chain", name := "placeOf", desc := "(I)I" } : Jvm.MethodName) prog_2_method_6_code (4 : Nat) (Option.some Jvm.ClassFile.FieldType.int)) ∈ GW := gw_of m345 rfl
theorem m346 : (Jvm.Cond.selects "Compactforms$Row" ({ cls := "Compactforms$Form", name := "placeOf", desc := "(I)I" } : Jvm.MethodName) ({ cls := "Compactforms$Row", name := "placeOf", desc := "(I)I" } : Jvm.MethodName)) ∈ lw_tbl := tk2 (List.mem_of_getElem? (i := 106) rfl)
theorem w346 : (Jvm.Cond.selects "Compactforms$Row" ({ cls := "Compactforms$Form", name := "placeOf", desc := "(I)I" } : Jvm.MethodName) ({ cls := "Compactforms$Row", name := "placeOf", desc := "(I)I" } : Jvm.MethodName)) ∈ GW := gw_of m346 rfl
theorem m347 : (Jvm.Cond.instanceMethod ({ cls := "Compactforms$Row", name := "placeOf", desc := "(I)I" } : Jvm.MethodName)) ∈ lw_tbl := tk2 (List.mem_of_getElem? (i := 107) rfl)
theorem w347 : (Jvm.Cond.instanceMethod ({ cls := "Compactforms$Row", name := "placeOf", desc := "(I)I" } : Jvm.MethodName)) ∈ GW := gw_of m347 rfl
theorem m348 : (Jvm.Cond.code ({ cls := "Compactforms$Row", name := "placeOf", desc := "(I)I" } : Jvm.MethodName) prog_6_method_5_code (3 : Nat) (Option.some Jvm.ClassFile.FieldType.int)) ∈ lw_tbl := tk2 (List.mem_of_getElem? (i := 108) rfl)
theorem w348 : (Jvm.Cond.code ({ cls := "Compactforms$Row", name := "placeOf", desc := "(I)I" } : Jvm.MethodName) prog_6_method_5_code (3 : Nat) (Option.some Jvm.ClassFile.FieldType.int)) ∈ GW := gw_of m348 rfl
theorem m349 : (Jvm.Cond.selects "Compactforms$Table" ({ cls := "Compactforms$Form", name := "placeOf", desc := "(I)I" } : Jvm.MethodName) ({ cls := "Compactforms$Table", name := "placeOf", desc := "(I)I" } : Jvm.MethodName)) ∈ lw_tbl := tk2 (List.mem_of_getElem? (i := 109) rfl)
theorem w349 : (Jvm.Cond.selects "Compactforms$Table" ({ cls := "Compactforms$Form", name := "placeOf", desc := "(I)I" } : Jvm.MethodName) ({ cls := "Compactforms$Table", name := "placeOf", desc := "(I)I" } : Jvm.MethodName)) ∈ GW := gw_of m349 rfl
theorem m350 : (Jvm.Cond.instanceMethod ({ cls := "Compactforms$Table", name := "placeOf", desc := "(I)I" } : Jvm.MethodName)) ∈ lw_tbl := tk2 (List.mem_of_getElem? (i := 110) rfl)
theorem w350 : (Jvm.Cond.instanceMethod ({ cls := "Compactforms$Table", name := "placeOf", desc := "(I)I" } : Jvm.MethodName)) ∈ GW := gw_of m350 rfl
theorem m351 : (Jvm.Cond.code ({ cls := "Compactforms$Table", name := "placeOf", desc := "(I)I" } : Jvm.MethodName) prog_7_method_7_code (4 : Nat) (Option.some Jvm.ClassFile.FieldType.int)) ∈ lw_tbl := tk2 (List.mem_of_getElem? (i := 111) rfl)
theorem w351 : (Jvm.Cond.code ({ cls := "Compactforms$Table", name := "placeOf", desc := "(I)I" } : Jvm.MethodName) prog_7_method_7_code (4 : Nat) (Option.some Jvm.ClassFile.FieldType.int)) ∈ GW := gw_of m351 rfl
theorem m352 : (Jvm.Cond.methodLink "Compactforms$Table" (38 : Nat) ({ cls := "Compactforms$Table", name := "bucketOf", desc := "(I)I" } : Jvm.MethodName)) ∈ lw_tbl := tk2 (List.mem_of_getElem? (i := 112) rfl)
theorem w352 : (Jvm.Cond.methodLink "Compactforms$Table" (38 : Nat) ({ cls := "Compactforms$Table", name := "bucketOf", desc := "(I)I" } : Jvm.MethodName)) ∈ GW := gw_of m352 rfl
theorem m353 : (Jvm.Cond.privateMethod ({ cls := "Compactforms$Table", name := "bucketOf", desc := "(I)I" } : Jvm.MethodName)) ∈ lw_tbl := tk2 (List.mem_of_getElem? (i := 113) rfl)
theorem m354 : (Jvm.Cond.instanceMethod ({ cls := "Compactforms$Table", name := "bucketOf", desc := "(I)I" } : Jvm.MethodName)) ∈ lw_tbl := tk2 (List.mem_of_getElem? (i := 114) rfl)
theorem w354 : (Jvm.Cond.instanceMethod ({ cls := "Compactforms$Table", name := "bucketOf", desc := "(I)I" } : Jvm.MethodName)) ∈ GW := gw_of m354 rfl
theorem m355 : (Jvm.Cond.code ({ cls := "Compactforms$Table", name := "bucketOf", desc := "(I)I" } : Jvm.MethodName) prog_7_method_3_code (2 : Nat) (Option.some Jvm.ClassFile.FieldType.int)) ∈ lw_tbl := tk2 (List.mem_of_getElem? (i := 115) rfl)
theorem w355 : (Jvm.Cond.code ({ cls := "Compactforms$Table", name := "bucketOf", desc := "(I)I" } : Jvm.MethodName) prog_7_method_3_code (2 : Nat) (Option.some Jvm.ClassFile.FieldType.int)) ∈ GW := gw_of m355 rfl
theorem m356 : (Jvm.Cond.methodLink "Compactforms$Table" (41 : Nat) ({ cls := "Compactforms$Table", name := "countBelow", desc := "(I)I" } : Jvm.MethodName)) ∈ lw_tbl := tk2 (List.mem_of_getElem? (i := 116) rfl)
theorem w356 : (Jvm.Cond.methodLink "Compactforms$Table" (41 : Nat) ({ cls := "Compactforms$Table", name := "countBelow", desc := "(I)I" } : Jvm.MethodName)) ∈ GW := gw_of m356 rfl
theorem m357 : (Jvm.Cond.privateMethod ({ cls := "Compactforms$Table", name := "countBelow", desc := "(I)I" } : Jvm.MethodName)) ∈ lw_tbl := tk2 (List.mem_of_getElem? (i := 117) rfl)
theorem m358 : (Jvm.Cond.instanceMethod ({ cls := "Compactforms$Table", name := "countBelow", desc := "(I)I" } : Jvm.MethodName)) ∈ lw_tbl := tk2 (List.mem_of_getElem? (i := 118) rfl)
theorem w358 : (Jvm.Cond.instanceMethod ({ cls := "Compactforms$Table", name := "countBelow", desc := "(I)I" } : Jvm.MethodName)) ∈ GW := gw_of m358 rfl
theorem m359 : (Jvm.Cond.code ({ cls := "Compactforms$Table", name := "countBelow", desc := "(I)I" } : Jvm.MethodName) prog_7_method_8_code (4 : Nat) (Option.some Jvm.ClassFile.FieldType.int)) ∈ lw_tbl := tk2 (List.mem_of_getElem? (i := 119) rfl)
theorem w359 : (Jvm.Cond.code ({ cls := "Compactforms$Table", name := "countBelow", desc := "(I)I" } : Jvm.MethodName) prog_7_method_8_code (4 : Nat) (Option.some Jvm.ClassFile.FieldType.int)) ∈ GW := gw_of m359 rfl
theorem m360 : (Jvm.Cond.methodLink "CompactformsLaw" (84 : Nat) ({ cls := "CompactformsLaw", name := "asks", desc := "(LCompactforms;IIIII)I" } : Jvm.MethodName)) ∈ lw_tbl := tk2 (List.mem_of_getElem? (i := 120) rfl)
theorem w360 : (Jvm.Cond.methodLink "CompactformsLaw" (84 : Nat) ({ cls := "CompactformsLaw", name := "asks", desc := "(LCompactforms;IIIII)I" } : Jvm.MethodName)) ∈ GW := gw_of m360 rfl
theorem m361 : (Jvm.Cond.static ({ cls := "CompactformsLaw", name := "asks", desc := "(LCompactforms;IIIII)I" } : Jvm.MethodName)) ∈ lw_tbl := tk2 (List.mem_of_getElem? (i := 121) rfl)
theorem w361 : (Jvm.Cond.static ({ cls := "CompactformsLaw", name := "asks", desc := "(LCompactforms;IIIII)I" } : Jvm.MethodName)) ∈ GW := gw_of m361 rfl
theorem m362 : (Jvm.Cond.codeWith ({ cls := "CompactformsLaw", name := "asks", desc := "(LCompactforms;IIIII)I" } : Jvm.MethodName) method_3_code (7 : Nat) (Option.some Jvm.ClassFile.FieldType.int) [((0 : Nat), (277 : Nat), (278 : Nat), (66 : Nat)), ((0 : Nat), (277 : Nat), (283 : Nat), (68 : Nat))]) ∈ lw_tbl := tk2 (List.mem_of_getElem? (i := 122) rfl)
theorem w362 : (Jvm.Cond.codeWith ({ cls := "CompactformsLaw", name := "asks", desc := "(LCompactforms;IIIII)I" } : Jvm.MethodName) method_3_code (7 : Nat) (Option.some Jvm.ClassFile.FieldType.int) [((0 : Nat), (277 : Nat), (278 : Nat), (66 : Nat)), ((0 : Nat), (277 : Nat), (283 : Nat), (68 : Nat))]) ∈ GW := gw_of m362 rfl
theorem m363 : (Jvm.Cond.classLink "CompactformsLaw" (66 : Nat) "java/lang/IndexOutOfBoundsException") ∈ lw_tbl := tk2 (List.mem_of_getElem? (i := 123) rfl)
theorem w363 : (Jvm.Cond.classLink "CompactformsLaw" (66 : Nat) "java/lang/IndexOutOfBoundsException") ∈ GW := gw_of m363 rfl
theorem m364 : (Jvm.Cond.classLink "CompactformsLaw" (68 : Nat) "java/lang/IllegalStateException") ∈ lw_tbl := tk2 (List.mem_of_getElem? (i := 124) rfl)
theorem w364 : (Jvm.Cond.classLink "CompactformsLaw" (68 : Nat) "java/lang/IllegalStateException") ∈ GW := gw_of m364 rfl
theorem m365 : (Jvm.Cond.methodLink "CompactformsLaw" (10 : Nat) ({ cls := "Compactforms", name := "push", desc := "(IIZ)I" } : Jvm.MethodName)) ∈ lw_tbl := tk2 (List.mem_of_getElem? (i := 125) rfl)
theorem w365 : (Jvm.Cond.methodLink "CompactformsLaw" (10 : Nat) ({ cls := "Compactforms", name := "push", desc := "(IIZ)I" } : Jvm.MethodName)) ∈ GW := gw_of m365 rfl
theorem m366 : (Jvm.Cond.instanceMethod ({ cls := "Compactforms", name := "push", desc := "(IIZ)I" } : Jvm.MethodName)) ∈ lw_tbl := tk2 (List.mem_of_getElem? (i := 126) rfl)
theorem w366 : (Jvm.Cond.instanceMethod ({ cls := "Compactforms", name := "push", desc := "(IIZ)I" } : Jvm.MethodName)) ∈ GW := gw_of m366 rfl
theorem m367 : (Jvm.Cond.selects "Compactforms" ({ cls := "Compactforms", name := "push", desc := "(IIZ)I" } : Jvm.MethodName) ({ cls := "Compactforms", name := "push", desc := "(IIZ)I" } : Jvm.MethodName)) ∈ lw_tbl := tk2 (List.mem_of_getElem? (i := 127) rfl)
theorem w367 : (Jvm.Cond.selects "Compactforms" ({ cls := "Compactforms", name := "push", desc := "(IIZ)I" } : Jvm.MethodName) ({ cls := "Compactforms", name := "push", desc := "(IIZ)I" } : Jvm.MethodName)) ∈ GW := gw_of m367 rfl
theorem m368 : (Jvm.Cond.code ({ cls := "Compactforms", name := "push", desc := "(IIZ)I" } : Jvm.MethodName) prog_1_method_2_code (4 : Nat) (Option.some Jvm.ClassFile.FieldType.int)) ∈ lw_tbl := tk2 (List.mem_of_getElem? (i := 128) rfl)
theorem w368 : (Jvm.Cond.code ({ cls := "Compactforms", name := "push", desc := "(IIZ)I" } : Jvm.MethodName) prog_1_method_2_code (4 : Nat) (Option.some Jvm.ClassFile.FieldType.int)) ∈ GW := gw_of m368 rfl
theorem m369 : (Jvm.Cond.methodLink "Compactforms" (49 : Nat) ({ cls := "Compactforms", name := "needTypeOrAbsent", desc := "(II)V" } : Jvm.MethodName)) ∈ lw_tbl := tk2 (List.mem_of_getElem? (i := 129) rfl)
theorem w369 : (Jvm.Cond.methodLink "Compactforms" (49 : Nat) ({ cls := "Compactforms", name := "needTypeOrAbsent", desc := "(II)V" } : Jvm.MethodName)) ∈ GW := gw_of m369 rfl
theorem m370 : (Jvm.Cond.privateMethod ({ cls := "Compactforms", name := "needTypeOrAbsent", desc := "(II)V" } : Jvm.MethodName)) ∈ lw_tbl := tk2 (List.mem_of_getElem? (i := 130) rfl)
theorem m371 : (Jvm.Cond.instanceMethod ({ cls := "Compactforms", name := "needTypeOrAbsent", desc := "(II)V" } : Jvm.MethodName)) ∈ lw_tbl := tk2 (List.mem_of_getElem? (i := 131) rfl)
theorem w371 : (Jvm.Cond.instanceMethod ({ cls := "Compactforms", name := "needTypeOrAbsent", desc := "(II)V" } : Jvm.MethodName)) ∈ GW := gw_of m371 rfl
theorem m372 : (Jvm.Cond.code ({ cls := "Compactforms", name := "needTypeOrAbsent", desc := "(II)V" } : Jvm.MethodName) prog_1_method_41_code (3 : Nat) (Option.none : Option Jvm.ClassFile.FieldType)) ∈ lw_tbl := tk2 (List.mem_of_getElem? (i := 132) rfl)
theorem w372 : (Jvm.Cond.code ({ cls := "Compactforms", name := "needTypeOrAbsent", desc := "(II)V" } : Jvm.MethodName) prog_1_method_41_code (3 : Nat) (Option.none : Option Jvm.ClassFile.FieldType)) ∈ GW := gw_of m372 rfl
theorem m373 : (Jvm.Cond.methodLink "Compactforms" (63 : Nat) ({ cls := "Compactforms", name := "needType", desc := "(II)V" } : Jvm.MethodName)) ∈ lw_tbl := tk2 (List.mem_of_getElem? (i := 133) rfl)
theorem w373 : (Jvm.Cond.methodLink "Compactforms" (63 : Nat) ({ cls := "Compactforms", name := "needType", desc := "(II)V" } : Jvm.MethodName)) ∈ GW := gw_of m373 rfl
theorem m374 : (Jvm.Cond.privateMethod ({ cls := "Compactforms", name := "needType", desc := "(II)V" } : Jvm.MethodName)) ∈ lw_tbl := tk2 (List.mem_of_getElem? (i := 134) rfl)
theorem m375 : (Jvm.Cond.instanceMethod ({ cls := "Compactforms", name := "needType", desc := "(II)V" } : Jvm.MethodName)) ∈ lw_tbl := tk2 (List.mem_of_getElem? (i := 135) rfl)
theorem w375 : (Jvm.Cond.instanceMethod ({ cls := "Compactforms", name := "needType", desc := "(II)V" } : Jvm.MethodName)) ∈ GW := gw_of m375 rfl
theorem m376 : (Jvm.Cond.code ({ cls := "Compactforms", name := "needType", desc := "(II)V" } : Jvm.MethodName) prog_1_method_40_code (3 : Nat) (Option.none : Option Jvm.ClassFile.FieldType)) ∈ lw_tbl := tk2 (List.mem_of_getElem? (i := 136) rfl)
theorem w376 : (Jvm.Cond.code ({ cls := "Compactforms", name := "needType", desc := "(II)V" } : Jvm.MethodName) prog_1_method_40_code (3 : Nat) (Option.none : Option Jvm.ClassFile.FieldType)) ∈ GW := gw_of m376 rfl
theorem m377 : (Jvm.Cond.classLink "Compactforms" (110 : Nat) "java/lang/IllegalStateException") ∈ lw_tbl := tk2 (List.mem_of_getElem? (i := 137) rfl)
theorem w377 : (Jvm.Cond.classLink "Compactforms" (110 : Nat) "java/lang/IllegalStateException") ∈ GW := gw_of m377 rfl
theorem m378 : (Jvm.Cond.instantiable "java/lang/IllegalStateException" (6 : Nat)) ∈ lw_tbl := tk2 (List.mem_of_getElem? (i := 138) rfl)
theorem w378 : (Jvm.Cond.instantiable "java/lang/IllegalStateException" (6 : Nat)) ∈ GW := gw_of m378 rfl
theorem m379 : (Jvm.Cond.castable "java/lang/IllegalStateException" "java/lang/IllegalStateException") ∈ lw_tbl := tk2 (List.mem_of_getElem? (i := 139) rfl)
theorem m380 : (Jvm.Cond.selects "java/lang/IllegalStateException" ({ cls := "java/lang/Throwable", name := "fillInStackTrace", desc := "(I)Ljava/lang/Throwable;" } : Jvm.MethodName) ({ cls := "java/lang/Throwable", name := "fillInStackTrace", desc := "(I)Ljava/lang/Throwable;" } : Jvm.MethodName)) ∈ lw_tbl := tk2 (List.mem_of_getElem? (i := 140) rfl)
theorem w380 : (Jvm.Cond.selects "java/lang/IllegalStateException" ({ cls := "java/lang/Throwable", name := "fillInStackTrace", desc := "(I)Ljava/lang/Throwable;" } : Jvm.MethodName) ({ cls := "java/lang/Throwable", name := "fillInStackTrace", desc := "(I)Ljava/lang/Throwable;" } : Jvm.MethodName)) ∈ GW := gw_of m380 rfl
theorem m381 : (Jvm.Cond.lays "java/lang/IllegalStateException" "java/lang/Throwable" "cause" "Ljava/lang/Throwable;") ∈ lw_tbl := tk2 (List.mem_of_getElem? (i := 141) rfl)
theorem w381 : (Jvm.Cond.lays "java/lang/IllegalStateException" "java/lang/Throwable" "cause" "Ljava/lang/Throwable;") ∈ GW := gw_of m381 rfl
theorem m382 : (Jvm.Cond.lays "java/lang/IllegalStateException" "java/lang/Throwable" "stackTrace" "[Ljava/lang/StackTraceElement;") ∈ lw_tbl := tk2 (List.mem_of_getElem? (i := 142) rfl)
theorem w382 : (Jvm.Cond.lays "java/lang/IllegalStateException" "java/lang/Throwable" "stackTrace" "[Ljava/lang/StackTraceElement;") ∈ GW := gw_of m382 rfl
theorem m383 : (Jvm.Cond.lays "java/lang/IllegalStateException" "java/lang/Throwable" "suppressedExceptions" "Ljava/util/List;") ∈ lw_tbl := tk2 (List.mem_of_getElem? (i := 143) rfl)
theorem w383 : (Jvm.Cond.lays "java/lang/IllegalStateException" "java/lang/Throwable" "suppressedExceptions" "Ljava/util/List;") ∈ GW := gw_of m383 rfl
theorem m384 : (Jvm.Cond.lays "java/lang/IllegalStateException" "java/lang/Throwable" "detailMessage" "Ljava/lang/String;") ∈ lw_tbl := tk2 (List.mem_of_getElem? (i := 144) rfl)
theorem w384 : (Jvm.Cond.lays "java/lang/IllegalStateException" "java/lang/Throwable" "detailMessage" "Ljava/lang/String;") ∈ GW := gw_of m384 rfl
theorem m385 : (Jvm.Cond.lays "java/lang/IllegalStateException" "java/lang/Throwable" "backtrace" "Ljava/lang/Object;") ∈ lw_tbl := tk2 (List.mem_of_getElem? (i := 145) rfl)
theorem w385 : (Jvm.Cond.lays "java/lang/IllegalStateException" "java/lang/Throwable" "backtrace" "Ljava/lang/Object;") ∈ GW := gw_of m385 rfl
theorem m386 : (Jvm.Cond.stringRef "Compactforms" (208 : Nat) "no value of this type") ∈ lw_tbl := tk2 (List.mem_of_getElem? (i := 146) rfl)
theorem m387 : (Jvm.Cond.methodLink "Compactforms" (114 : Nat) ({ cls := "java/lang/IllegalStateException", name := "<init>", desc := "(Ljava/lang/String;)V" } : Jvm.MethodName)) ∈ lw_tbl := tk2 (List.mem_of_getElem? (i := 147) rfl)
theorem w387 : (Jvm.Cond.methodLink "Compactforms" (114 : Nat) ({ cls := "java/lang/IllegalStateException", name := "<init>", desc := "(Ljava/lang/String;)V" } : Jvm.MethodName)) ∈ GW := gw_of m387 rfl
theorem m388 : (Jvm.Cond.instanceMethod ({ cls := "java/lang/IllegalStateException", name := "<init>", desc := "(Ljava/lang/String;)V" } : Jvm.MethodName)) ∈ lw_tbl := tk2 (List.mem_of_getElem? (i := 148) rfl)
theorem w388 : (Jvm.Cond.instanceMethod ({ cls := "java/lang/IllegalStateException", name := "<init>", desc := "(Ljava/lang/String;)V" } : Jvm.MethodName)) ∈ GW := gw_of m388 rfl
theorem m389 : (Jvm.Cond.code ({ cls := "java/lang/IllegalStateException", name := "<init>", desc := "(Ljava/lang/String;)V" } : Jvm.MethodName) prog_13_method_2_code (2 : Nat) (Option.none : Option Jvm.ClassFile.FieldType)) ∈ lw_tbl := tk2 (List.mem_of_getElem? (i := 149) rfl)
theorem w389 : (Jvm.Cond.code ({ cls := "java/lang/IllegalStateException", name := "<init>", desc := "(Ljava/lang/String;)V" } : Jvm.MethodName) prog_13_method_2_code (2 : Nat) (Option.none : Option Jvm.ClassFile.FieldType)) ∈ GW := gw_of m389 rfl
theorem m390 : (Jvm.Cond.methodLink "java/lang/IllegalStateException" (7 : Nat) ({ cls := "java/lang/RuntimeException", name := "<init>", desc := "(Ljava/lang/String;)V" } : Jvm.MethodName)) ∈ lw_tbl := tk2 (List.mem_of_getElem? (i := 150) rfl)
theorem w390 : (Jvm.Cond.methodLink "java/lang/IllegalStateException" (7 : Nat) ({ cls := "java/lang/RuntimeException", name := "<init>", desc := "(Ljava/lang/String;)V" } : Jvm.MethodName)) ∈ GW := gw_of m390 rfl
theorem m391 : (Jvm.Cond.lays "java/lang/IllegalStateException" "java/lang/Throwable" "depth" "I") ∈ lw_tbl := tk2 (List.mem_of_getElem? (i := 151) rfl)
theorem w391 : (Jvm.Cond.lays "java/lang/IllegalStateException" "java/lang/Throwable" "depth" "I") ∈ GW := gw_of m391 rfl
theorem m392 : (Jvm.Cond.superclass "java/lang/IllegalStateException" "java/lang/RuntimeException") ∈ lw_tbl := tk2 (List.mem_of_getElem? (i := 152) rfl)
theorem w392 : (Jvm.Cond.superclass "java/lang/IllegalStateException" "java/lang/RuntimeException") ∈ GW := gw_of m392 rfl
theorem m393 : (Jvm.Cond.methodLink "Compactforms" (53 : Nat) ({ cls := "Compactforms", name := "needRoom", desc := "(I)V" } : Jvm.MethodName)) ∈ lw_tbl := tk2 (List.mem_of_getElem? (i := 153) rfl)
theorem w393 : (Jvm.Cond.methodLink "Compactforms" (53 : Nat) ({ cls := "Compactforms", name := "needRoom", desc := "(I)V" } : Jvm.MethodName)) ∈ GW := gw_of m393 rfl
theorem m394 : (Jvm.Cond.privateMethod ({ cls := "Compactforms", name := "needRoom", desc := "(I)V" } : Jvm.MethodName)) ∈ lw_tbl := tk2 (List.mem_of_getElem? (i := 154) rfl)
theorem m395 : (Jvm.Cond.instanceMethod ({ cls := "Compactforms", name := "needRoom", desc := "(I)V" } : Jvm.MethodName)) ∈ lw_tbl := tk2 (List.mem_of_getElem? (i := 155) rfl)
theorem w395 : (Jvm.Cond.instanceMethod ({ cls := "Compactforms", name := "needRoom", desc := "(I)V" } : Jvm.MethodName)) ∈ GW := gw_of m395 rfl
theorem m396 : (Jvm.Cond.code ({ cls := "Compactforms", name := "needRoom", desc := "(I)V" } : Jvm.MethodName) prog_1_method_42_code (2 : Nat) (Option.none : Option Jvm.ClassFile.FieldType)) ∈ lw_tbl := tk2 (List.mem_of_getElem? (i := 156) rfl)
theorem w396 : (Jvm.Cond.code ({ cls := "Compactforms", name := "needRoom", desc := "(I)V" } : Jvm.MethodName) prog_1_method_42_code (2 : Nat) (Option.none : Option Jvm.ClassFile.FieldType)) ∈ GW := gw_of m396 rfl
theorem m397 : (Jvm.Cond.stringRef "Compactforms" (210 : Nat) "no room in the value") ∈ lw_tbl := tk2 (List.mem_of_getElem? (i := 157) rfl)
theorem m398 : (Jvm.Cond.methodLink "Compactforms" (56 : Nat) ({ cls := "Compactforms", name := "needRowLeft", desc := "()V" } : Jvm.MethodName)) ∈ lw_tbl := tk2 (List.mem_of_getElem? (i := 158) rfl)
theorem w398 : (Jvm.Cond.methodLink "Compactforms" (56 : Nat) ({ cls := "Compactforms", name := "needRowLeft", desc := "()V" } : Jvm.MethodName)) ∈ GW := gw_of m398 rfl
theorem m399 : (Jvm.Cond.privateMethod ({ cls := "Compactforms", name := "needRowLeft", desc := "()V" } : Jvm.MethodName)) ∈ lw_tbl := tk2 (List.mem_of_getElem? (i := 159) rfl)
theorem m400 : (Jvm.Cond.instanceMethod ({ cls := "Compactforms", name := "needRowLeft", desc := "()V" } : Jvm.MethodName)) ∈ lw_tbl := tk2 (List.mem_of_getElem? (i := 160) rfl)
theorem w400 : (Jvm.Cond.instanceMethod ({ cls := "Compactforms", name := "needRowLeft", desc := "()V" } : Jvm.MethodName)) ∈ GW := gw_of m400 rfl
theorem m401 : (Jvm.Cond.code ({ cls := "Compactforms", name := "needRowLeft", desc := "()V" } : Jvm.MethodName) prog_1_method_43_code (1 : Nat) (Option.none : Option Jvm.ClassFile.FieldType)) ∈ lw_tbl := tk2 (List.mem_of_getElem? (i := 161) rfl)
theorem w401 : (Jvm.Cond.code ({ cls := "Compactforms", name := "needRowLeft", desc := "()V" } : Jvm.MethodName) prog_1_method_43_code (1 : Nat) (Option.none : Option Jvm.ClassFile.FieldType)) ∈ GW := gw_of m401 rfl
theorem m402 : (Jvm.Cond.stringRef "Compactforms" (212 : Nat) "the log is full") ∈ lw_tbl := tk2 (List.mem_of_getElem? (i := 162) rfl)
theorem m403 : (Jvm.Cond.methodLink "Compactforms" (59 : Nat) ({ cls := "Compactforms", name := "call", desc := "(IIIII)I" } : Jvm.MethodName)) ∈ lw_tbl := tk2 (List.mem_of_getElem? (i := 163) rfl)
theorem w403 : (Jvm.Cond.methodLink "Compactforms" (59 : Nat) ({ cls := "Compactforms", name := "call", desc := "(IIIII)I" } : Jvm.MethodName)) ∈ GW := gw_of m403 rfl
theorem m404 : (Jvm.Cond.privateMethod ({ cls := "Compactforms", name := "call", desc := "(IIIII)I" } : Jvm.MethodName)) ∈ lw_tbl := tk2 (List.mem_of_getElem? (i := 164) rfl)
theorem m405 : (Jvm.Cond.instanceMethod ({ cls := "Compactforms", name := "call", desc := "(IIIII)I" } : Jvm.MethodName)) ∈ lw_tbl := tk2 (List.mem_of_getElem? (i := 165) rfl)
theorem w405 : (Jvm.Cond.instanceMethod ({ cls := "Compactforms", name := "call", desc := "(IIIII)I" } : Jvm.MethodName)) ∈ GW := gw_of m405 rfl
theorem m406 : (Jvm.Cond.code ({ cls := "Compactforms", name := "call", desc := "(IIIII)I" } : Jvm.MethodName) prog_1_method_48_code (7 : Nat) (Option.some Jvm.ClassFile.FieldType.int)) ∈ lw_tbl := tk2 (List.mem_of_getElem? (i := 166) rfl)
theorem w406 : (Jvm.Cond.code ({ cls := "Compactforms", name := "call", desc := "(IIIII)I" } : Jvm.MethodName) prog_1_method_48_code (7 : Nat) (Option.some Jvm.ClassFile.FieldType.int)) ∈ GW := gw_of m406 rfl
theorem m407 : (Jvm.Cond.methodLink "Compactforms" (223 : Nat) ({ cls := "Compactforms", name := "perform", desc := "(IIIII)I" } : Jvm.MethodName)) ∈ lw_tbl := tk2 (List.mem_of_getElem? (i := 167) rfl)
theorem w407 : (Jvm.Cond.methodLink "Compactforms" (223 : Nat) ({ cls := "Compactforms", name := "perform", desc := "(IIIII)I" } : Jvm.MethodName)) ∈ GW := gw_of m407 rfl
theorem m408 : (Jvm.Cond.privateMethod ({ cls := "Compactforms", name := "perform", desc := "(IIIII)I" } : Jvm.MethodName)) ∈ lw_tbl := tk2 (List.mem_of_getElem? (i := 168) rfl)
theorem m409 : (Jvm.Cond.instanceMethod ({ cls := "Compactforms", name := "perform", desc := "(IIIII)I" } : Jvm.MethodName)) ∈ lw_tbl := tk2 (List.mem_of_getElem? (i := 169) rfl)
theorem w409 : (Jvm.Cond.instanceMethod ({ cls := "Compactforms", name := "perform", desc := "(IIIII)I" } : Jvm.MethodName)) ∈ GW := gw_of m409 rfl
theorem m410 : (Jvm.Cond.code ({ cls := "Compactforms", name := "perform", desc := "(IIIII)I" } : Jvm.MethodName) prog_1_method_49_code (8 : Nat) (Option.some Jvm.ClassFile.FieldType.int)) ∈ lw_tbl := tk2 (List.mem_of_getElem? (i := 170) rfl)
theorem w410 : (Jvm.Cond.code ({ cls := "Compactforms", name := "perform", desc := "(IIIII)I" } : Jvm.MethodName) prog_1_method_49_code (8 : Nat) (Option.some Jvm.ClassFile.FieldType.int)) ∈ GW := gw_of m410 rfl
theorem m411 : (Jvm.Cond.methodLink "Compactforms" (236 : Nat) ({ cls := "Compactforms", name := "makeIfAbsent", desc := "(LCompactforms$Value;I)V" } : Jvm.MethodName)) ∈ lw_tbl := tk2 (List.mem_of_getElem? (i := 171) rfl)
theorem w411 : (Jvm.Cond.methodLink "Compactforms" (236 : Nat) ({ cls := "Compactforms", name := "makeIfAbsent", desc := "(LCompactforms$Value;I)V" } : Jvm.MethodName)) ∈ GW := gw_of m411 rfl
theorem m412 : (Jvm.Cond.privateMethod ({ cls := "Compactforms", name := "makeIfAbsent", desc := "(LCompactforms$Value;I)V" } : Jvm.MethodName)) ∈ lw_tbl := tk2 (List.mem_of_getElem? (i := 172) rfl)
theorem m413 : (Jvm.Cond.instanceMethod ({ cls := "Compactforms", name := "makeIfAbsent", desc := "(LCompactforms$Value;I)V" } : Jvm.MethodName)) ∈ lw_tbl := tk2 (List.mem_of_getElem? (i := 173) rfl)
theorem w413 : (Jvm.Cond.instanceMethod ({ cls := "Compactforms", name := "makeIfAbsent", desc := "(LCompactforms$Value;I)V" } : Jvm.MethodName)) ∈ GW := gw_of m413 rfl
theorem m414 : (Jvm.Cond.code ({ cls := "Compactforms", name := "makeIfAbsent", desc := "(LCompactforms$Value;I)V" } : Jvm.MethodName) prog_1_method_50_code (3 : Nat) (Option.none : Option Jvm.ClassFile.FieldType)) ∈ lw_tbl := tk2 (List.mem_of_getElem? (i := 174) rfl)
theorem w414 : (Jvm.Cond.code ({ cls := "Compactforms", name := "makeIfAbsent", desc := "(LCompactforms$Value;I)V" } : Jvm.MethodName) prog_1_method_50_code (3 : Nat) (Option.none : Option Jvm.ClassFile.FieldType)) ∈ GW := gw_of m414 rfl
theorem m415 : (Jvm.Cond.methodLink "Compactforms" (269 : Nat) ({ cls := "Compactforms$Value", name := "make", desc := "(II)V" } : Jvm.MethodName)) ∈ lw_tbl := tk2 (List.mem_of_getElem? (i := 175) rfl)
theorem w415 : (Jvm.Cond.methodLink "Compactforms" (269 : Nat) ({ cls := "Compactforms$Value", name := "make", desc := "(II)V" } : Jvm.MethodName)) ∈ GW := gw_of m415 rfl
theorem m416 : (Jvm.Cond.instanceMethod ({ cls := "Compactforms$Value", name := "make", desc := "(II)V" } : Jvm.MethodName)) ∈ lw_tbl := tk2 (List.mem_of_getElem? (i := 176) rfl)
theorem w416 : (Jvm.Cond.instanceMethod ({ cls := "Compactforms$Value", name := "make", desc := "(II)V" } : Jvm.MethodName)) ∈ GW := gw_of m416 rfl
theorem m417 : (Jvm.Cond.selects "Compactforms$Value" ({ cls := "Compactforms$Value", name := "make", desc := "(II)V" } : Jvm.MethodName) ({ cls := "Compactforms$Value", name := "make", desc := "(II)V" } : Jvm.MethodName)) ∈ lw_tbl := tk2 (List.mem_of_getElem? (i := 177) rfl)
theorem w417 : (Jvm.Cond.selects "Compactforms$Value" ({ cls := "Compactforms$Value", name := "make", desc := "(II)V" } : Jvm.MethodName) ({ cls := "Compactforms$Value", name := "make", desc := "(II)V" } : Jvm.MethodName)) ∈ GW := gw_of m417 rfl
theorem m418 : (Jvm.Cond.code ({ cls := "Compactforms$Value", name := "make", desc := "(II)V" } : Jvm.MethodName) prog_8_method_5_code (3 : Nat) (Option.none : Option Jvm.ClassFile.FieldType)) ∈ lw_tbl := tk2 (List.mem_of_getElem? (i := 178) rfl)
theorem w418 : (Jvm.Cond.code ({ cls := "Compactforms$Value", name := "make", desc := "(II)V" } : Jvm.MethodName) prog_8_method_5_code (3 : Nat) (Option.none : Option Jvm.ClassFile.FieldType)) ∈ GW := gw_of m418 rfl
theorem m419 : (Jvm.Cond.methodLink "Compactforms$Value" (65 : Nat) ({ cls := "Compactforms$Row", name := "makeEmpty", desc := "()V" } : Jvm.MethodName)) ∈ lw_tbl := tk2 (List.mem_of_getElem? (i := 179) rfl)
theorem w419 : (Jvm.Cond.methodLink "Compactforms$Value" (65 : Nat) ({ cls := "Compactforms$Row", name := "makeEmpty", desc := "()V" } : Jvm.MethodName)) ∈ GW := gw_of m419 rfl
theorem m420 : (Jvm.Cond.instanceMethod ({ cls := "Compactforms$Row", name := "makeEmpty", desc := "()V" } : Jvm.MethodName)) ∈ lw_tbl := tk2 (List.mem_of_getElem? (i := 180) rfl)
theorem w420 : (Jvm.Cond.instanceMethod ({ cls := "Compactforms$Row", name := "makeEmpty", desc := "()V" } : Jvm.MethodName)) ∈ GW := gw_of m420 rfl
theorem m421 : (Jvm.Cond.selects "Compactforms$Row" ({ cls := "Compactforms$Row", name := "makeEmpty", desc := "()V" } : Jvm.MethodName) ({ cls := "Compactforms$Row", name := "makeEmpty", desc := "()V" } : Jvm.MethodName)) ∈ lw_tbl := tk2 (List.mem_of_getElem? (i := 181) rfl)
theorem w421 : (Jvm.Cond.selects "Compactforms$Row" ({ cls := "Compactforms$Row", name := "makeEmpty", desc := "()V" } : Jvm.MethodName) ({ cls := "Compactforms$Row", name := "makeEmpty", desc := "()V" } : Jvm.MethodName)) ∈ GW := gw_of m421 rfl
theorem m422 : (Jvm.Cond.code ({ cls := "Compactforms$Row", name := "makeEmpty", desc := "()V" } : Jvm.MethodName) prog_6_method_2_code (1 : Nat) (Option.none : Option Jvm.ClassFile.FieldType)) ∈ lw_tbl := tk2 (List.mem_of_getElem? (i := 182) rfl)
theorem w422 : (Jvm.Cond.code ({ cls := "Compactforms$Row", name := "makeEmpty", desc := "()V" } : Jvm.MethodName) prog_6_method_2_code (1 : Nat) (Option.none : Option Jvm.ClassFile.FieldType)) ∈ GW := gw_of m422 rfl
theorem m423 : (Jvm.Cond.methodLink "Compactforms$Value" (68 : Nat) ({ cls := "Compactforms$Groups", name := "makeEmpty", desc := "()V" } : Jvm.MethodName)) ∈ lw_tbl := tk2 (List.mem_of_getElem? (i := 183) rfl)
theorem w423 : (Jvm.Cond.methodLink "Compactforms$Value" (68 : Nat) ({ cls := "Compactforms$Groups", name := "makeEmpty", desc := "()V" } : Jvm.MethodName)) ∈ GW := gw_of m423 rfl
theorem m424 : (Jvm.Cond.instanceMethod ({ cls := "Compactforms$Groups", name := "makeEmpty", desc := "()V" } : Jvm.MethodName)) ∈ lw_tbl := tk2 (List.mem_of_getElem? (i := 184) rfl)
theorem w424 : (Jvm.Cond.instanceMethod ({ cls := "Compactforms$Groups", name := "makeEmpty", desc := "()V" } : Jvm.MethodName)) ∈ GW := gw_of m424 rfl
theorem m425 : (Jvm.Cond.selects "Compactforms$Groups" ({ cls := "Compactforms$Groups", name := "makeEmpty", desc := "()V" } : Jvm.MethodName) ({ cls := "Compactforms$Groups", name := "makeEmpty", desc := "()V" } : Jvm.MethodName)) ∈ lw_tbl := tk2 (List.mem_of_getElem? (i := 185) rfl)
theorem w425 : (Jvm.Cond.selects "Compactforms$Groups" ({ cls := "Compactforms$Groups", name := "makeEmpty", desc := "()V" } : Jvm.MethodName) ({ cls := "Compactforms$Groups", name := "makeEmpty", desc := "()V" } : Jvm.MethodName)) ∈ GW := gw_of m425 rfl
theorem m426 : (Jvm.Cond.code ({ cls := "Compactforms$Groups", name := "makeEmpty", desc := "()V" } : Jvm.MethodName) prog_4_method_2_code (1 : Nat) (Option.none : Option Jvm.ClassFile.FieldType)) ∈ lw_tbl := tk2 (List.mem_of_getElem? (i := 186) rfl)
theorem w426 : (Jvm.Cond.code ({ cls := "Compactforms$Groups", name := "makeEmpty", desc := "()V" } : Jvm.MethodName) prog_4_method_2_code (1 : Nat) (Option.none : Option Jvm.ClassFile.FieldType)) ∈ GW := gw_of m426 rfl
theorem m427 : (Jvm.Cond.methodLink "Compactforms$Groups" (18 : Nat) ({ cls := "java/util/Arrays", name := "fill", desc := "([II)V" } : Jvm.MethodName)) ∈ lw_tbl := tk2 (List.mem_of_getElem? (i := 187) rfl)
theorem w427 : (Jvm.Cond.methodLink "Compactforms$Groups" (18 : Nat) ({ cls := "java/util/Arrays", name := "fill", desc := "([II)V" } : Jvm.MethodName)) ∈ GW := gw_of m427 rfl
theorem m428 : (Jvm.Cond.static ({ cls := "java/util/Arrays", name := "fill", desc := "([II)V" } : Jvm.MethodName)) ∈ lw_tbl := tk2 (List.mem_of_getElem? (i := 188) rfl)
theorem w428 : (Jvm.Cond.static ({ cls := "java/util/Arrays", name := "fill", desc := "([II)V" } : Jvm.MethodName)) ∈ GW := gw_of m428 rfl
theorem m429 : (Jvm.Cond.code ({ cls := "java/util/Arrays", name := "fill", desc := "([II)V" } : Jvm.MethodName) prog_20_method_103_code (4 : Nat) (Option.none : Option Jvm.ClassFile.FieldType)) ∈ lw_tbl := tk2 (List.mem_of_getElem? (i := 189) rfl)
theorem w429 : (Jvm.Cond.code ({ cls := "java/util/Arrays", name := "fill", desc := "([II)V" } : Jvm.MethodName) prog_20_method_103_code (4 : Nat) (Option.none : Option Jvm.ClassFile.FieldType)) ∈ GW := gw_of m429 rfl
theorem m430 : (Jvm.Cond.methodLink "Compactforms" (240 : Nat) ({ cls := "Compactforms$Value", name := "insert", desc := "(III)I" } : Jvm.MethodName)) ∈ lw_tbl := tk2 (List.mem_of_getElem? (i := 190) rfl)
theorem w430 : (Jvm.Cond.methodLink "Compactforms" (240 : Nat) ({ cls := "Compactforms$Value", name := "insert", desc := "(III)I" } : Jvm.MethodName)) ∈ GW := gw_of m430 rfl
theorem m431 : (Jvm.Cond.instanceMethod ({ cls := "Compactforms$Value", name := "insert", desc := "(III)I" } : Jvm.MethodName)) ∈ lw_tbl := tk2 (List.mem_of_getElem? (i := 191) rfl)
theorem w431 : (Jvm.Cond.instanceMethod ({ cls := "Compactforms$Value", name := "insert", desc := "(III)I" } : Jvm.MethodName)) ∈ GW := gw_of m431 rfl
theorem m432 : (Jvm.Cond.selects "Compactforms$Value" ({ cls := "Compactforms$Value", name := "insert", desc := "(III)I" } : Jvm.MethodName) ({ cls := "Compactforms$Value", name := "insert", desc := "(III)I" } : Jvm.MethodName)) ∈ lw_tbl := tk2 (List.mem_of_getElem? (i := 192) rfl)
theorem w432 : (Jvm.Cond.selects "Compactforms$Value" ({ cls := "Compactforms$Value", name := "insert", desc := "(III)I" } : Jvm.MethodName) ({ cls := "Compactforms$Value", name := "insert", desc := "(III)I" } : Jvm.MethodName)) ∈ GW := gw_of m432 rfl
theorem m433 : (Jvm.Cond.code ({ cls := "Compactforms$Value", name := "insert", desc := "(III)I" } : Jvm.MethodName) prog_8_method_6_code (4 : Nat) (Option.some Jvm.ClassFile.FieldType.int)) ∈ lw_tbl := tk2 (List.mem_of_getElem? (i := 193) rfl)
theorem w433 : (Jvm.Cond.code ({ cls := "Compactforms$Value", name := "insert", desc := "(III)I" } : Jvm.MethodName) prog_8_method_6_code (4 : Nat) (Option.some Jvm.ClassFile.FieldType.int)) ∈ GW := gw_of m433 rfl
theorem m434 : (Jvm.Cond.methodLink "Compactforms$Value" (69 : Nat) ({ cls := "Compactforms$Value", name := "outgrowsSmall", desc := "(I)Z" } : Jvm.MethodName)) ∈ lw_tbl := tk2 (List.mem_of_getElem? (i := 194) rfl)
theorem w434 : (Jvm.Cond.methodLink "Compactforms$Value" (69 : Nat) ({ cls := "Compactforms$Value", name := "outgrowsSmall", desc := "(I)Z" } : Jvm.MethodName)) ∈ GW := gw_of m434 rfl
theorem m435 : (Jvm.Cond.privateMethod ({ cls := "Compactforms$Value", name := "outgrowsSmall", desc := "(I)Z" } : Jvm.MethodName)) ∈ lw_tbl := tk2 (List.mem_of_getElem? (i := 195) rfl)
theorem m436 : (Jvm.Cond.instanceMethod ({ cls := "Compactforms$Value", name := "outgrowsSmall", desc := "(I)Z" } : Jvm.MethodName)) ∈ lw_tbl := tk2 (List.mem_of_getElem? (i := 196) rfl)
theorem w436 : (Jvm.Cond.instanceMethod ({ cls := "Compactforms$Value", name := "outgrowsSmall", desc := "(I)Z" } : Jvm.MethodName)) ∈ GW := gw_of m436 rfl
theorem m437 : (Jvm.Cond.code ({ cls := "Compactforms$Value", name := "outgrowsSmall", desc := "(I)Z" } : Jvm.MethodName) prog_8_method_7_code (3 : Nat) (Option.some Jvm.ClassFile.FieldType.boolean)) ∈ lw_tbl := tk2 (List.mem_of_getElem? (i := 197) rfl)
theorem w437 : (Jvm.Cond.code ({ cls := "Compactforms$Value", name := "outgrowsSmall", desc := "(I)Z" } : Jvm.MethodName) prog_8_method_7_code (3 : Nat) (Option.some Jvm.ClassFile.FieldType.boolean)) ∈ GW := gw_of m437 rfl
theorem m438 : (Jvm.Cond.methodLink "Compactforms$Value" (73 : Nat) ({ cls := "Compactforms$Value", name := "becomeBig", desc := "()V" } : Jvm.MethodName)) ∈ lw_tbl := tk2 (List.mem_of_getElem? (i := 198) rfl)
theorem w438 : (Jvm.Cond.methodLink "Compactforms$Value" (73 : Nat) ({ cls := "Compactforms$Value", name := "becomeBig", desc := "()V" } : Jvm.MethodName)) ∈ GW := gw_of m438 rfl
theorem m439 : (Jvm.Cond.privateMethod ({ cls := "Compactforms$Value", name := "becomeBig", desc := "()V" } : Jvm.MethodName)) ∈ lw_tbl := tk2 (List.mem_of_getElem? (i := 199) rfl)
theorem m440 : (Jvm.Cond.instanceMethod ({ cls := "Compactforms$Value", name := "becomeBig", desc := "()V" } : Jvm.MethodName)) ∈ lw_tbl := tk2 (List.mem_of_getElem? (i := 200) rfl)
theorem w440 : (Jvm.Cond.instanceMethod ({ cls := "Compactforms$Value", name := "becomeBig", desc := "()V" } : Jvm.MethodName)) ∈ GW := gw_of m440 rfl
theorem m441 : (Jvm.Cond.code ({ cls := "Compactforms$Value", name := "becomeBig", desc := "()V" } : Jvm.MethodName) prog_8_method_8_code (2 : Nat) (Option.none : Option Jvm.ClassFile.FieldType)) ∈ lw_tbl := tk2 (List.mem_of_getElem? (i := 201) rfl)
theorem w441 : (Jvm.Cond.code ({ cls := "Compactforms$Value", name := "becomeBig", desc := "()V" } : Jvm.MethodName) prog_8_method_8_code (2 : Nat) (Option.none : Option Jvm.ClassFile.FieldType)) ∈ GW := gw_of m441 rfl
theorem m442 : (Jvm.Cond.methodLink "Compactforms$Value" (83 : Nat) ({ cls := "Compactforms$Form", name := "makeEmpty", desc := "()V" } : Jvm.MethodName)) ∈ lw_tbl := tk2 (List.mem_of_getElem? (i := 202) rfl)
theorem w442 : (Jvm.Cond.methodLink "Compactforms$Value" (83 : Nat) ({ cls := "Compactforms$Form", name := "makeEmpty", desc := "()V" } : Jvm.MethodName)) ∈ GW := gw_of m442 rfl
theorem m443 : (Jvm.Cond.declares ({ cls := "Compactforms$Form", name := "makeEmpty", desc := "()V" } : Jvm.MethodName)) ∈ lw_tbl := tk2 (List.mem_of_getElem? (i := 203) rfl)
theorem m444 : (Jvm.Cond.sameMethod "Compactforms$Form" "Compactforms$Form" "makeEmpty" "()V") ∈ lw_tbl := tk2 (List.mem_of_getElem? (i := 204) rfl)
theorem w444 : (Jvm.Cond.sameMethod "Compactforms$Form" "Compactforms$Form" "makeEmpty" "()V") ∈ GW := gw_of m444 rfl
theorem m445 : (Jvm.Cond.selects "Compactforms$Chain" ({ cls := "Compactforms$Form", name := "makeEmpty", desc := "()V" } : Jvm.MethodName) ({ cls := "Compactforms$Chain", name := "makeEmpty", desc := "()V" } : Jvm.MethodName)) ∈ lw_tbl := tk2 (List.mem_of_getElem? (i := 205) rfl)
theorem w445 : (Jvm.Cond.selects "Compactforms$Chain" ({ cls := "Compactforms$Form", name := "makeEmpty", desc := "()V" } : Jvm.MethodName) ({ cls := "Compactforms$Chain", name := "makeEmpty", desc := "()V" } : Jvm.MethodName)) ∈ GW := gw_of m445 rfl
theorem m446 : (Jvm.Cond.instanceMethod ({ cls := "Compactforms$Chain", name := "makeEmpty", desc := "()V" } : Jvm.MethodName)) ∈ lw_tbl := tk2 (List.mem_of_getElem? (i := 206) rfl)
theorem w446 : (Jvm.Cond.instanceMethod ({ cls := "Compactforms$Chain", name := "makeEmpty", desc := "()V" } : Jvm.MethodName)) ∈ GW := gw_of m446 rfl
theorem m447 : (Jvm.Cond.code ({ cls := "Compactforms$Chain", name := "makeEmpty", desc := "()V" } : Jvm.MethodName) prog_2_method_2_code (2 : Nat) (Option.none : Option Jvm.ClassFile.FieldType)) ∈ lw_tbl := tk2 (List.mem_of_getElem? (i := 207) rfl)
theorem w447 : (Jvm.Cond.code ({ cls := "Compactforms$Chain", name := "makeEmpty", desc := "()V" } : Jvm.MethodName) prog_2_method_2_code (2 : Nat) (Option.none : Option Jvm.ClassFile.FieldType)) ∈ GW := gw_of m447 rfl
theorem m448 : (Jvm.Cond.selects "Compactforms$Row" ({ cls := "Compactforms$Form", name := "makeEmpty", desc := "()V" } : Jvm.MethodName) ({ cls := "Compactforms$Row", name := "makeEmpty", desc := "()V" } : Jvm.MethodName)) ∈ lw_tbl := tk2 (List.mem_of_getElem? (i := 208) rfl)
theorem w448 : (Jvm.Cond.selects "Compactforms$Row" ({ cls := "Compactforms$Form", name := "makeEmpty", desc := "()V" } : Jvm.MethodName) ({ cls := "Compactforms$Row", name := "makeEmpty", desc := "()V" } : Jvm.MethodName)) ∈ GW := gw_of m448 rfl
theorem m449 : (Jvm.Cond.selects "Compactforms$Table" ({ cls := "Compactforms$Form", name := "makeEmpty", desc := "()V" } : Jvm.MethodName) ({ cls := "Compactforms$Table", name := "makeEmpty", desc := "()V" } : Jvm.MethodName)) ∈ lw_tbl := tk2 (List.mem_of_getElem? (i := 209) rfl)
theorem w449 : (Jvm.Cond.selects "Compactforms$Table" ({ cls := "Compactforms$Form", name := "makeEmpty", desc := "()V" } : Jvm.MethodName) ({ cls := "Compactforms$Table", name := "makeEmpty", desc := "()V" } : Jvm.MethodName)) ∈ GW := gw_of m449 rfl
theorem m450 : (Jvm.Cond.instanceMethod ({ cls := "Compactforms$Table", name := "makeEmpty", desc := "()V" } : Jvm.MethodName)) ∈ lw_tbl := tk2 (List.mem_of_getElem? (i := 210) rfl)
theorem w450 : (Jvm.Cond.instanceMethod ({ cls := "Compactforms$Table", name := "makeEmpty", desc := "()V" } : Jvm.MethodName)) ∈ GW := gw_of m450 rfl
theorem m451 : (Jvm.Cond.code ({ cls := "Compactforms$Table", name := "makeEmpty", desc := "()V" } : Jvm.MethodName) prog_7_method_2_code (1 : Nat) (Option.none : Option Jvm.ClassFile.FieldType)) ∈ lw_tbl := tk2 (List.mem_of_getElem? (i := 211) rfl)
theorem w451 : (Jvm.Cond.code ({ cls := "Compactforms$Table", name := "makeEmpty", desc := "()V" } : Jvm.MethodName) prog_7_method_2_code (1 : Nat) (Option.none : Option Jvm.ClassFile.FieldType)) ∈ GW := gw_of m451 rfl
theorem m452 : (Jvm.Cond.methodLink "Compactforms$Table" (28 : Nat) ({ cls := "java/util/Arrays", name := "fill", desc := "([II)V" } : Jvm.MethodName)) ∈ lw_tbl := tk2 (List.mem_of_getElem? (i := 212) rfl)
theorem w452 : (Jvm.Cond.methodLink "Compactforms$Table" (28 : Nat) ({ cls := "java/util/Arrays", name := "fill", desc := "([II)V" } : Jvm.MethodName)) ∈ GW := gw_of m452 rfl
theorem m453 : (Jvm.Cond.methodLink "Compactforms$Value" (84 : Nat) ({ cls := "Compactforms$Row", name := "valueAt", desc := "(I)I" } : Jvm.MethodName)) ∈ lw_tbl := tk2 (List.mem_of_getElem? (i := 213) rfl)
theorem w453 : (Jvm.Cond.methodLink "Compactforms$Value" (84 : Nat) ({ cls := "Compactforms$Row", name := "valueAt", desc := "(I)I" } : Jvm.MethodName)) ∈ GW := gw_of m453 rfl
theorem m454 : (Jvm.Cond.instanceMethod ({ cls := "Compactforms$Row", name := "valueAt", desc := "(I)I" } : Jvm.MethodName)) ∈ lw_tbl := tk2 (List.mem_of_getElem? (i := 214) rfl)
theorem w454 : (Jvm.Cond.instanceMethod ({ cls := "Compactforms$Row", name := "valueAt", desc := "(I)I" } : Jvm.MethodName)) ∈ GW := gw_of m454 rfl
theorem m455 : (Jvm.Cond.selects "Compactforms$Row" ({ cls := "Compactforms$Row", name := "valueAt", desc := "(I)I" } : Jvm.MethodName) ({ cls := "Compactforms$Row", name := "valueAt", desc := "(I)I" } : Jvm.MethodName)) ∈ lw_tbl := tk2 (List.mem_of_getElem? (i := 215) rfl)
theorem w455 : (Jvm.Cond.selects "Compactforms$Row" ({ cls := "Compactforms$Row", name := "valueAt", desc := "(I)I" } : Jvm.MethodName) ({ cls := "Compactforms$Row", name := "valueAt", desc := "(I)I" } : Jvm.MethodName)) ∈ GW := gw_of m455 rfl
theorem m456 : (Jvm.Cond.code ({ cls := "Compactforms$Row", name := "valueAt", desc := "(I)I" } : Jvm.MethodName) prog_6_method_3_code (2 : Nat) (Option.some Jvm.ClassFile.FieldType.int)) ∈ lw_tbl := tk2 (List.mem_of_getElem? (i := 216) rfl)
theorem w456 : (Jvm.Cond.code ({ cls := "Compactforms$Row", name := "valueAt", desc := "(I)I" } : Jvm.MethodName) prog_6_method_3_code (2 : Nat) (Option.some Jvm.ClassFile.FieldType.int)) ∈ GW := gw_of m456 rfl
theorem m457 : (Jvm.Cond.methodLink "Compactforms$Value" (88 : Nat) ({ cls := "Compactforms$Row", name := "bitsAt", desc := "(I)I" } : Jvm.MethodName)) ∈ lw_tbl := tk2 (List.mem_of_getElem? (i := 217) rfl)
theorem w457 : (Jvm.Cond.methodLink "Compactforms$Value" (88 : Nat) ({ cls := "Compactforms$Row", name := "bitsAt", desc := "(I)I" } : Jvm.MethodName)) ∈ GW := gw_of m457 rfl
theorem m458 : (Jvm.Cond.instanceMethod ({ cls := "Compactforms$Row", name := "bitsAt", desc := "(I)I" } : Jvm.MethodName)) ∈ lw_tbl := tk2 (List.mem_of_getElem? (i := 218) rfl)
theorem w458 : (Jvm.Cond.instanceMethod ({ cls := "Compactforms$Row", name := "bitsAt", desc := "(I)I" } : Jvm.MethodName)) ∈ GW := gw_of m458 rfl
theorem m459 : (Jvm.Cond.selects "Compactforms$Row" ({ cls := "Compactforms$Row", name := "bitsAt", desc := "(I)I" } : Jvm.MethodName) ({ cls := "Compactforms$Row", name := "bitsAt", desc := "(I)I" } : Jvm.MethodName)) ∈ lw_tbl := tk2 (List.mem_of_getElem? (i := 219) rfl)
theorem w459 : (Jvm.Cond.selects "Compactforms$Row" ({ cls := "Compactforms$Row", name := "bitsAt", desc := "(I)I" } : Jvm.MethodName) ({ cls := "Compactforms$Row", name := "bitsAt", desc := "(I)I" } : Jvm.MethodName)) ∈ GW := gw_of m459 rfl
theorem m460 : (Jvm.Cond.code ({ cls := "Compactforms$Row", name := "bitsAt", desc := "(I)I" } : Jvm.MethodName) prog_6_method_4_code (2 : Nat) (Option.some Jvm.ClassFile.FieldType.int)) ∈ lw_tbl := tk2 (List.mem_of_getElem? (i := 220) rfl)
theorem w460 : (Jvm.Cond.code ({ cls := "Compactforms$Row", name := "bitsAt", desc := "(I)I" } : Jvm.MethodName) prog_6_method_4_code (2 : Nat) (Option.some Jvm.ClassFile.FieldType.int)) ∈ GW := gw_of m460 rfl
theorem m461 : (Jvm.Cond.methodLink "Compactforms$Value" (76 : Nat) ({ cls := "Compactforms$Form", name := "putIn", desc := "(III)V" } : Jvm.MethodName)) ∈ lw_tbl := tk2 (List.mem_of_getElem? (i := 221) rfl)
theorem w461 : (Jvm.Cond.methodLink "Compactforms$Value" (76 : Nat) ({ cls := "Compactforms$Form", name := "putIn", desc := "(III)V" } : Jvm.MethodName)) ∈ GW := gw_of m461 rfl
theorem m462 : (Jvm.Cond.declares ({ cls := "Compactforms$Form", name := "putIn", desc := "(III)V" } : Jvm.MethodName)) ∈ lw_tbl := tk2 (List.mem_of_getElem? (i := 222) rfl)
theorem m463 : (Jvm.Cond.sameMethod "Compactforms$Form" "Compactforms$Form" "putIn" "(III)V") ∈ lw_tbl := tk2 (List.mem_of_getElem? (i := 223) rfl)
theorem w463 : (Jvm.Cond.sameMethod "Compactforms$Form" "Compactforms$Form" "putIn" "(III)V") ∈ GW := gw_of m463 rfl
theorem m464 : (Jvm.Cond.selects "Compactforms$Chain" ({ cls := "Compactforms$Form", name := "putIn", desc := "(III)V" } : Jvm.MethodName) ({ cls := "Compactforms$Chain", name := "putIn", desc := "(III)V" } : Jvm.MethodName)) ∈ lw_tbl := tk2 (List.mem_of_getElem? (i := 224) rfl)
theorem w464 : (Jvm.Cond.selects "Compactforms$Chain" ({ cls := "Compactforms$Form", name := "putIn", desc := "(III)V" } : Jvm.MethodName) ({ cls := "Compactforms$Chain", name := "putIn", desc := "(III)V" } : Jvm.MethodName)) ∈ GW := gw_of m464 rfl
theorem m465 : (Jvm.Cond.instanceMethod ({ cls := "Compactforms$Chain", name := "putIn", desc := "(III)V" } : Jvm.MethodName)) ∈ lw_tbl := tk2 (List.mem_of_getElem? (i := 225) rfl)
theorem w465 : (Jvm.Cond.instanceMethod ({ cls := "Compactforms$Chain", name := "putIn", desc := "(III)V" } : Jvm.MethodName)) ∈ GW := gw_of m465 rfl
theorem m466 : (Jvm.Cond.code ({ cls := "Compactforms$Chain", name := "putIn", desc := "(III)V" } : Jvm.MethodName) prog_2_method_7_code (6 : Nat) (Option.none : Option Jvm.ClassFile.FieldType)) ∈ lw_tbl := tk2 (List.mem_of_getElem? (i := 226) rfl)
theorem w466 : (Jvm.Cond.code ({ cls := "Compactforms$Chain", name := "putIn", desc := "(III)V" } : Jvm.MethodName) prog_2_method_7_code (6 : Nat) (Option.none : Option Jvm.ClassFile.FieldType)) ∈ GW := gw_of m466 rfl
theorem m467 : (Jvm.Cond.methodLink "Compactforms$Chain" (28 : Nat) ({ cls := "Compactforms$Chain", name := "nodeAt", desc := "(I)I" } : Jvm.MethodName)) ∈ lw_tbl := tk2 (List.mem_of_getElem? (i := 227) rfl)
theorem w467 : (Jvm.Cond.methodLink "Compactforms$Chain" (28 : Nat) ({ cls := "Compactforms$Chain", name := "nodeAt", desc := "(I)I" } : Jvm.MethodName)) ∈ GW := gw_of m467 rfl
theorem m468 : (Jvm.Cond.privateMethod ({ cls := "Compactforms$Chain", name := "nodeAt", desc := "(I)I" } : Jvm.MethodName)) ∈ lw_tbl := tk2 (List.mem_of_getElem? (i := 228) rfl)
theorem m469 : (Jvm.Cond.instanceMethod ({ cls := "Compactforms$Chain", name := "nodeAt", desc := "(I)I" } : Jvm.MethodName)) ∈ lw_tbl := tk2 (List.mem_of_getElem? (i := 229) rfl)
theorem w469 : (Jvm.Cond.instanceMethod ({ cls := "Compactforms$Chain", name := "nodeAt", desc := "(I)I" } : Jvm.MethodName)) ∈ GW := gw_of m469 rfl
theorem m470 : (Jvm.Cond.code ({ cls := "Compactforms$Chain", name := "nodeAt", desc := "(I)I" } : Jvm.MethodName) prog_2_method_3_code (4 : Nat) (Option.some Jvm.ClassFile.FieldType.int)) ∈ lw_tbl := tk2 (List.mem_of_getElem? (i := 230) rfl)
theorem w470 : (Jvm.Cond.code ({ cls := "Compactforms$Chain", name := "nodeAt", desc := "(I)I" } : Jvm.MethodName) prog_2_method_3_code (4 : Nat) (Option.some Jvm.ClassFile.FieldType.int)) ∈ GW := gw_of m470 rfl
theorem m471 : (Jvm.Cond.selects "Compactforms$Row" ({ cls := "Compactforms$Form", name := "putIn", desc := "(III)V" } : Jvm.MethodName) ({ cls := "Compactforms$Row", name := "putIn", desc := "(III)V" } : Jvm.MethodName)) ∈ lw_tbl := tk2 (List.mem_of_getElem? (i := 231) rfl)
theorem w471 : (Jvm.Cond.selects "Compactforms$Row" ({ cls := "Compactforms$Form", name := "putIn", desc := "(III)V" } : Jvm.MethodName) ({ cls := "Compactforms$Row", name := "putIn", desc := "(III)V" } : Jvm.MethodName)) ∈ GW := gw_of m471 rfl
theorem m472 : (Jvm.Cond.instanceMethod ({ cls := "Compactforms$Row", name := "putIn", desc := "(III)V" } : Jvm.MethodName)) ∈ lw_tbl := tk2 (List.mem_of_getElem? (i := 232) rfl)
theorem w472 : (Jvm.Cond.instanceMethod ({ cls := "Compactforms$Row", name := "putIn", desc := "(III)V" } : Jvm.MethodName)) ∈ GW := gw_of m472 rfl
theorem m473 : (Jvm.Cond.code ({ cls := "Compactforms$Row", name := "putIn", desc := "(III)V" } : Jvm.MethodName) prog_6_method_6_code (4 : Nat) (Option.none : Option Jvm.ClassFile.FieldType)) ∈ lw_tbl := tk2 (List.mem_of_getElem? (i := 233) rfl)
theorem w473 : (Jvm.Cond.code ({ cls := "Compactforms$Row", name := "putIn", desc := "(III)V" } : Jvm.MethodName) prog_6_method_6_code (4 : Nat) (Option.none : Option Jvm.ClassFile.FieldType)) ∈ GW := gw_of m473 rfl
theorem m474 : (Jvm.Cond.methodLink "Compactforms$Row" (22 : Nat) ({ cls := "java/lang/System", name := "arraycopy", desc := "(Ljava/lang/Object;ILjava/lang/Object;II)V" } : Jvm.MethodName)) ∈ lw_tbl := tk2 (List.mem_of_getElem? (i := 234) rfl)
theorem w474 : (Jvm.Cond.methodLink "Compactforms$Row" (22 : Nat) ({ cls := "java/lang/System", name := "arraycopy", desc := "(Ljava/lang/Object;ILjava/lang/Object;II)V" } : Jvm.MethodName)) ∈ GW := gw_of m474 rfl
theorem m475 : (Jvm.Cond.static ({ cls := "java/lang/System", name := "arraycopy", desc := "(Ljava/lang/Object;ILjava/lang/Object;II)V" } : Jvm.MethodName)) ∈ lw_tbl := tk2 (List.mem_of_getElem? (i := 235) rfl)
theorem w475 : (Jvm.Cond.static ({ cls := "java/lang/System", name := "arraycopy", desc := "(Ljava/lang/Object;ILjava/lang/Object;II)V" } : Jvm.MethodName)) ∈ GW := gw_of m475 rfl
theorem m476 : (Jvm.Cond.native ({ cls := "java/lang/System", name := "arraycopy", desc := "(Ljava/lang/Object;ILjava/lang/Object;II)V" } : Jvm.MethodName)) ∈ lw_tbl := tk2 (List.mem_of_getElem? (i := 236) rfl)
theorem w476 : (Jvm.Cond.native ({ cls := "java/lang/System", name := "arraycopy", desc := "(Ljava/lang/Object;ILjava/lang/Object;II)V" } : Jvm.MethodName)) ∈ GW := gw_of m476 rfl
theorem m477 : (Jvm.Cond.selects "Compactforms$Table" ({ cls := "Compactforms$Form", name := "putIn", desc := "(III)V" } : Jvm.MethodName) ({ cls := "Compactforms$Table", name := "putIn", desc := "(III)V" } : Jvm.MethodName)) ∈ lw_tbl := tk2 (List.mem_of_getElem? (i := 237) rfl)
theorem w477 : (Jvm.Cond.selects "Compactforms$Table" ({ cls := "Compactforms$Form", name := "putIn", desc := "(III)V" } : Jvm.MethodName) ({ cls := "Compactforms$Table", name := "putIn", desc := "(III)V" } : Jvm.MethodName)) ∈ GW := gw_of m477 rfl
theorem m478 : (Jvm.Cond.instanceMethod ({ cls := "Compactforms$Table", name := "putIn", desc := "(III)V" } : Jvm.MethodName)) ∈ lw_tbl := tk2 (List.mem_of_getElem? (i := 238) rfl)
theorem w478 : (Jvm.Cond.instanceMethod ({ cls := "Compactforms$Table", name := "putIn", desc := "(III)V" } : Jvm.MethodName)) ∈ GW := gw_of m478 rfl
theorem m479 : (Jvm.Cond.code ({ cls := "Compactforms$Table", name := "putIn", desc := "(III)V" } : Jvm.MethodName) prog_7_method_9_code (6 : Nat) (Option.none : Option Jvm.ClassFile.FieldType)) ∈ lw_tbl := tk2 (List.mem_of_getElem? (i := 239) rfl)
theorem w479 : (Jvm.Cond.code ({ cls := "Compactforms$Table", name := "putIn", desc := "(III)V" } : Jvm.MethodName) prog_7_method_9_code (6 : Nat) (Option.none : Option Jvm.ClassFile.FieldType)) ∈ GW := gw_of m479 rfl
theorem m480 : (Jvm.Cond.methodLink "Compactforms$Table" (44 : Nat) ({ cls := "Compactforms$Table", name := "freeSlot", desc := "()I" } : Jvm.MethodName)) ∈ lw_tbl := tk3 (List.mem_of_getElem? (i := 0) rfl)
theorem w480 : (Jvm.Cond.methodLink "Compactforms$Table" (44 : Nat) ({ cls := "Compactforms$Table", name := "freeSlot", desc := "()I" } : Jvm.MethodName)) ∈ GW := gw_of m480 rfl
theorem m481 : (Jvm.Cond.privateMethod ({ cls := "Compactforms$Table", name := "freeSlot", desc := "()I" } : Jvm.MethodName)) ∈ lw_tbl := tk3 (List.mem_of_getElem? (i := 1) rfl)
theorem m482 : (Jvm.Cond.instanceMethod ({ cls := "Compactforms$Table", name := "freeSlot", desc := "()I" } : Jvm.MethodName)) ∈ lw_tbl := tk3 (List.mem_of_getElem? (i := 2) rfl)
theorem w482 : (Jvm.Cond.instanceMethod ({ cls := "Compactforms$Table", name := "freeSlot", desc := "()I" } : Jvm.MethodName)) ∈ GW := gw_of m482 rfl
theorem m483 : (Jvm.Cond.code ({ cls := "Compactforms$Table", name := "freeSlot", desc := "()I" } : Jvm.MethodName) prog_7_method_10_code (2 : Nat) (Option.some Jvm.ClassFile.FieldType.int)) ∈ lw_tbl := tk3 (List.mem_of_getElem? (i := 3) rfl)
theorem w483 : (Jvm.Cond.code ({ cls := "Compactforms$Table", name := "freeSlot", desc := "()I" } : Jvm.MethodName) prog_7_method_10_code (2 : Nat) (Option.some Jvm.ClassFile.FieldType.int)) ∈ GW := gw_of m483 rfl
theorem m484 : (Jvm.Cond.methodLink "Compactforms$Table" (48 : Nat) ({ cls := "Compactforms$Table", name := "link", desc := "(II)V" } : Jvm.MethodName)) ∈ lw_tbl := tk3 (List.mem_of_getElem? (i := 4) rfl)
theorem w484 : (Jvm.Cond.methodLink "Compactforms$Table" (48 : Nat) ({ cls := "Compactforms$Table", name := "link", desc := "(II)V" } : Jvm.MethodName)) ∈ GW := gw_of m484 rfl
theorem m485 : (Jvm.Cond.privateMethod ({ cls := "Compactforms$Table", name := "link", desc := "(II)V" } : Jvm.MethodName)) ∈ lw_tbl := tk3 (List.mem_of_getElem? (i := 5) rfl)
theorem m486 : (Jvm.Cond.instanceMethod ({ cls := "Compactforms$Table", name := "link", desc := "(II)V" } : Jvm.MethodName)) ∈ lw_tbl := tk3 (List.mem_of_getElem? (i := 6) rfl)
theorem w486 : (Jvm.Cond.instanceMethod ({ cls := "Compactforms$Table", name := "link", desc := "(II)V" } : Jvm.MethodName)) ∈ GW := gw_of m486 rfl
theorem m487 : (Jvm.Cond.code ({ cls := "Compactforms$Table", name := "link", desc := "(II)V" } : Jvm.MethodName) prog_7_method_11_code (6 : Nat) (Option.none : Option Jvm.ClassFile.FieldType)) ∈ lw_tbl := tk3 (List.mem_of_getElem? (i := 7) rfl)
theorem w487 : (Jvm.Cond.code ({ cls := "Compactforms$Table", name := "link", desc := "(II)V" } : Jvm.MethodName) prog_7_method_11_code (6 : Nat) (Option.none : Option Jvm.ClassFile.FieldType)) ∈ GW := gw_of m487 rfl
theorem m488 : (Jvm.Cond.methodLink "Compactforms$Value" (82 : Nat) ({ cls := "Compactforms$Row", name := "putIn", desc := "(III)V" } : Jvm.MethodName)) ∈ lw_tbl := tk3 (List.mem_of_getElem? (i := 8) rfl)
theorem w488 : (Jvm.Cond.methodLink "Compactforms$Value" (82 : Nat) ({ cls := "Compactforms$Row", name := "putIn", desc := "(III)V" } : Jvm.MethodName)) ∈ GW := gw_of m488 rfl
theorem m489 : (Jvm.Cond.methodLink "Compactforms" (244 : Nat) ({ cls := "Compactforms$Value", name := "letGo", desc := "(I)I" } : Jvm.MethodName)) ∈ lw_tbl := tk3 (List.mem_of_getElem? (i := 9) rfl)
theorem w489 : (Jvm.Cond.methodLink "Compactforms" (244 : Nat) ({ cls := "Compactforms$Value", name := "letGo", desc := "(I)I" } : Jvm.MethodName)) ∈ GW := gw_of m489 rfl
theorem m490 : (Jvm.Cond.instanceMethod ({ cls := "Compactforms$Value", name := "letGo", desc := "(I)I" } : Jvm.MethodName)) ∈ lw_tbl := tk3 (List.mem_of_getElem? (i := 10) rfl)
theorem w490 : (Jvm.Cond.instanceMethod ({ cls := "Compactforms$Value", name := "letGo", desc := "(I)I" } : Jvm.MethodName)) ∈ GW := gw_of m490 rfl
theorem m491 : (Jvm.Cond.selects "Compactforms$Value" ({ cls := "Compactforms$Value", name := "letGo", desc := "(I)I" } : Jvm.MethodName) ({ cls := "Compactforms$Value", name := "letGo", desc := "(I)I" } : Jvm.MethodName)) ∈ lw_tbl := tk3 (List.mem_of_getElem? (i := 11) rfl)
theorem w491 : (Jvm.Cond.selects "Compactforms$Value" ({ cls := "Compactforms$Value", name := "letGo", desc := "(I)I" } : Jvm.MethodName) ({ cls := "Compactforms$Value", name := "letGo", desc := "(I)I" } : Jvm.MethodName)) ∈ GW := gw_of m491 rfl
theorem m492 : (Jvm.Cond.code ({ cls := "Compactforms$Value", name := "letGo", desc := "(I)I" } : Jvm.MethodName) prog_8_method_10_code (3 : Nat) (Option.some Jvm.ClassFile.FieldType.int)) ∈ lw_tbl := tk3 (List.mem_of_getElem? (i := 12) rfl)
theorem w492 : (Jvm.Cond.code ({ cls := "Compactforms$Value", name := "letGo", desc := "(I)I" } : Jvm.MethodName) prog_8_method_10_code (3 : Nat) (Option.some Jvm.ClassFile.FieldType.int)) ∈ GW := gw_of m492 rfl
theorem m493 : (Jvm.Cond.methodLink "Compactforms$Value" (96 : Nat) ({ cls := "Compactforms$Form", name := "valueAt", desc := "(I)I" } : Jvm.MethodName)) ∈ lw_tbl := tk3 (List.mem_of_getElem? (i := 13) rfl)
theorem w493 : (Jvm.Cond.methodLink "Compactforms$Value" (96 : Nat) ({ cls := "Compactforms$Form", name := "valueAt", desc := "(I)I" } : Jvm.MethodName)) ∈ GW := gw_of m493 rfl
theorem m494 : (Jvm.Cond.declares ({ cls := "Compactforms$Form", name := "valueAt", desc := "(I)I" } : Jvm.MethodName)) ∈ lw_tbl := tk3 (List.mem_of_getElem? (i := 14) rfl)
theorem m495 : (Jvm.Cond.sameMethod "Compactforms$Form" "Compactforms$Form" "valueAt" "(I)I") ∈ lw_tbl := tk3 (List.mem_of_getElem? (i := 15) rfl)
theorem w495 : (Jvm.Cond.sameMethod "Compactforms$Form" "Compactforms$Form" "valueAt" "(I)I") ∈ GW := gw_of m495 rfl
theorem m496 : (Jvm.Cond.selects "Compactforms$Chain" ({ cls := "Compactforms$Form", name := "valueAt", desc := "(I)I" } : Jvm.MethodName) ({ cls := "Compactforms$Chain", name := "valueAt", desc := "(I)I" } : Jvm.MethodName)) ∈ lw_tbl := tk3 (List.mem_of_getElem? (i := 16) rfl)
theorem w496 : (Jvm.Cond.selects "Compactforms$Chain" ({ cls := "Compactforms$Form", name := "valueAt", desc := "(I)I" } : Jvm.MethodName) ({ cls := "Compactforms$Chain", name := "valueAt", desc := "(I)I" } : Jvm.MethodName)) ∈ GW := gw_of m496 rfl
theorem m497 : (Jvm.Cond.instanceMethod ({ cls := "Compactforms$Chain", name := "valueAt", desc := "(I)I" } : Jvm.MethodName)) ∈ lw_tbl := tk3 (List.mem_of_getElem? (i := 17) rfl)
theorem w497 : (Jvm.Cond.instanceMethod ({ cls := "Compactforms$Chain", name := "valueAt", desc := "(I)I" } : Jvm.MethodName)) ∈ GW := gw_of m497 rfl
theorem m498 : (Jvm.Cond.code ({ cls := "Compactforms$Chain", name := "valueAt", desc := "(I)I" } : Jvm.MethodName) prog_2_method_4_code (3 : Nat) (Option.some Jvm.ClassFile.FieldType.int)) ∈ lw_tbl := tk3 (List.mem_of_getElem? (i := 18) rfl)
theorem w498 : (Jvm.Cond.code ({ cls := "Compactforms$Chain", name := "valueAt", desc := "(I)I" } : Jvm.MethodName) prog_2_method_4_code (3 : Nat) (Option.some Jvm.ClassFile.FieldType.int)) ∈ GW := gw_of m498 rfl
theorem m499 : (Jvm.Cond.selects "Compactforms$Row" ({ cls := "Compactforms$Form", name := "valueAt", desc := "(I)I" } : Jvm.MethodName) ({ cls := "Compactforms$Row", name := "valueAt", desc := "(I)I" } : Jvm.MethodName)) ∈ lw_tbl := tk3 (List.mem_of_getElem? (i := 19) rfl)
theorem w499 : (Jvm.Cond.selects "Compactforms$Row" ({ cls := "Compactforms$Form", name := "valueAt", desc := "(I)I" } : Jvm.MethodName) ({ cls := "Compactforms$Row", name := "valueAt", desc := "(I)I" } : Jvm.MethodName)) ∈ GW := gw_of m499 rfl
theorem m500 : (Jvm.Cond.selects "Compactforms$Table" ({ cls := "Compactforms$Form", name := "valueAt", desc := "(I)I" } : Jvm.MethodName) ({ cls := "Compactforms$Table", name := "valueAt", desc := "(I)I" } : Jvm.MethodName)) ∈ lw_tbl := tk3 (List.mem_of_getElem? (i := 20) rfl)
theorem w500 : (Jvm.Cond.selects "Compactforms$Table" ({ cls := "Compactforms$Form", name := "valueAt", desc := "(I)I" } : Jvm.MethodName) ({ cls := "Compactforms$Table", name := "valueAt", desc := "(I)I" } : Jvm.MethodName)) ∈ GW := gw_of m500 rfl
theorem m501 : (Jvm.Cond.instanceMethod ({ cls := "Compactforms$Table", name := "valueAt", desc := "(I)I" } : Jvm.MethodName)) ∈ lw_tbl := tk3 (List.mem_of_getElem? (i := 21) rfl)
theorem w501 : (Jvm.Cond.instanceMethod ({ cls := "Compactforms$Table", name := "valueAt", desc := "(I)I" } : Jvm.MethodName)) ∈ GW := gw_of m501 rfl
theorem m502 : (Jvm.Cond.code ({ cls := "Compactforms$Table", name := "valueAt", desc := "(I)I" } : Jvm.MethodName) prog_7_method_5_code (4 : Nat) (Option.some Jvm.ClassFile.FieldType.int)) ∈ lw_tbl := tk3 (List.mem_of_getElem? (i := 22) rfl)
theorem w502 : (Jvm.Cond.code ({ cls := "Compactforms$Table", name := "valueAt", desc := "(I)I" } : Jvm.MethodName) prog_7_method_5_code (4 : Nat) (Option.some Jvm.ClassFile.FieldType.int)) ∈ GW := gw_of m502 rfl
theorem m503 : (Jvm.Cond.methodLink "Compactforms$Table" (34 : Nat) ({ cls := "Compactforms$Table", name := "smallestAbove", desc := "(I)I" } : Jvm.MethodName)) ∈ lw_tbl := tk3 (List.mem_of_getElem? (i := 23) rfl)
theorem w503 : (Jvm.Cond.methodLink "Compactforms$Table" (34 : Nat) ({ cls := "Compactforms$Table", name := "smallestAbove", desc := "(I)I" } : Jvm.MethodName)) ∈ GW := gw_of m503 rfl
theorem m504 : (Jvm.Cond.privateMethod ({ cls := "Compactforms$Table", name := "smallestAbove", desc := "(I)I" } : Jvm.MethodName)) ∈ lw_tbl := tk3 (List.mem_of_getElem? (i := 24) rfl)
theorem m505 : (Jvm.Cond.instanceMethod ({ cls := "Compactforms$Table", name := "smallestAbove", desc := "(I)I" } : Jvm.MethodName)) ∈ lw_tbl := tk3 (List.mem_of_getElem? (i := 25) rfl)
theorem w505 : (Jvm.Cond.instanceMethod ({ cls := "Compactforms$Table", name := "smallestAbove", desc := "(I)I" } : Jvm.MethodName)) ∈ GW := gw_of m505 rfl
theorem m506 : (Jvm.Cond.code ({ cls := "Compactforms$Table", name := "smallestAbove", desc := "(I)I" } : Jvm.MethodName) prog_7_method_4_code (4 : Nat) (Option.some Jvm.ClassFile.FieldType.int)) ∈ lw_tbl := tk3 (List.mem_of_getElem? (i := 26) rfl)
theorem w506 : (Jvm.Cond.code ({ cls := "Compactforms$Table", name := "smallestAbove", desc := "(I)I" } : Jvm.MethodName) prog_7_method_4_code (4 : Nat) (Option.some Jvm.ClassFile.FieldType.int)) ∈ GW := gw_of m506 rfl
theorem m507 : (Jvm.Cond.methodLink "Compactforms$Value" (97 : Nat) ({ cls := "Compactforms$Value", name := "dropOut", desc := "(I)V" } : Jvm.MethodName)) ∈ lw_tbl := tk3 (List.mem_of_getElem? (i := 27) rfl)
theorem w507 : (Jvm.Cond.methodLink "Compactforms$Value" (97 : Nat) ({ cls := "Compactforms$Value", name := "dropOut", desc := "(I)V" } : Jvm.MethodName)) ∈ GW := gw_of m507 rfl
theorem m508 : (Jvm.Cond.instanceMethod ({ cls := "Compactforms$Value", name := "dropOut", desc := "(I)V" } : Jvm.MethodName)) ∈ lw_tbl := tk3 (List.mem_of_getElem? (i := 28) rfl)
theorem w508 : (Jvm.Cond.instanceMethod ({ cls := "Compactforms$Value", name := "dropOut", desc := "(I)V" } : Jvm.MethodName)) ∈ GW := gw_of m508 rfl
theorem m509 : (Jvm.Cond.selects "Compactforms$Value" ({ cls := "Compactforms$Value", name := "dropOut", desc := "(I)V" } : Jvm.MethodName) ({ cls := "Compactforms$Value", name := "dropOut", desc := "(I)V" } : Jvm.MethodName)) ∈ lw_tbl := tk3 (List.mem_of_getElem? (i := 29) rfl)
theorem w509 : (Jvm.Cond.selects "Compactforms$Value" ({ cls := "Compactforms$Value", name := "dropOut", desc := "(I)V" } : Jvm.MethodName) ({ cls := "Compactforms$Value", name := "dropOut", desc := "(I)V" } : Jvm.MethodName)) ∈ GW := gw_of m509 rfl
theorem m510 : (Jvm.Cond.code ({ cls := "Compactforms$Value", name := "dropOut", desc := "(I)V" } : Jvm.MethodName) prog_8_method_9_code (3 : Nat) (Option.none : Option Jvm.ClassFile.FieldType)) ∈ lw_tbl := tk3 (List.mem_of_getElem? (i := 30) rfl)
theorem w510 : (Jvm.Cond.code ({ cls := "Compactforms$Value", name := "dropOut", desc := "(I)V" } : Jvm.MethodName) prog_8_method_9_code (3 : Nat) (Option.none : Option Jvm.ClassFile.FieldType)) ∈ GW := gw_of m510 rfl
theorem m511 : (Jvm.Cond.methodLink "Compactforms$Value" (91 : Nat) ({ cls := "Compactforms$Form", name := "dropOut", desc := "(II)V" } : Jvm.MethodName)) ∈ lw_tbl := tk3 (List.mem_of_getElem? (i := 31) rfl)
theorem w511 : (Jvm.Cond.methodLink "Compactforms$Value" (91 : Nat) ({ cls := "Compactforms$Form", name := "dropOut", desc := "(II)V" } : Jvm.MethodName)) ∈ GW := gw_of m511 rfl
theorem m512 : (Jvm.Cond.declares ({ cls := "Compactforms$Form", name := "dropOut", desc := "(II)V" } : Jvm.MethodName)) ∈ lw_tbl := tk3 (List.mem_of_getElem? (i := 32) rfl)
theorem m513 : (Jvm.Cond.sameMethod "Compactforms$Form" "Compactforms$Form" "dropOut" "(II)V") ∈ lw_tbl := tk3 (List.mem_of_getElem? (i := 33) rfl)
theorem w513 : (Jvm.Cond.sameMethod "Compactforms$Form" "Compactforms$Form" "dropOut" "(II)V") ∈ GW := gw_of m513 rfl
theorem m514 : (Jvm.Cond.selects "Compactforms$Chain" ({ cls := "Compactforms$Form", name := "dropOut", desc := "(II)V" } : Jvm.MethodName) ({ cls := "Compactforms$Chain", name := "dropOut", desc := "(II)V" } : Jvm.MethodName)) ∈ lw_tbl := tk3 (List.mem_of_getElem? (i := 34) rfl)
theorem w514 : (Jvm.Cond.selects "Compactforms$Chain" ({ cls := "Compactforms$Form", name := "dropOut", desc := "(II)V" } : Jvm.MethodName) ({ cls := "Compactforms$Chain", name := "dropOut", desc := "(II)V" } : Jvm.MethodName)) ∈ GW := gw_of m514 rfl
theorem m515 : (Jvm.Cond.instanceMethod ({ cls := "Compactforms$Chain", name := "dropOut", desc := "(II)V" } : Jvm.MethodName)) ∈ lw_tbl := tk3 (List.mem_of_getElem? (i := 35) rfl)
theorem w515 : (Jvm.Cond.instanceMethod ({ cls := "Compactforms$Chain", name := "dropOut", desc := "(II)V" } : Jvm.MethodName)) ∈ GW := gw_of m515 rfl
theorem m516 : (Jvm.Cond.code ({ cls := "Compactforms$Chain", name := "dropOut", desc := "(II)V" } : Jvm.MethodName) prog_2_method_8_code (5 : Nat) (Option.none : Option Jvm.ClassFile.FieldType)) ∈ lw_tbl := tk3 (List.mem_of_getElem? (i := 36) rfl)
theorem w516 : (Jvm.Cond.code ({ cls := "Compactforms$Chain", name := "dropOut", desc := "(II)V" } : Jvm.MethodName) prog_2_method_8_code (5 : Nat) (Option.none : Option Jvm.ClassFile.FieldType)) ∈ GW := gw_of m516 rfl
theorem m517 : (Jvm.Cond.selects "Compactforms$Row" ({ cls := "Compactforms$Form", name := "dropOut", desc := "(II)V" } : Jvm.MethodName) ({ cls := "Compactforms$Row", name := "dropOut", desc := "(II)V" } : Jvm.MethodName)) ∈ lw_tbl := tk3 (List.mem_of_getElem? (i := 37) rfl)
theorem w517 : (Jvm.Cond.selects "Compactforms$Row" ({ cls := "Compactforms$Form", name := "dropOut", desc := "(II)V" } : Jvm.MethodName) ({ cls := "Compactforms$Row", name := "dropOut", desc := "(II)V" } : Jvm.MethodName)) ∈ GW := gw_of m517 rfl
theorem m518 : (Jvm.Cond.instanceMethod ({ cls := "Compactforms$Row", name := "dropOut", desc := "(II)V" } : Jvm.MethodName)) ∈ lw_tbl := tk3 (List.mem_of_getElem? (i := 38) rfl)
theorem w518 : (Jvm.Cond.instanceMethod ({ cls := "Compactforms$Row", name := "dropOut", desc := "(II)V" } : Jvm.MethodName)) ∈ GW := gw_of m518 rfl
theorem m519 : (Jvm.Cond.code ({ cls := "Compactforms$Row", name := "dropOut", desc := "(II)V" } : Jvm.MethodName) prog_6_method_7_code (3 : Nat) (Option.none : Option Jvm.ClassFile.FieldType)) ∈ lw_tbl := tk3 (List.mem_of_getElem? (i := 39) rfl)
theorem w519 : (Jvm.Cond.code ({ cls := "Compactforms$Row", name := "dropOut", desc := "(II)V" } : Jvm.MethodName) prog_6_method_7_code (3 : Nat) (Option.none : Option Jvm.ClassFile.FieldType)) ∈ GW := gw_of m519 rfl
theorem m520 : (Jvm.Cond.selects "Compactforms$Table" ({ cls := "Compactforms$Form", name := "dropOut", desc := "(II)V" } : Jvm.MethodName) ({ cls := "Compactforms$Table", name := "dropOut", desc := "(II)V" } : Jvm.MethodName)) ∈ lw_tbl := tk3 (List.mem_of_getElem? (i := 40) rfl)
theorem w520 : (Jvm.Cond.selects "Compactforms$Table" ({ cls := "Compactforms$Form", name := "dropOut", desc := "(II)V" } : Jvm.MethodName) ({ cls := "Compactforms$Table", name := "dropOut", desc := "(II)V" } : Jvm.MethodName)) ∈ GW := gw_of m520 rfl
theorem m521 : (Jvm.Cond.instanceMethod ({ cls := "Compactforms$Table", name := "dropOut", desc := "(II)V" } : Jvm.MethodName)) ∈ lw_tbl := tk3 (List.mem_of_getElem? (i := 41) rfl)
theorem w521 : (Jvm.Cond.instanceMethod ({ cls := "Compactforms$Table", name := "dropOut", desc := "(II)V" } : Jvm.MethodName)) ∈ GW := gw_of m521 rfl
theorem m522 : (Jvm.Cond.code ({ cls := "Compactforms$Table", name := "dropOut", desc := "(II)V" } : Jvm.MethodName) prog_7_method_12_code (7 : Nat) (Option.none : Option Jvm.ClassFile.FieldType)) ∈ lw_tbl := tk3 (List.mem_of_getElem? (i := 42) rfl)
theorem w522 : (Jvm.Cond.code ({ cls := "Compactforms$Table", name := "dropOut", desc := "(II)V" } : Jvm.MethodName) prog_7_method_12_code (7 : Nat) (Option.none : Option Jvm.ClassFile.FieldType)) ∈ GW := gw_of m522 rfl
theorem m523 : (Jvm.Cond.methodLink "Compactforms$Value" (95 : Nat) ({ cls := "Compactforms$Row", name := "dropOut", desc := "(II)V" } : Jvm.MethodName)) ∈ lw_tbl := tk3 (List.mem_of_getElem? (i := 43) rfl)
theorem w523 : (Jvm.Cond.methodLink "Compactforms$Value" (95 : Nat) ({ cls := "Compactforms$Row", name := "dropOut", desc := "(II)V" } : Jvm.MethodName)) ∈ GW := gw_of m523 rfl
theorem m524 : (Jvm.Cond.methodLink "Compactforms" (247 : Nat) ({ cls := "Compactforms$Value", name := "dropOut", desc := "(I)V" } : Jvm.MethodName)) ∈ lw_tbl := tk3 (List.mem_of_getElem? (i := 44) rfl)
theorem w524 : (Jvm.Cond.methodLink "Compactforms" (247 : Nat) ({ cls := "Compactforms$Value", name := "dropOut", desc := "(I)V" } : Jvm.MethodName)) ∈ GW := gw_of m524 rfl
theorem m525 : (Jvm.Cond.methodLink "Compactforms" (250 : Nat) ({ cls := "Compactforms$Row", name := "countAhead", desc := "(II)I" } : Jvm.MethodName)) ∈ lw_tbl := tk3 (List.mem_of_getElem? (i := 45) rfl)
theorem w525 : (Jvm.Cond.methodLink "Compactforms" (250 : Nat) ({ cls := "Compactforms$Row", name := "countAhead", desc := "(II)I" } : Jvm.MethodName)) ∈ GW := gw_of m525 rfl
theorem m526 : (Jvm.Cond.instanceMethod ({ cls := "Compactforms$Row", name := "countAhead", desc := "(II)I" } : Jvm.MethodName)) ∈ lw_tbl := tk3 (List.mem_of_getElem? (i := 46) rfl)
theorem w526 : (Jvm.Cond.instanceMethod ({ cls := "Compactforms$Row", name := "countAhead", desc := "(II)I" } : Jvm.MethodName)) ∈ GW := gw_of m526 rfl
theorem m527 : (Jvm.Cond.selects "Compactforms$Row" ({ cls := "Compactforms$Row", name := "countAhead", desc := "(II)I" } : Jvm.MethodName) ({ cls := "Compactforms$Row", name := "countAhead", desc := "(II)I" } : Jvm.MethodName)) ∈ lw_tbl := tk3 (List.mem_of_getElem? (i := 47) rfl)
theorem w527 : (Jvm.Cond.selects "Compactforms$Row" ({ cls := "Compactforms$Row", name := "countAhead", desc := "(II)I" } : Jvm.MethodName) ({ cls := "Compactforms$Row", name := "countAhead", desc := "(II)I" } : Jvm.MethodName)) ∈ GW := gw_of m527 rfl
theorem m528 : (Jvm.Cond.code ({ cls := "Compactforms$Row", name := "countAhead", desc := "(II)I" } : Jvm.MethodName) prog_6_method_8_code (6 : Nat) (Option.some Jvm.ClassFile.FieldType.int)) ∈ lw_tbl := tk3 (List.mem_of_getElem? (i := 48) rfl)
theorem w528 : (Jvm.Cond.code ({ cls := "Compactforms$Row", name := "countAhead", desc := "(II)I" } : Jvm.MethodName) prog_6_method_8_code (6 : Nat) (Option.some Jvm.ClassFile.FieldType.int)) ∈ GW := gw_of m528 rfl
theorem m529 : (Jvm.Cond.methodLink "Compactforms$Row" (28 : Nat) ({ cls := "Compactforms$Row", name := "orderOf", desc := "(I)I" } : Jvm.MethodName)) ∈ lw_tbl := tk3 (List.mem_of_getElem? (i := 49) rfl)
theorem w529 : (Jvm.Cond.methodLink "Compactforms$Row" (28 : Nat) ({ cls := "Compactforms$Row", name := "orderOf", desc := "(I)I" } : Jvm.MethodName)) ∈ GW := gw_of m529 rfl
theorem m530 : (Jvm.Cond.static ({ cls := "Compactforms$Row", name := "orderOf", desc := "(I)I" } : Jvm.MethodName)) ∈ lw_tbl := tk3 (List.mem_of_getElem? (i := 50) rfl)
theorem w530 : (Jvm.Cond.static ({ cls := "Compactforms$Row", name := "orderOf", desc := "(I)I" } : Jvm.MethodName)) ∈ GW := gw_of m530 rfl
theorem m531 : (Jvm.Cond.code ({ cls := "Compactforms$Row", name := "orderOf", desc := "(I)I" } : Jvm.MethodName) prog_6_method_9_code (1 : Nat) (Option.some Jvm.ClassFile.FieldType.int)) ∈ lw_tbl := tk3 (List.mem_of_getElem? (i := 51) rfl)
theorem w531 : (Jvm.Cond.code ({ cls := "Compactforms$Row", name := "orderOf", desc := "(I)I" } : Jvm.MethodName) prog_6_method_9_code (1 : Nat) (Option.some Jvm.ClassFile.FieldType.int)) ∈ GW := gw_of m531 rfl
theorem m532 : (Jvm.Cond.constant "Compactforms$Row" (38 : Nat) (2147483647 : Int32)) ∈ lw_tbl := tk3 (List.mem_of_getElem? (i := 52) rfl)
theorem w532 : (Jvm.Cond.constant "Compactforms$Row" (38 : Nat) (2147483647 : Int32)) ∈ GW := gw_of m532 rfl
theorem m533 : (Jvm.Cond.methodLink "Compactforms$Row" (32 : Nat) ({ cls := "java/lang/Integer", name := "compare", desc := "(II)I" } : Jvm.MethodName)) ∈ lw_tbl := tk3 (List.mem_of_getElem? (i := 53) rfl)
theorem w533 : (Jvm.Cond.methodLink "Compactforms$Row" (32 : Nat) ({ cls := "java/lang/Integer", name := "compare", desc := "(II)I" } : Jvm.MethodName)) ∈ GW := gw_of m533 rfl
theorem m534 : (Jvm.Cond.static ({ cls := "java/lang/Integer", name := "compare", desc := "(II)I" } : Jvm.MethodName)) ∈ lw_tbl := tk3 (List.mem_of_getElem? (i := 54) rfl)
theorem w534 : (Jvm.Cond.static ({ cls := "java/lang/Integer", name := "compare", desc := "(II)I" } : Jvm.MethodName)) ∈ GW := gw_of m534 rfl
theorem m535 : (Jvm.Cond.code ({ cls := "java/lang/Integer", name := "compare", desc := "(II)I" } : Jvm.MethodName) prog_15_method_40_code (2 : Nat) (Option.some Jvm.ClassFile.FieldType.int)) ∈ lw_tbl := tk3 (List.mem_of_getElem? (i := 55) rfl)
theorem w535 : (Jvm.Cond.code ({ cls := "java/lang/Integer", name := "compare", desc := "(II)I" } : Jvm.MethodName) prog_15_method_40_code (2 : Nat) (Option.some Jvm.ClassFile.FieldType.int)) ∈ GW := gw_of m535 rfl
theorem m536 : (Jvm.Cond.methodLink "Compactforms" (253 : Nat) ({ cls := "Compactforms$Value", name := "removeIfThere", desc := "(I)I" } : Jvm.MethodName)) ∈ lw_tbl := tk3 (List.mem_of_getElem? (i := 56) rfl)
theorem w536 : (Jvm.Cond.methodLink "Compactforms" (253 : Nat) ({ cls := "Compactforms$Value", name := "removeIfThere", desc := "(I)I" } : Jvm.MethodName)) ∈ GW := gw_of m536 rfl
theorem m537 : (Jvm.Cond.instanceMethod ({ cls := "Compactforms$Value", name := "removeIfThere", desc := "(I)I" } : Jvm.MethodName)) ∈ lw_tbl := tk3 (List.mem_of_getElem? (i := 57) rfl)
theorem w537 : (Jvm.Cond.instanceMethod ({ cls := "Compactforms$Value", name := "removeIfThere", desc := "(I)I" } : Jvm.MethodName)) ∈ GW := gw_of m537 rfl
theorem m538 : (Jvm.Cond.selects "Compactforms$Value" ({ cls := "Compactforms$Value", name := "removeIfThere", desc := "(I)I" } : Jvm.MethodName) ({ cls := "Compactforms$Value", name := "removeIfThere", desc := "(I)I" } : Jvm.MethodName)) ∈ lw_tbl := tk3 (List.mem_of_getElem? (i := 58) rfl)
theorem w538 : (Jvm.Cond.selects "Compactforms$Value" ({ cls := "Compactforms$Value", name := "removeIfThere", desc := "(I)I" } : Jvm.MethodName) ({ cls := "Compactforms$Value", name := "removeIfThere", desc := "(I)I" } : Jvm.MethodName)) ∈ GW := gw_of m538 rfl
theorem m539 : (Jvm.Cond.code ({ cls := "Compactforms$Value", name := "removeIfThere", desc := "(I)I" } : Jvm.MethodName) prog_8_method_11_code (2 : Nat) (Option.some Jvm.ClassFile.FieldType.int)) ∈ lw_tbl := tk3 (List.mem_of_getElem? (i := 59) rfl)
theorem w539 : (Jvm.Cond.code ({ cls := "Compactforms$Value", name := "removeIfThere", desc := "(I)I" } : Jvm.MethodName) prog_8_method_11_code (2 : Nat) (Option.some Jvm.ClassFile.FieldType.int)) ∈ GW := gw_of m539 rfl
theorem m540 : (Jvm.Cond.methodLink "Compactforms$Value" (99 : Nat) ({ cls := "Compactforms$Value", name := "isThere", desc := "(I)Z" } : Jvm.MethodName)) ∈ lw_tbl := tk3 (List.mem_of_getElem? (i := 60) rfl)
theorem w540 : (Jvm.Cond.methodLink "Compactforms$Value" (99 : Nat) ({ cls := "Compactforms$Value", name := "isThere", desc := "(I)Z" } : Jvm.MethodName)) ∈ GW := gw_of m540 rfl
theorem m541 : (Jvm.Cond.methodLink "Compactforms" (256 : Nat) ({ cls := "Compactforms$Value", name := "endIfThere", desc := "(II)I" } : Jvm.MethodName)) ∈ lw_tbl := tk3 (List.mem_of_getElem? (i := 61) rfl)
theorem w541 : (Jvm.Cond.methodLink "Compactforms" (256 : Nat) ({ cls := "Compactforms$Value", name := "endIfThere", desc := "(II)I" } : Jvm.MethodName)) ∈ GW := gw_of m541 rfl
theorem m542 : (Jvm.Cond.instanceMethod ({ cls := "Compactforms$Value", name := "endIfThere", desc := "(II)I" } : Jvm.MethodName)) ∈ lw_tbl := tk3 (List.mem_of_getElem? (i := 62) rfl)
theorem w542 : (Jvm.Cond.instanceMethod ({ cls := "Compactforms$Value", name := "endIfThere", desc := "(II)I" } : Jvm.MethodName)) ∈ GW := gw_of m542 rfl
theorem m543 : (Jvm.Cond.selects "Compactforms$Value" ({ cls := "Compactforms$Value", name := "endIfThere", desc := "(II)I" } : Jvm.MethodName) ({ cls := "Compactforms$Value", name := "endIfThere", desc := "(II)I" } : Jvm.MethodName)) ∈ lw_tbl := tk3 (List.mem_of_getElem? (i := 63) rfl)
theorem w543 : (Jvm.Cond.selects "Compactforms$Value" ({ cls := "Compactforms$Value", name := "endIfThere", desc := "(II)I" } : Jvm.MethodName) ({ cls := "Compactforms$Value", name := "endIfThere", desc := "(II)I" } : Jvm.MethodName)) ∈ GW := gw_of m543 rfl
theorem m544 : (Jvm.Cond.code ({ cls := "Compactforms$Value", name := "endIfThere", desc := "(II)I" } : Jvm.MethodName) prog_8_method_12_code (3 : Nat) (Option.some Jvm.ClassFile.FieldType.int)) ∈ lw_tbl := tk3 (List.mem_of_getElem? (i := 64) rfl)
theorem w544 : (Jvm.Cond.code ({ cls := "Compactforms$Value", name := "endIfThere", desc := "(II)I" } : Jvm.MethodName) prog_8_method_12_code (3 : Nat) (Option.some Jvm.ClassFile.FieldType.int)) ∈ GW := gw_of m544 rfl
theorem m545 : (Jvm.Cond.methodLink "Compactforms" (259 : Nat) ({ cls := "Compactforms$Groups", name := "giveNext", desc := "(IIII)I" } : Jvm.MethodName)) ∈ lw_tbl := tk3 (List.mem_of_getElem? (i := 65) rfl)
theorem w545 : (Jvm.Cond.methodLink "Compactforms" (259 : Nat) ({ cls := "Compactforms$Groups", name := "giveNext", desc := "(IIII)I" } : Jvm.MethodName)) ∈ GW := gw_of m545 rfl
theorem m546 : (Jvm.Cond.instanceMethod ({ cls := "Compactforms$Groups", name := "giveNext", desc := "(IIII)I" } : Jvm.MethodName)) ∈ lw_tbl := tk3 (List.mem_of_getElem? (i := 66) rfl)
theorem w546 : (Jvm.Cond.instanceMethod ({ cls := "Compactforms$Groups", name := "giveNext", desc := "(IIII)I" } : Jvm.MethodName)) ∈ GW := gw_of m546 rfl
theorem m547 : (Jvm.Cond.selects "Compactforms$Groups" ({ cls := "Compactforms$Groups", name := "giveNext", desc := "(IIII)I" } : Jvm.MethodName) ({ cls := "Compactforms$Groups", name := "giveNext", desc := "(IIII)I" } : Jvm.MethodName)) ∈ lw_tbl := tk3 (List.mem_of_getElem? (i := 67) rfl)
theorem w547 : (Jvm.Cond.selects "Compactforms$Groups" ({ cls := "Compactforms$Groups", name := "giveNext", desc := "(IIII)I" } : Jvm.MethodName) ({ cls := "Compactforms$Groups", name := "giveNext", desc := "(IIII)I" } : Jvm.MethodName)) ∈ GW := gw_of m547 rfl
theorem m548 : (Jvm.Cond.code ({ cls := "Compactforms$Groups", name := "giveNext", desc := "(IIII)I" } : Jvm.MethodName) prog_4_method_3_code (6 : Nat) (Option.some Jvm.ClassFile.FieldType.int)) ∈ lw_tbl := tk3 (List.mem_of_getElem? (i := 68) rfl)
theorem w548 : (Jvm.Cond.code ({ cls := "Compactforms$Groups", name := "giveNext", desc := "(IIII)I" } : Jvm.MethodName) prog_4_method_3_code (6 : Nat) (Option.some Jvm.ClassFile.FieldType.int)) ∈ GW := gw_of m548 rfl
theorem m549 : (Jvm.Cond.methodLinkNest "Compactforms$Groups" (24 : Nat) ({ cls := "Compactforms", name := "isGroup", desc := "(I)Z" } : Jvm.MethodName) "Compactforms") ∈ lw_tbl := tk3 (List.mem_of_getElem? (i := 69) rfl)
theorem m550 : (Jvm.Cond.static ({ cls := "Compactforms", name := "isGroup", desc := "(I)Z" } : Jvm.MethodName)) ∈ lw_tbl := tk3 (List.mem_of_getElem? (i := 70) rfl)
theorem w550 : (Jvm.Cond.static ({ cls := "Compactforms", name := "isGroup", desc := "(I)Z" } : Jvm.MethodName)) ∈ GW := gw_of m550 rfl
theorem m551 : (Jvm.Cond.code ({ cls := "Compactforms", name := "isGroup", desc := "(I)Z" } : Jvm.MethodName) prog_1_method_33_code (1 : Nat) (Option.some Jvm.ClassFile.FieldType.boolean)) ∈ lw_tbl := tk3 (List.mem_of_getElem? (i := 71) rfl)
theorem w551 : (Jvm.Cond.code ({ cls := "Compactforms", name := "isGroup", desc := "(I)Z" } : Jvm.MethodName) prog_1_method_33_code (1 : Nat) (Option.some Jvm.ClassFile.FieldType.boolean)) ∈ GW := gw_of m551 rfl
theorem m552 : (Jvm.Cond.methodLinkNest "Compactforms$Groups" (28 : Nat) ({ cls := "Compactforms", name := "isWithin", desc := "(III)Z" } : Jvm.MethodName) "Compactforms") ∈ lw_tbl := tk3 (List.mem_of_getElem? (i := 72) rfl)
theorem m553 : (Jvm.Cond.methodLink "Compactforms" (263 : Nat) ({ cls := "Compactforms$Groups", name := "finish", desc := "(II)I" } : Jvm.MethodName)) ∈ lw_tbl := tk3 (List.mem_of_getElem? (i := 73) rfl)
theorem w553 : (Jvm.Cond.methodLink "Compactforms" (263 : Nat) ({ cls := "Compactforms$Groups", name := "finish", desc := "(II)I" } : Jvm.MethodName)) ∈ GW := gw_of m553 rfl
theorem m554 : (Jvm.Cond.instanceMethod ({ cls := "Compactforms$Groups", name := "finish", desc := "(II)I" } : Jvm.MethodName)) ∈ lw_tbl := tk3 (List.mem_of_getElem? (i := 74) rfl)
theorem w554 : (Jvm.Cond.instanceMethod ({ cls := "Compactforms$Groups", name := "finish", desc := "(II)I" } : Jvm.MethodName)) ∈ GW := gw_of m554 rfl
theorem m555 : (Jvm.Cond.selects "Compactforms$Groups" ({ cls := "Compactforms$Groups", name := "finish", desc := "(II)I" } : Jvm.MethodName) ({ cls := "Compactforms$Groups", name := "finish", desc := "(II)I" } : Jvm.MethodName)) ∈ lw_tbl := tk3 (List.mem_of_getElem? (i := 75) rfl)
theorem w555 : (Jvm.Cond.selects "Compactforms$Groups" ({ cls := "Compactforms$Groups", name := "finish", desc := "(II)I" } : Jvm.MethodName) ({ cls := "Compactforms$Groups", name := "finish", desc := "(II)I" } : Jvm.MethodName)) ∈ GW := gw_of m555 rfl
theorem m556 : (Jvm.Cond.code ({ cls := "Compactforms$Groups", name := "finish", desc := "(II)I" } : Jvm.MethodName) prog_4_method_4_code (5 : Nat) (Option.some Jvm.ClassFile.FieldType.int)) ∈ lw_tbl := tk3 (List.mem_of_getElem? (i := 76) rfl)
theorem w556 : (Jvm.Cond.code ({ cls := "Compactforms$Groups", name := "finish", desc := "(II)I" } : Jvm.MethodName) prog_4_method_4_code (5 : Nat) (Option.some Jvm.ClassFile.FieldType.int)) ∈ GW := gw_of m556 rfl
theorem m557 : (Jvm.Cond.methodLink "Compactforms" (266 : Nat) ({ cls := "Compactforms$Groups", name := "moveTo", desc := "(IIII)I" } : Jvm.MethodName)) ∈ lw_tbl := tk3 (List.mem_of_getElem? (i := 77) rfl)
theorem w557 : (Jvm.Cond.methodLink "Compactforms" (266 : Nat) ({ cls := "Compactforms$Groups", name := "moveTo", desc := "(IIII)I" } : Jvm.MethodName)) ∈ GW := gw_of m557 rfl
theorem m558 : (Jvm.Cond.instanceMethod ({ cls := "Compactforms$Groups", name := "moveTo", desc := "(IIII)I" } : Jvm.MethodName)) ∈ lw_tbl := tk3 (List.mem_of_getElem? (i := 78) rfl)
theorem w558 : (Jvm.Cond.instanceMethod ({ cls := "Compactforms$Groups", name := "moveTo", desc := "(IIII)I" } : Jvm.MethodName)) ∈ GW := gw_of m558 rfl
theorem m559 : (Jvm.Cond.selects "Compactforms$Groups" ({ cls := "Compactforms$Groups", name := "moveTo", desc := "(IIII)I" } : Jvm.MethodName) ({ cls := "Compactforms$Groups", name := "moveTo", desc := "(IIII)I" } : Jvm.MethodName)) ∈ lw_tbl := tk3 (List.mem_of_getElem? (i := 79) rfl)
theorem w559 : (Jvm.Cond.selects "Compactforms$Groups" ({ cls := "Compactforms$Groups", name := "moveTo", desc := "(IIII)I" } : Jvm.MethodName) ({ cls := "Compactforms$Groups", name := "moveTo", desc := "(IIII)I" } : Jvm.MethodName)) ∈ GW := gw_of m559 rfl
theorem m560 : (Jvm.Cond.code ({ cls := "Compactforms$Groups", name := "moveTo", desc := "(IIII)I" } : Jvm.MethodName) prog_4_method_5_code (8 : Nat) (Option.some Jvm.ClassFile.FieldType.int)) ∈ lw_tbl := tk3 (List.mem_of_getElem? (i := 80) rfl)
theorem w560 : (Jvm.Cond.code ({ cls := "Compactforms$Groups", name := "moveTo", desc := "(IIII)I" } : Jvm.MethodName) prog_4_method_5_code (8 : Nat) (Option.some Jvm.ClassFile.FieldType.int)) ∈ GW := gw_of m560 rfl
theorem m561 : (Jvm.Cond.methodLink "Compactforms" (226 : Nat) ({ cls := "Compactforms$Log", name := "addRow", desc := "(IIIII)V" } : Jvm.MethodName)) ∈ lw_tbl := tk3 (List.mem_of_getElem? (i := 81) rfl)
theorem w561 : (Jvm.Cond.methodLink "Compactforms" (226 : Nat) ({ cls := "Compactforms$Log", name := "addRow", desc := "(IIIII)V" } : Jvm.MethodName)) ∈ GW := gw_of m561 rfl
theorem m562 : (Jvm.Cond.instanceMethod ({ cls := "Compactforms$Log", name := "addRow", desc := "(IIIII)V" } : Jvm.MethodName)) ∈ lw_tbl := tk3 (List.mem_of_getElem? (i := 82) rfl)
theorem w562 : (Jvm.Cond.instanceMethod ({ cls := "Compactforms$Log", name := "addRow", desc := "(IIIII)V" } : Jvm.MethodName)) ∈ GW := gw_of m562 rfl
theorem m563 : (Jvm.Cond.selects "Compactforms$Log" ({ cls := "Compactforms$Log", name := "addRow", desc := "(IIIII)V" } : Jvm.MethodName) ({ cls := "Compactforms$Log", name := "addRow", desc := "(IIIII)V" } : Jvm.MethodName)) ∈ lw_tbl := tk3 (List.mem_of_getElem? (i := 83) rfl)
theorem w563 : (Jvm.Cond.selects "Compactforms$Log" ({ cls := "Compactforms$Log", name := "addRow", desc := "(IIIII)V" } : Jvm.MethodName) ({ cls := "Compactforms$Log", name := "addRow", desc := "(IIIII)V" } : Jvm.MethodName)) ∈ GW := gw_of m563 rfl
theorem m564 : (Jvm.Cond.code ({ cls := "Compactforms$Log", name := "addRow", desc := "(IIIII)V" } : Jvm.MethodName) prog_5_method_4_code (7 : Nat) (Option.none : Option Jvm.ClassFile.FieldType)) ∈ lw_tbl := tk3 (List.mem_of_getElem? (i := 84) rfl)
theorem w564 : (Jvm.Cond.code ({ cls := "Compactforms$Log", name := "addRow", desc := "(IIIII)V" } : Jvm.MethodName) prog_5_method_4_code (7 : Nat) (Option.none : Option Jvm.ClassFile.FieldType)) ∈ GW := gw_of m564 rfl
theorem m565 : (Jvm.Cond.methodLink "Compactforms" (233 : Nat) ({ cls := "Compactforms$Log", name := "stampLast", desc := "(II)V" } : Jvm.MethodName)) ∈ lw_tbl := tk3 (List.mem_of_getElem? (i := 85) rfl)
theorem w565 : (Jvm.Cond.methodLink "Compactforms" (233 : Nat) ({ cls := "Compactforms$Log", name := "stampLast", desc := "(II)V" } : Jvm.MethodName)) ∈ GW := gw_of m565 rfl
theorem m566 : (Jvm.Cond.instanceMethod ({ cls := "Compactforms$Log", name := "stampLast", desc := "(II)V" } : Jvm.MethodName)) ∈ lw_tbl := tk3 (List.mem_of_getElem? (i := 86) rfl)
theorem w566 : (Jvm.Cond.instanceMethod ({ cls := "Compactforms$Log", name := "stampLast", desc := "(II)V" } : Jvm.MethodName)) ∈ GW := gw_of m566 rfl
theorem m567 : (Jvm.Cond.selects "Compactforms$Log" ({ cls := "Compactforms$Log", name := "stampLast", desc := "(II)V" } : Jvm.MethodName) ({ cls := "Compactforms$Log", name := "stampLast", desc := "(II)V" } : Jvm.MethodName)) ∈ lw_tbl := tk3 (List.mem_of_getElem? (i := 87) rfl)
theorem w567 : (Jvm.Cond.selects "Compactforms$Log" ({ cls := "Compactforms$Log", name := "stampLast", desc := "(II)V" } : Jvm.MethodName) ({ cls := "Compactforms$Log", name := "stampLast", desc := "(II)V" } : Jvm.MethodName)) ∈ GW := gw_of m567 rfl
theorem m568 : (Jvm.Cond.code ({ cls := "Compactforms$Log", name := "stampLast", desc := "(II)V" } : Jvm.MethodName) prog_5_method_5_code (3 : Nat) (Option.none : Option Jvm.ClassFile.FieldType)) ∈ lw_tbl := tk3 (List.mem_of_getElem? (i := 88) rfl)
theorem w568 : (Jvm.Cond.code ({ cls := "Compactforms$Log", name := "stampLast", desc := "(II)V" } : Jvm.MethodName) prog_5_method_5_code (3 : Nat) (Option.none : Option Jvm.ClassFile.FieldType)) ∈ GW := gw_of m568 rfl
theorem m569 : (Jvm.Cond.methodLink "Compactforms$Log" (19 : Nat) ({ cls := "Compactforms$Log", name := "stamp", desc := "(III)V" } : Jvm.MethodName)) ∈ lw_tbl := tk3 (List.mem_of_getElem? (i := 89) rfl)
theorem w569 : (Jvm.Cond.methodLink "Compactforms$Log" (19 : Nat) ({ cls := "Compactforms$Log", name := "stamp", desc := "(III)V" } : Jvm.MethodName)) ∈ GW := gw_of m569 rfl
theorem m570 : (Jvm.Cond.instanceMethod ({ cls := "Compactforms$Log", name := "stamp", desc := "(III)V" } : Jvm.MethodName)) ∈ lw_tbl := tk3 (List.mem_of_getElem? (i := 90) rfl)
theorem w570 : (Jvm.Cond.instanceMethod ({ cls := "Compactforms$Log", name := "stamp", desc := "(III)V" } : Jvm.MethodName)) ∈ GW := gw_of m570 rfl
theorem m571 : (Jvm.Cond.selects "Compactforms$Log" ({ cls := "Compactforms$Log", name := "stamp", desc := "(III)V" } : Jvm.MethodName) ({ cls := "Compactforms$Log", name := "stamp", desc := "(III)V" } : Jvm.MethodName)) ∈ lw_tbl := tk3 (List.mem_of_getElem? (i := 91) rfl)
theorem w571 : (Jvm.Cond.selects "Compactforms$Log" ({ cls := "Compactforms$Log", name := "stamp", desc := "(III)V" } : Jvm.MethodName) ({ cls := "Compactforms$Log", name := "stamp", desc := "(III)V" } : Jvm.MethodName)) ∈ GW := gw_of m571 rfl
theorem m572 : (Jvm.Cond.code ({ cls := "Compactforms$Log", name := "stamp", desc := "(III)V" } : Jvm.MethodName) prog_5_method_6_code (4 : Nat) (Option.none : Option Jvm.ClassFile.FieldType)) ∈ lw_tbl := tk3 (List.mem_of_getElem? (i := 92) rfl)
theorem w572 : (Jvm.Cond.code ({ cls := "Compactforms$Log", name := "stamp", desc := "(III)V" } : Jvm.MethodName) prog_5_method_6_code (4 : Nat) (Option.none : Option Jvm.ClassFile.FieldType)) ∈ GW := gw_of m572 rfl
theorem m573 : (Jvm.Cond.methodLink "CompactformsLaw" (16 : Nat) ({ cls := "Compactforms", name := "pop", desc := "(IZ)I" } : Jvm.MethodName)) ∈ lw_tbl := tk3 (List.mem_of_getElem? (i := 93) rfl)
theorem w573 : (Jvm.Cond.methodLink "CompactformsLaw" (16 : Nat) ({ cls := "Compactforms", name := "pop", desc := "(IZ)I" } : Jvm.MethodName)) ∈ GW := gw_of m573 rfl
theorem m574 : (Jvm.Cond.instanceMethod ({ cls := "Compactforms", name := "pop", desc := "(IZ)I" } : Jvm.MethodName)) ∈ lw_tbl := tk3 (List.mem_of_getElem? (i := 94) rfl)
theorem w574 : (Jvm.Cond.instanceMethod ({ cls := "Compactforms", name := "pop", desc := "(IZ)I" } : Jvm.MethodName)) ∈ GW := gw_of m574 rfl
theorem m575 : (Jvm.Cond.selects "Compactforms" ({ cls := "Compactforms", name := "pop", desc := "(IZ)I" } : Jvm.MethodName) ({ cls := "Compactforms", name := "pop", desc := "(IZ)I" } : Jvm.MethodName)) ∈ lw_tbl := tk3 (List.mem_of_getElem? (i := 95) rfl)
theorem w575 : (Jvm.Cond.selects "Compactforms" ({ cls := "Compactforms", name := "pop", desc := "(IZ)I" } : Jvm.MethodName) ({ cls := "Compactforms", name := "pop", desc := "(IZ)I" } : Jvm.MethodName)) ∈ GW := gw_of m575 rfl
theorem m576 : (Jvm.Cond.code ({ cls := "Compactforms", name := "pop", desc := "(IZ)I" } : Jvm.MethodName) prog_1_method_3_code (3 : Nat) (Option.some Jvm.ClassFile.FieldType.int)) ∈ lw_tbl := tk3 (List.mem_of_getElem? (i := 96) rfl)
theorem w576 : (Jvm.Cond.code ({ cls := "Compactforms", name := "pop", desc := "(IZ)I" } : Jvm.MethodName) prog_1_method_3_code (3 : Nat) (Option.some Jvm.ClassFile.FieldType.int)) ∈ GW := gw_of m576 rfl
theorem m577 : (Jvm.Cond.methodLink "CompactformsLaw" (20 : Nat) ({ cls := "Compactforms", name := "add", desc := "(II)Z" } : Jvm.MethodName)) ∈ lw_tbl := tk3 (List.mem_of_getElem? (i := 97) rfl)
theorem w577 : (Jvm.Cond.methodLink "CompactformsLaw" (20 : Nat) ({ cls := "Compactforms", name := "add", desc := "(II)Z" } : Jvm.MethodName)) ∈ GW := gw_of m577 rfl
theorem m578 : (Jvm.Cond.instanceMethod ({ cls := "Compactforms", name := "add", desc := "(II)Z" } : Jvm.MethodName)) ∈ lw_tbl := tk3 (List.mem_of_getElem? (i := 98) rfl)
theorem w578 : (Jvm.Cond.instanceMethod ({ cls := "Compactforms", name := "add", desc := "(II)Z" } : Jvm.MethodName)) ∈ GW := gw_of m578 rfl
theorem m579 : (Jvm.Cond.selects "Compactforms" ({ cls := "Compactforms", name := "add", desc := "(II)Z" } : Jvm.MethodName) ({ cls := "Compactforms", name := "add", desc := "(II)Z" } : Jvm.MethodName)) ∈ lw_tbl := tk3 (List.mem_of_getElem? (i := 99) rfl)
theorem w579 : (Jvm.Cond.selects "Compactforms" ({ cls := "Compactforms", name := "add", desc := "(II)Z" } : Jvm.MethodName) ({ cls := "Compactforms", name := "add", desc := "(II)Z" } : Jvm.MethodName)) ∈ GW := gw_of m579 rfl
theorem m580 : (Jvm.Cond.code ({ cls := "Compactforms", name := "add", desc := "(II)Z" } : Jvm.MethodName) prog_1_method_4_code (3 : Nat) (Option.some Jvm.ClassFile.FieldType.boolean)) ∈ lw_tbl := tk3 (List.mem_of_getElem? (i := 100) rfl)
theorem w580 : (Jvm.Cond.code ({ cls := "Compactforms", name := "add", desc := "(II)Z" } : Jvm.MethodName) prog_1_method_4_code (3 : Nat) (Option.some Jvm.ClassFile.FieldType.boolean)) ∈ GW := gw_of m580 rfl
theorem m581 : (Jvm.Cond.methodLink "CompactformsLaw" (24 : Nat) ({ cls := "Compactforms", name := "take", desc := "(II)Z" } : Jvm.MethodName)) ∈ lw_tbl := tk3 (List.mem_of_getElem? (i := 101) rfl)
theorem w581 : (Jvm.Cond.methodLink "CompactformsLaw" (24 : Nat) ({ cls := "Compactforms", name := "take", desc := "(II)Z" } : Jvm.MethodName)) ∈ GW := gw_of m581 rfl
theorem m582 : (Jvm.Cond.instanceMethod ({ cls := "Compactforms", name := "take", desc := "(II)Z" } : Jvm.MethodName)) ∈ lw_tbl := tk3 (List.mem_of_getElem? (i := 102) rfl)
theorem w582 : (Jvm.Cond.instanceMethod ({ cls := "Compactforms", name := "take", desc := "(II)Z" } : Jvm.MethodName)) ∈ GW := gw_of m582 rfl
theorem m583 : (Jvm.Cond.selects "Compactforms" ({ cls := "Compactforms", name := "take", desc := "(II)Z" } : Jvm.MethodName) ({ cls := "Compactforms", name := "take", desc := "(II)Z" } : Jvm.MethodName)) ∈ lw_tbl := tk3 (List.mem_of_getElem? (i := 103) rfl)
theorem w583 : (Jvm.Cond.selects "Compactforms" ({ cls := "Compactforms", name := "take", desc := "(II)Z" } : Jvm.MethodName) ({ cls := "Compactforms", name := "take", desc := "(II)Z" } : Jvm.MethodName)) ∈ GW := gw_of m583 rfl
theorem m584 : (Jvm.Cond.code ({ cls := "Compactforms", name := "take", desc := "(II)Z" } : Jvm.MethodName) prog_1_method_5_code (3 : Nat) (Option.some Jvm.ClassFile.FieldType.boolean)) ∈ lw_tbl := tk3 (List.mem_of_getElem? (i := 104) rfl)
theorem w584 : (Jvm.Cond.code ({ cls := "Compactforms", name := "take", desc := "(II)Z" } : Jvm.MethodName) prog_1_method_5_code (3 : Nat) (Option.some Jvm.ClassFile.FieldType.boolean)) ∈ GW := gw_of m584 rfl
theorem m585 : (Jvm.Cond.methodLink "CompactformsLaw" (27 : Nat) ({ cls := "Compactforms", name := "rate", desc := "(III)I" } : Jvm.MethodName)) ∈ lw_tbl := tk3 (List.mem_of_getElem? (i := 105) rfl)
theorem w585 : (Jvm.Cond.methodLink "CompactformsLaw" (27 : Nat) ({ cls := "Compactforms", name := "rate", desc := "(III)I" } : Jvm.MethodName)) ∈ GW := gw_of m585 rfl
theorem m586 : (Jvm.Cond.instanceMethod ({ cls := "Compactforms", name := "rate", desc := "(III)I" } : Jvm.MethodName)) ∈ lw_tbl := tk3 (List.mem_of_getElem? (i := 106) rfl)
theorem w586 : (Jvm.Cond.instanceMethod ({ cls := "Compactforms", name := "rate", desc := "(III)I" } : Jvm.MethodName)) ∈ GW := gw_of m586 rfl
theorem m587 : (Jvm.Cond.selects "Compactforms" ({ cls := "Compactforms", name := "rate", desc := "(III)I" } : Jvm.MethodName) ({ cls := "Compactforms", name := "rate", desc := "(III)I" } : Jvm.MethodName)) ∈ lw_tbl := tk3 (List.mem_of_getElem? (i := 107) rfl)
theorem w587 : (Jvm.Cond.selects "Compactforms" ({ cls := "Compactforms", name := "rate", desc := "(III)I" } : Jvm.MethodName) ({ cls := "Compactforms", name := "rate", desc := "(III)I" } : Jvm.MethodName)) ∈ GW := gw_of m587 rfl
theorem m588 : (Jvm.Cond.code ({ cls := "Compactforms", name := "rate", desc := "(III)I" } : Jvm.MethodName) prog_1_method_6_code (4 : Nat) (Option.some Jvm.ClassFile.FieldType.int)) ∈ lw_tbl := tk3 (List.mem_of_getElem? (i := 108) rfl)
theorem w588 : (Jvm.Cond.code ({ cls := "Compactforms", name := "rate", desc := "(III)I" } : Jvm.MethodName) prog_1_method_6_code (4 : Nat) (Option.some Jvm.ClassFile.FieldType.int)) ∈ GW := gw_of m588 rfl
theorem m589 : (Jvm.Cond.constant "Compactforms" (74 : Nat) (2147483647 : Int32)) ∈ lw_tbl := tk3 (List.mem_of_getElem? (i := 109) rfl)
theorem w589 : (Jvm.Cond.constant "Compactforms" (74 : Nat) (2147483647 : Int32)) ∈ GW := gw_of m589 rfl
theorem m590 : (Jvm.Cond.constant "Compactforms" (75 : Nat) (2139095040 : Int32)) ∈ lw_tbl := tk3 (List.mem_of_getElem? (i := 110) rfl)
theorem w590 : (Jvm.Cond.constant "Compactforms" (75 : Nat) (2139095040 : Int32)) ∈ GW := gw_of m590 rfl
theorem m591 : (Jvm.Cond.stringRef "Compactforms" (78 : Nat) "bits of no number") ∈ lw_tbl := tk3 (List.mem_of_getElem? (i := 111) rfl)
theorem m592 : (Jvm.Cond.methodLink "CompactformsLaw" (31 : Nat) ({ cls := "Compactforms", name := "append", desc := "(II)I" } : Jvm.MethodName)) ∈ lw_tbl := tk3 (List.mem_of_getElem? (i := 112) rfl)
theorem w592 : (Jvm.Cond.methodLink "CompactformsLaw" (31 : Nat) ({ cls := "Compactforms", name := "append", desc := "(II)I" } : Jvm.MethodName)) ∈ GW := gw_of m592 rfl
theorem m593 : (Jvm.Cond.instanceMethod ({ cls := "Compactforms", name := "append", desc := "(II)I" } : Jvm.MethodName)) ∈ lw_tbl := tk3 (List.mem_of_getElem? (i := 113) rfl)
theorem w593 : (Jvm.Cond.instanceMethod ({ cls := "Compactforms", name := "append", desc := "(II)I" } : Jvm.MethodName)) ∈ GW := gw_of m593 rfl
theorem m594 : (Jvm.Cond.selects "Compactforms" ({ cls := "Compactforms", name := "append", desc := "(II)I" } : Jvm.MethodName) ({ cls := "Compactforms", name := "append", desc := "(II)I" } : Jvm.MethodName)) ∈ lw_tbl := tk3 (List.mem_of_getElem? (i := 114) rfl)
theorem w594 : (Jvm.Cond.selects "Compactforms" ({ cls := "Compactforms", name := "append", desc := "(II)I" } : Jvm.MethodName) ({ cls := "Compactforms", name := "append", desc := "(II)I" } : Jvm.MethodName)) ∈ GW := gw_of m594 rfl
theorem m595 : (Jvm.Cond.code ({ cls := "Compactforms", name := "append", desc := "(II)I" } : Jvm.MethodName) prog_1_method_7_code (3 : Nat) (Option.some Jvm.ClassFile.FieldType.int)) ∈ lw_tbl := tk3 (List.mem_of_getElem? (i := 115) rfl)
theorem w595 : (Jvm.Cond.code ({ cls := "Compactforms", name := "append", desc := "(II)I" } : Jvm.MethodName) prog_1_method_7_code (3 : Nat) (Option.some Jvm.ClassFile.FieldType.int)) ∈ GW := gw_of m595 rfl
theorem m596 : (Jvm.Cond.methodLink "CompactformsLaw" (35 : Nat) ({ cls := "Compactforms", name := "read", desc := "(III)I" } : Jvm.MethodName)) ∈ lw_tbl := tk3 (List.mem_of_getElem? (i := 116) rfl)
theorem w596 : (Jvm.Cond.methodLink "CompactformsLaw" (35 : Nat) ({ cls := "Compactforms", name := "read", desc := "(III)I" } : Jvm.MethodName)) ∈ GW := gw_of m596 rfl
theorem m597 : (Jvm.Cond.instanceMethod ({ cls := "Compactforms", name := "read", desc := "(III)I" } : Jvm.MethodName)) ∈ lw_tbl := tk3 (List.mem_of_getElem? (i := 117) rfl)
theorem w597 : (Jvm.Cond.instanceMethod ({ cls := "Compactforms", name := "read", desc := "(III)I" } : Jvm.MethodName)) ∈ GW := gw_of m597 rfl
theorem m598 : (Jvm.Cond.selects "Compactforms" ({ cls := "Compactforms", name := "read", desc := "(III)I" } : Jvm.MethodName) ({ cls := "Compactforms", name := "read", desc := "(III)I" } : Jvm.MethodName)) ∈ lw_tbl := tk3 (List.mem_of_getElem? (i := 118) rfl)
theorem w598 : (Jvm.Cond.selects "Compactforms" ({ cls := "Compactforms", name := "read", desc := "(III)I" } : Jvm.MethodName) ({ cls := "Compactforms", name := "read", desc := "(III)I" } : Jvm.MethodName)) ∈ GW := gw_of m598 rfl
theorem m599 : (Jvm.Cond.code ({ cls := "Compactforms", name := "read", desc := "(III)I" } : Jvm.MethodName) prog_1_method_8_code (4 : Nat) (Option.some Jvm.ClassFile.FieldType.int)) ∈ lw_tbl := tk3 (List.mem_of_getElem? (i := 119) rfl)
theorem w599 : (Jvm.Cond.code ({ cls := "Compactforms", name := "read", desc := "(III)I" } : Jvm.MethodName) prog_1_method_8_code (4 : Nat) (Option.some Jvm.ClassFile.FieldType.int)) ∈ GW := gw_of m599 rfl
theorem m600 : (Jvm.Cond.methodLink "Compactforms" (83 : Nat) ({ cls := "Compactforms", name := "needGroup", desc := "(I)V" } : Jvm.MethodName)) ∈ lw_tbl := tk3 (List.mem_of_getElem? (i := 120) rfl)
theorem w600 : (Jvm.Cond.methodLink "Compactforms" (83 : Nat) ({ cls := "Compactforms", name := "needGroup", desc := "(I)V" } : Jvm.MethodName)) ∈ GW := gw_of m600 rfl
theorem m601 : (Jvm.Cond.static ({ cls := "Compactforms", name := "needGroup", desc := "(I)V" } : Jvm.MethodName)) ∈ lw_tbl := tk3 (List.mem_of_getElem? (i := 121) rfl)
theorem w601 : (Jvm.Cond.static ({ cls := "Compactforms", name := "needGroup", desc := "(I)V" } : Jvm.MethodName)) ∈ GW := gw_of m601 rfl
theorem m602 : (Jvm.Cond.code ({ cls := "Compactforms", name := "needGroup", desc := "(I)V" } : Jvm.MethodName) prog_1_method_35_code (1 : Nat) (Option.none : Option Jvm.ClassFile.FieldType)) ∈ lw_tbl := tk3 (List.mem_of_getElem? (i := 122) rfl)
theorem w602 : (Jvm.Cond.code ({ cls := "Compactforms", name := "needGroup", desc := "(I)V" } : Jvm.MethodName) prog_1_method_35_code (1 : Nat) (Option.none : Option Jvm.ClassFile.FieldType)) ∈ GW := gw_of m602 rfl
theorem m603 : (Jvm.Cond.methodLink "Compactforms" (197 : Nat) ({ cls := "Compactforms", name := "isGroup", desc := "(I)Z" } : Jvm.MethodName)) ∈ lw_tbl := tk3 (List.mem_of_getElem? (i := 123) rfl)
theorem w603 : (Jvm.Cond.methodLink "Compactforms" (197 : Nat) ({ cls := "Compactforms", name := "isGroup", desc := "(I)Z" } : Jvm.MethodName)) ∈ GW := gw_of m603 rfl
theorem m604 : (Jvm.Cond.stringRef "Compactforms" (200 : Nat) "no such group") ∈ lw_tbl := tk3 (List.mem_of_getElem? (i := 124) rfl)
theorem m605 : (Jvm.Cond.methodLink "Compactforms" (86 : Nat) ({ cls := "Compactforms", name := "needReader", desc := "(I)V" } : Jvm.MethodName)) ∈ lw_tbl := tk3 (List.mem_of_getElem? (i := 125) rfl)
theorem w605 : (Jvm.Cond.methodLink "Compactforms" (86 : Nat) ({ cls := "Compactforms", name := "needReader", desc := "(I)V" } : Jvm.MethodName)) ∈ GW := gw_of m605 rfl
theorem m606 : (Jvm.Cond.static ({ cls := "Compactforms", name := "needReader", desc := "(I)V" } : Jvm.MethodName)) ∈ lw_tbl := tk3 (List.mem_of_getElem? (i := 126) rfl)
theorem w606 : (Jvm.Cond.static ({ cls := "Compactforms", name := "needReader", desc := "(I)V" } : Jvm.MethodName)) ∈ GW := gw_of m606 rfl
theorem m607 : (Jvm.Cond.code ({ cls := "Compactforms", name := "needReader", desc := "(I)V" } : Jvm.MethodName) prog_1_method_36_code (1 : Nat) (Option.none : Option Jvm.ClassFile.FieldType)) ∈ lw_tbl := tk3 (List.mem_of_getElem? (i := 127) rfl)
theorem w607 : (Jvm.Cond.code ({ cls := "Compactforms", name := "needReader", desc := "(I)V" } : Jvm.MethodName) prog_1_method_36_code (1 : Nat) (Option.none : Option Jvm.ClassFile.FieldType)) ∈ GW := gw_of m607 rfl
theorem m608 : (Jvm.Cond.stringRef "Compactforms" (202 : Nat) "no such reader") ∈ lw_tbl := tk3 (List.mem_of_getElem? (i := 128) rfl)
theorem m609 : (Jvm.Cond.methodLink "CompactformsLaw" (38 : Nat) ({ cls := "Compactforms", name := "done", desc := "(III)Z" } : Jvm.MethodName)) ∈ lw_tbl := tk3 (List.mem_of_getElem? (i := 129) rfl)
theorem w609 : (Jvm.Cond.methodLink "CompactformsLaw" (38 : Nat) ({ cls := "Compactforms", name := "done", desc := "(III)Z" } : Jvm.MethodName)) ∈ GW := gw_of m609 rfl
theorem m610 : (Jvm.Cond.instanceMethod ({ cls := "Compactforms", name := "done", desc := "(III)Z" } : Jvm.MethodName)) ∈ lw_tbl := tk3 (List.mem_of_getElem? (i := 130) rfl)
theorem w610 : (Jvm.Cond.instanceMethod ({ cls := "Compactforms", name := "done", desc := "(III)Z" } : Jvm.MethodName)) ∈ GW := gw_of m610 rfl
theorem m611 : (Jvm.Cond.selects "Compactforms" ({ cls := "Compactforms", name := "done", desc := "(III)Z" } : Jvm.MethodName) ({ cls := "Compactforms", name := "done", desc := "(III)Z" } : Jvm.MethodName)) ∈ lw_tbl := tk3 (List.mem_of_getElem? (i := 131) rfl)
theorem w611 : (Jvm.Cond.selects "Compactforms" ({ cls := "Compactforms", name := "done", desc := "(III)Z" } : Jvm.MethodName) ({ cls := "Compactforms", name := "done", desc := "(III)Z" } : Jvm.MethodName)) ∈ GW := gw_of m611 rfl
theorem m612 : (Jvm.Cond.code ({ cls := "Compactforms", name := "done", desc := "(III)Z" } : Jvm.MethodName) prog_1_method_9_code (4 : Nat) (Option.some Jvm.ClassFile.FieldType.boolean)) ∈ lw_tbl := tk3 (List.mem_of_getElem? (i := 132) rfl)
theorem w612 : (Jvm.Cond.code ({ cls := "Compactforms", name := "done", desc := "(III)Z" } : Jvm.MethodName) prog_1_method_9_code (4 : Nat) (Option.some Jvm.ClassFile.FieldType.boolean)) ∈ GW := gw_of m612 rfl
theorem m613 : (Jvm.Cond.methodLink "CompactformsLaw" (42 : Nat) ({ cls := "Compactforms", name := "claim", desc := "(IIII)I" } : Jvm.MethodName)) ∈ lw_tbl := tk3 (List.mem_of_getElem? (i := 133) rfl)
theorem w613 : (Jvm.Cond.methodLink "CompactformsLaw" (42 : Nat) ({ cls := "Compactforms", name := "claim", desc := "(IIII)I" } : Jvm.MethodName)) ∈ GW := gw_of m613 rfl
theorem m614 : (Jvm.Cond.instanceMethod ({ cls := "Compactforms", name := "claim", desc := "(IIII)I" } : Jvm.MethodName)) ∈ lw_tbl := tk3 (List.mem_of_getElem? (i := 134) rfl)
theorem w614 : (Jvm.Cond.instanceMethod ({ cls := "Compactforms", name := "claim", desc := "(IIII)I" } : Jvm.MethodName)) ∈ GW := gw_of m614 rfl
theorem m615 : (Jvm.Cond.selects "Compactforms" ({ cls := "Compactforms", name := "claim", desc := "(IIII)I" } : Jvm.MethodName) ({ cls := "Compactforms", name := "claim", desc := "(IIII)I" } : Jvm.MethodName)) ∈ lw_tbl := tk3 (List.mem_of_getElem? (i := 135) rfl)
theorem w615 : (Jvm.Cond.selects "Compactforms" ({ cls := "Compactforms", name := "claim", desc := "(IIII)I" } : Jvm.MethodName) ({ cls := "Compactforms", name := "claim", desc := "(IIII)I" } : Jvm.MethodName)) ∈ GW := gw_of m615 rfl
theorem m616 : (Jvm.Cond.code ({ cls := "Compactforms", name := "claim", desc := "(IIII)I" } : Jvm.MethodName) prog_1_method_10_code (5 : Nat) (Option.some Jvm.ClassFile.FieldType.int)) ∈ lw_tbl := tk3 (List.mem_of_getElem? (i := 136) rfl)
theorem w616 : (Jvm.Cond.code ({ cls := "Compactforms", name := "claim", desc := "(IIII)I" } : Jvm.MethodName) prog_1_method_10_code (5 : Nat) (Option.some Jvm.ClassFile.FieldType.int)) ∈ GW := gw_of m616 rfl
theorem m617 : (Jvm.Cond.methodLink "CompactformsLaw" (46 : Nat) ({ cls := "Compactforms", name := "remove", desc := "(I)Z" } : Jvm.MethodName)) ∈ lw_tbl := tk3 (List.mem_of_getElem? (i := 137) rfl)
theorem w617 : (Jvm.Cond.methodLink "CompactformsLaw" (46 : Nat) ({ cls := "Compactforms", name := "remove", desc := "(I)Z" } : Jvm.MethodName)) ∈ GW := gw_of m617 rfl
theorem m618 : (Jvm.Cond.instanceMethod ({ cls := "Compactforms", name := "remove", desc := "(I)Z" } : Jvm.MethodName)) ∈ lw_tbl := tk3 (List.mem_of_getElem? (i := 138) rfl)
theorem w618 : (Jvm.Cond.instanceMethod ({ cls := "Compactforms", name := "remove", desc := "(I)Z" } : Jvm.MethodName)) ∈ GW := gw_of m618 rfl
theorem m619 : (Jvm.Cond.selects "Compactforms" ({ cls := "Compactforms", name := "remove", desc := "(I)Z" } : Jvm.MethodName) ({ cls := "Compactforms", name := "remove", desc := "(I)Z" } : Jvm.MethodName)) ∈ lw_tbl := tk3 (List.mem_of_getElem? (i := 139) rfl)
theorem w619 : (Jvm.Cond.selects "Compactforms" ({ cls := "Compactforms", name := "remove", desc := "(I)Z" } : Jvm.MethodName) ({ cls := "Compactforms", name := "remove", desc := "(I)Z" } : Jvm.MethodName)) ∈ GW := gw_of m619 rfl
theorem m620 : (Jvm.Cond.code ({ cls := "Compactforms", name := "remove", desc := "(I)Z" } : Jvm.MethodName) prog_1_method_12_code (2 : Nat) (Option.some Jvm.ClassFile.FieldType.boolean)) ∈ lw_tbl := tk3 (List.mem_of_getElem? (i := 140) rfl)
theorem w620 : (Jvm.Cond.code ({ cls := "Compactforms", name := "remove", desc := "(I)Z" } : Jvm.MethodName) prog_1_method_12_code (2 : Nat) (Option.some Jvm.ClassFile.FieldType.boolean)) ∈ GW := gw_of m620 rfl
theorem m621 : (Jvm.Cond.methodLink "CompactformsLaw" (50 : Nat) ({ cls := "Compactforms", name := "expire", desc := "(II)Z" } : Jvm.MethodName)) ∈ lw_tbl := tk3 (List.mem_of_getElem? (i := 141) rfl)
theorem w621 : (Jvm.Cond.methodLink "CompactformsLaw" (50 : Nat) ({ cls := "Compactforms", name := "expire", desc := "(II)Z" } : Jvm.MethodName)) ∈ GW := gw_of m621 rfl
theorem m622 : (Jvm.Cond.instanceMethod ({ cls := "Compactforms", name := "expire", desc := "(II)Z" } : Jvm.MethodName)) ∈ lw_tbl := tk3 (List.mem_of_getElem? (i := 142) rfl)
theorem w622 : (Jvm.Cond.instanceMethod ({ cls := "Compactforms", name := "expire", desc := "(II)Z" } : Jvm.MethodName)) ∈ GW := gw_of m622 rfl
theorem m623 : (Jvm.Cond.selects "Compactforms" ({ cls := "Compactforms", name := "expire", desc := "(II)Z" } : Jvm.MethodName) ({ cls := "Compactforms", name := "expire", desc := "(II)Z" } : Jvm.MethodName)) ∈ lw_tbl := tk3 (List.mem_of_getElem? (i := 143) rfl)
theorem w623 : (Jvm.Cond.selects "Compactforms" ({ cls := "Compactforms", name := "expire", desc := "(II)Z" } : Jvm.MethodName) ({ cls := "Compactforms", name := "expire", desc := "(II)Z" } : Jvm.MethodName)) ∈ GW := gw_of m623 rfl
theorem m624 : (Jvm.Cond.code ({ cls := "Compactforms", name := "expire", desc := "(II)Z" } : Jvm.MethodName) prog_1_method_13_code (3 : Nat) (Option.some Jvm.ClassFile.FieldType.boolean)) ∈ lw_tbl := tk3 (List.mem_of_getElem? (i := 144) rfl)
theorem w624 : (Jvm.Cond.code ({ cls := "Compactforms", name := "expire", desc := "(II)Z" } : Jvm.MethodName) prog_1_method_13_code (3 : Nat) (Option.some Jvm.ClassFile.FieldType.boolean)) ∈ GW := gw_of m624 rfl
theorem m625 : (Jvm.Cond.methodLink "CompactformsLaw" (53 : Nat) ({ cls := "Compactforms", name := "at", desc := "(II)I" } : Jvm.MethodName)) ∈ lw_tbl := tk3 (List.mem_of_getElem? (i := 145) rfl)
theorem w625 : (Jvm.Cond.methodLink "CompactformsLaw" (53 : Nat) ({ cls := "Compactforms", name := "at", desc := "(II)I" } : Jvm.MethodName)) ∈ GW := gw_of m625 rfl
theorem m626 : (Jvm.Cond.instanceMethod ({ cls := "Compactforms", name := "at", desc := "(II)I" } : Jvm.MethodName)) ∈ lw_tbl := tk3 (List.mem_of_getElem? (i := 146) rfl)
theorem w626 : (Jvm.Cond.instanceMethod ({ cls := "Compactforms", name := "at", desc := "(II)I" } : Jvm.MethodName)) ∈ GW := gw_of m626 rfl
theorem m627 : (Jvm.Cond.selects "Compactforms" ({ cls := "Compactforms", name := "at", desc := "(II)I" } : Jvm.MethodName) ({ cls := "Compactforms", name := "at", desc := "(II)I" } : Jvm.MethodName)) ∈ lw_tbl := tk3 (List.mem_of_getElem? (i := 147) rfl)
theorem w627 : (Jvm.Cond.selects "Compactforms" ({ cls := "Compactforms", name := "at", desc := "(II)I" } : Jvm.MethodName) ({ cls := "Compactforms", name := "at", desc := "(II)I" } : Jvm.MethodName)) ∈ GW := gw_of m627 rfl
theorem m628 : (Jvm.Cond.code ({ cls := "Compactforms", name := "at", desc := "(II)I" } : Jvm.MethodName) prog_1_method_25_code (3 : Nat) (Option.some Jvm.ClassFile.FieldType.int)) ∈ lw_tbl := tk3 (List.mem_of_getElem? (i := 148) rfl)
theorem w628 : (Jvm.Cond.code ({ cls := "Compactforms", name := "at", desc := "(II)I" } : Jvm.MethodName) prog_1_method_25_code (3 : Nat) (Option.some Jvm.ClassFile.FieldType.int)) ∈ GW := gw_of m628 rfl
theorem m629 : (Jvm.Cond.methodLink "Compactforms" (145 : Nat) ({ cls := "Compactforms", name := "needIndex", desc := "(II)V" } : Jvm.MethodName)) ∈ lw_tbl := tk3 (List.mem_of_getElem? (i := 149) rfl)
theorem w629 : (Jvm.Cond.methodLink "Compactforms" (145 : Nat) ({ cls := "Compactforms", name := "needIndex", desc := "(II)V" } : Jvm.MethodName)) ∈ GW := gw_of m629 rfl
theorem m630 : (Jvm.Cond.privateMethod ({ cls := "Compactforms", name := "needIndex", desc := "(II)V" } : Jvm.MethodName)) ∈ lw_tbl := tk3 (List.mem_of_getElem? (i := 150) rfl)
theorem m631 : (Jvm.Cond.instanceMethod ({ cls := "Compactforms", name := "needIndex", desc := "(II)V" } : Jvm.MethodName)) ∈ lw_tbl := tk3 (List.mem_of_getElem? (i := 151) rfl)
theorem w631 : (Jvm.Cond.instanceMethod ({ cls := "Compactforms", name := "needIndex", desc := "(II)V" } : Jvm.MethodName)) ∈ GW := gw_of m631 rfl
theorem m632 : (Jvm.Cond.code ({ cls := "Compactforms", name := "needIndex", desc := "(II)V" } : Jvm.MethodName) prog_1_method_37_code (3 : Nat) (Option.none : Option Jvm.ClassFile.FieldType)) ∈ lw_tbl := tk3 (List.mem_of_getElem? (i := 152) rfl)
theorem w632 : (Jvm.Cond.code ({ cls := "Compactforms", name := "needIndex", desc := "(II)V" } : Jvm.MethodName) prog_1_method_37_code (3 : Nat) (Option.none : Option Jvm.ClassFile.FieldType)) ∈ GW := gw_of m632 rfl
theorem m633 : (Jvm.Cond.stringRef "Compactforms" (204 : Nat) "no such index") ∈ lw_tbl := tk3 (List.mem_of_getElem? (i := 153) rfl)
theorem m634 : (Jvm.Cond.methodLink "Compactforms" (152 : Nat) ({ cls := "Compactforms$Form", name := "valueAt", desc := "(I)I" } : Jvm.MethodName)) ∈ lw_tbl := tk3 (List.mem_of_getElem? (i := 154) rfl)
theorem w634 : (Jvm.Cond.methodLink "Compactforms" (152 : Nat) ({ cls := "Compactforms$Form", name := "valueAt", desc := "(I)I" } : Jvm.MethodName)) ∈ GW := gw_of m634 rfl
theorem m635 : (Jvm.Cond.methodLink "CompactformsLaw" (56 : Nat) ({ cls := "Compactforms", name := "writeOn", desc := "(I)I" } : Jvm.MethodName)) ∈ lw_tbl := tk3 (List.mem_of_getElem? (i := 155) rfl)
theorem w635 : (Jvm.Cond.methodLink "CompactformsLaw" (56 : Nat) ({ cls := "Compactforms", name := "writeOn", desc := "(I)I" } : Jvm.MethodName)) ∈ GW := gw_of m635 rfl
theorem m636 : (Jvm.Cond.instanceMethod ({ cls := "Compactforms", name := "writeOn", desc := "(I)I" } : Jvm.MethodName)) ∈ lw_tbl := tk3 (List.mem_of_getElem? (i := 156) rfl)
theorem w636 : (Jvm.Cond.instanceMethod ({ cls := "Compactforms", name := "writeOn", desc := "(I)I" } : Jvm.MethodName)) ∈ GW := gw_of m636 rfl
theorem m637 : (Jvm.Cond.selects "Compactforms" ({ cls := "Compactforms", name := "writeOn", desc := "(I)I" } : Jvm.MethodName) ({ cls := "Compactforms", name := "writeOn", desc := "(I)I" } : Jvm.MethodName)) ∈ lw_tbl := tk3 (List.mem_of_getElem? (i := 157) rfl)
theorem w637 : (Jvm.Cond.selects "Compactforms" ({ cls := "Compactforms", name := "writeOn", desc := "(I)I" } : Jvm.MethodName) ({ cls := "Compactforms", name := "writeOn", desc := "(I)I" } : Jvm.MethodName)) ∈ GW := gw_of m637 rfl
theorem m638 : (Jvm.Cond.code ({ cls := "Compactforms", name := "writeOn", desc := "(I)I" } : Jvm.MethodName) prog_1_method_19_code (3 : Nat) (Option.some Jvm.ClassFile.FieldType.int)) ∈ lw_tbl := tk3 (List.mem_of_getElem? (i := 158) rfl)
theorem w638 : (Jvm.Cond.code ({ cls := "Compactforms", name := "writeOn", desc := "(I)I" } : Jvm.MethodName) prog_1_method_19_code (3 : Nat) (Option.some Jvm.ClassFile.FieldType.int)) ∈ GW := gw_of m638 rfl
theorem m639 : (Jvm.Cond.stringRef "Compactforms" (129 : Nat) "no rewriting goes on") ∈ lw_tbl := tk3 (List.mem_of_getElem? (i := 159) rfl)
theorem m640 : (Jvm.Cond.methodLink "Compactforms" (131 : Nat) ({ cls := "Compactforms$Log", name := "copyRows", desc := "(LCompactforms$Log;II)V" } : Jvm.MethodName)) ∈ lw_tbl := tk3 (List.mem_of_getElem? (i := 160) rfl)
theorem w640 : (Jvm.Cond.methodLink "Compactforms" (131 : Nat) ({ cls := "Compactforms$Log", name := "copyRows", desc := "(LCompactforms$Log;II)V" } : Jvm.MethodName)) ∈ GW := gw_of m640 rfl
theorem m641 : (Jvm.Cond.instanceMethod ({ cls := "Compactforms$Log", name := "copyRows", desc := "(LCompactforms$Log;II)V" } : Jvm.MethodName)) ∈ lw_tbl := tk3 (List.mem_of_getElem? (i := 161) rfl)
theorem w641 : (Jvm.Cond.instanceMethod ({ cls := "Compactforms$Log", name := "copyRows", desc := "(LCompactforms$Log;II)V" } : Jvm.MethodName)) ∈ GW := gw_of m641 rfl
theorem m642 : (Jvm.Cond.selects "Compactforms$Log" ({ cls := "Compactforms$Log", name := "copyRows", desc := "(LCompactforms$Log;II)V" } : Jvm.MethodName) ({ cls := "Compactforms$Log", name := "copyRows", desc := "(LCompactforms$Log;II)V" } : Jvm.MethodName)) ∈ lw_tbl := tk3 (List.mem_of_getElem? (i := 162) rfl)
theorem w642 : (Jvm.Cond.selects "Compactforms$Log" ({ cls := "Compactforms$Log", name := "copyRows", desc := "(LCompactforms$Log;II)V" } : Jvm.MethodName) ({ cls := "Compactforms$Log", name := "copyRows", desc := "(LCompactforms$Log;II)V" } : Jvm.MethodName)) ∈ GW := gw_of m642 rfl
theorem m643 : (Jvm.Cond.code ({ cls := "Compactforms$Log", name := "copyRows", desc := "(LCompactforms$Log;II)V" } : Jvm.MethodName) prog_5_method_7_code (4 : Nat) (Option.none : Option Jvm.ClassFile.FieldType)) ∈ lw_tbl := tk3 (List.mem_of_getElem? (i := 163) rfl)
theorem w643 : (Jvm.Cond.code ({ cls := "Compactforms$Log", name := "copyRows", desc := "(LCompactforms$Log;II)V" } : Jvm.MethodName) prog_5_method_7_code (4 : Nat) (Option.none : Option Jvm.ClassFile.FieldType)) ∈ GW := gw_of m643 rfl
theorem m644 : (Jvm.Cond.methodLink "Compactforms$Log" (23 : Nat) ({ cls := "java/lang/System", name := "arraycopy", desc := "(Ljava/lang/Object;ILjava/lang/Object;II)V" } : Jvm.MethodName)) ∈ lw_tbl := tk3 (List.mem_of_getElem? (i := 164) rfl)
theorem w644 : (Jvm.Cond.methodLink "Compactforms$Log" (23 : Nat) ({ cls := "java/lang/System", name := "arraycopy", desc := "(Ljava/lang/Object;ILjava/lang/Object;II)V" } : Jvm.MethodName)) ∈ GW := gw_of m644 rfl
theorem m645 : (Jvm.Cond.methodLink "CompactformsLaw" (60 : Nat) ({ cls := "Compactforms", name := "next", desc := "(II)I" } : Jvm.MethodName)) ∈ lw_tbl := tk3 (List.mem_of_getElem? (i := 165) rfl)
theorem w645 : (Jvm.Cond.methodLink "CompactformsLaw" (60 : Nat) ({ cls := "Compactforms", name := "next", desc := "(II)I" } : Jvm.MethodName)) ∈ GW := gw_of m645 rfl
theorem m646 : (Jvm.Cond.instanceMethod ({ cls := "Compactforms", name := "next", desc := "(II)I" } : Jvm.MethodName)) ∈ lw_tbl := tk3 (List.mem_of_getElem? (i := 166) rfl)
theorem w646 : (Jvm.Cond.instanceMethod ({ cls := "Compactforms", name := "next", desc := "(II)I" } : Jvm.MethodName)) ∈ GW := gw_of m646 rfl
theorem m647 : (Jvm.Cond.selects "Compactforms" ({ cls := "Compactforms", name := "next", desc := "(II)I" } : Jvm.MethodName) ({ cls := "Compactforms", name := "next", desc := "(II)I" } : Jvm.MethodName)) ∈ lw_tbl := tk3 (List.mem_of_getElem? (i := 167) rfl)
theorem w647 : (Jvm.Cond.selects "Compactforms" ({ cls := "Compactforms", name := "next", desc := "(II)I" } : Jvm.MethodName) ({ cls := "Compactforms", name := "next", desc := "(II)I" } : Jvm.MethodName)) ∈ GW := gw_of m647 rfl
theorem m648 : (Jvm.Cond.code ({ cls := "Compactforms", name := "next", desc := "(II)I" } : Jvm.MethodName) prog_1_method_29_code (3 : Nat) (Option.some Jvm.ClassFile.FieldType.int)) ∈ lw_tbl := tk3 (List.mem_of_getElem? (i := 168) rfl)
theorem w648 : (Jvm.Cond.code ({ cls := "Compactforms", name := "next", desc := "(II)I" } : Jvm.MethodName) prog_1_method_29_code (3 : Nat) (Option.some Jvm.ClassFile.FieldType.int)) ∈ GW := gw_of m648 rfl
theorem m649 : (Jvm.Cond.methodLink "Compactforms" (138 : Nat) ({ cls := "Compactforms$Value", name := "isSmall", desc := "()Z" } : Jvm.MethodName)) ∈ lw_tbl := tk3 (List.mem_of_getElem? (i := 169) rfl)
theorem w649 : (Jvm.Cond.methodLink "Compactforms" (138 : Nat) ({ cls := "Compactforms$Value", name := "isSmall", desc := "()Z" } : Jvm.MethodName)) ∈ GW := gw_of m649 rfl
theorem m650 : (Jvm.Cond.instanceMethod ({ cls := "Compactforms$Value", name := "isSmall", desc := "()Z" } : Jvm.MethodName)) ∈ lw_tbl := tk3 (List.mem_of_getElem? (i := 170) rfl)
theorem w650 : (Jvm.Cond.instanceMethod ({ cls := "Compactforms$Value", name := "isSmall", desc := "()Z" } : Jvm.MethodName)) ∈ GW := gw_of m650 rfl
theorem m651 : (Jvm.Cond.selects "Compactforms$Value" ({ cls := "Compactforms$Value", name := "isSmall", desc := "()Z" } : Jvm.MethodName) ({ cls := "Compactforms$Value", name := "isSmall", desc := "()Z" } : Jvm.MethodName)) ∈ lw_tbl := tk3 (List.mem_of_getElem? (i := 171) rfl)
theorem w651 : (Jvm.Cond.selects "Compactforms$Value" ({ cls := "Compactforms$Value", name := "isSmall", desc := "()Z" } : Jvm.MethodName) ({ cls := "Compactforms$Value", name := "isSmall", desc := "()Z" } : Jvm.MethodName)) ∈ GW := gw_of m651 rfl
theorem m652 : (Jvm.Cond.code ({ cls := "Compactforms$Value", name := "isSmall", desc := "()Z" } : Jvm.MethodName) prog_8_method_3_code (1 : Nat) (Option.some Jvm.ClassFile.FieldType.boolean)) ∈ lw_tbl := tk3 (List.mem_of_getElem? (i := 172) rfl)
theorem w652 : (Jvm.Cond.code ({ cls := "Compactforms$Value", name := "isSmall", desc := "()Z" } : Jvm.MethodName) prog_8_method_3_code (1 : Nat) (Option.some Jvm.ClassFile.FieldType.boolean)) ∈ GW := gw_of m652 rfl
theorem m653 : (Jvm.Cond.methodLink "Compactforms" (177 : Nat) ({ cls := "Compactforms$Table", name := "cursorBehind", desc := "(I)I" } : Jvm.MethodName)) ∈ lw_tbl := tk3 (List.mem_of_getElem? (i := 173) rfl)
theorem w653 : (Jvm.Cond.methodLink "Compactforms" (177 : Nat) ({ cls := "Compactforms$Table", name := "cursorBehind", desc := "(I)I" } : Jvm.MethodName)) ∈ GW := gw_of m653 rfl
theorem m654 : (Jvm.Cond.instanceMethod ({ cls := "Compactforms$Table", name := "cursorBehind", desc := "(I)I" } : Jvm.MethodName)) ∈ lw_tbl := tk3 (List.mem_of_getElem? (i := 174) rfl)
theorem w654 : (Jvm.Cond.instanceMethod ({ cls := "Compactforms$Table", name := "cursorBehind", desc := "(I)I" } : Jvm.MethodName)) ∈ GW := gw_of m654 rfl
theorem m655 : (Jvm.Cond.selects "Compactforms$Table" ({ cls := "Compactforms$Table", name := "cursorBehind", desc := "(I)I" } : Jvm.MethodName) ({ cls := "Compactforms$Table", name := "cursorBehind", desc := "(I)I" } : Jvm.MethodName)) ∈ lw_tbl := tk3 (List.mem_of_getElem? (i := 175) rfl)
theorem w655 : (Jvm.Cond.selects "Compactforms$Table" ({ cls := "Compactforms$Table", name := "cursorBehind", desc := "(I)I" } : Jvm.MethodName) ({ cls := "Compactforms$Table", name := "cursorBehind", desc := "(I)I" } : Jvm.MethodName)) ∈ GW := gw_of m655 rfl
theorem m656 : (Jvm.Cond.code ({ cls := "Compactforms$Table", name := "cursorBehind", desc := "(I)I" } : Jvm.MethodName) prog_7_method_13_code (3 : Nat) (Option.some Jvm.ClassFile.FieldType.int)) ∈ lw_tbl := tk3 (List.mem_of_getElem? (i := 176) rfl)
theorem w656 : (Jvm.Cond.code ({ cls := "Compactforms$Table", name := "cursorBehind", desc := "(I)I" } : Jvm.MethodName) prog_7_method_13_code (3 : Nat) (Option.some Jvm.ClassFile.FieldType.int)) ∈ GW := gw_of m656 rfl
theorem m657 : (Jvm.Cond.methodLink "Compactforms$Table" (52 : Nat) ({ cls := "Compactforms$Table", name := "readBackwards", desc := "(I)I" } : Jvm.MethodName)) ∈ lw_tbl := tk3 (List.mem_of_getElem? (i := 177) rfl)
theorem w657 : (Jvm.Cond.methodLink "Compactforms$Table" (52 : Nat) ({ cls := "Compactforms$Table", name := "readBackwards", desc := "(I)I" } : Jvm.MethodName)) ∈ GW := gw_of m657 rfl
theorem m658 : (Jvm.Cond.privateMethod ({ cls := "Compactforms$Table", name := "readBackwards", desc := "(I)I" } : Jvm.MethodName)) ∈ lw_tbl := tk3 (List.mem_of_getElem? (i := 178) rfl)
theorem m659 : (Jvm.Cond.instanceMethod ({ cls := "Compactforms$Table", name := "readBackwards", desc := "(I)I" } : Jvm.MethodName)) ∈ lw_tbl := tk3 (List.mem_of_getElem? (i := 179) rfl)
theorem w659 : (Jvm.Cond.instanceMethod ({ cls := "Compactforms$Table", name := "readBackwards", desc := "(I)I" } : Jvm.MethodName)) ∈ GW := gw_of m659 rfl
theorem m660 : (Jvm.Cond.code ({ cls := "Compactforms$Table", name := "readBackwards", desc := "(I)I" } : Jvm.MethodName) prog_7_method_14_code (5 : Nat) (Option.some Jvm.ClassFile.FieldType.int)) ∈ lw_tbl := tk3 (List.mem_of_getElem? (i := 180) rfl)
theorem w660 : (Jvm.Cond.code ({ cls := "Compactforms$Table", name := "readBackwards", desc := "(I)I" } : Jvm.MethodName) prog_7_method_14_code (5 : Nat) (Option.some Jvm.ClassFile.FieldType.int)) ∈ GW := gw_of m660 rfl
theorem m661 : (Jvm.Cond.methodLink "CompactformsLaw" (63 : Nat) ({ cls := "Compactforms", name := "scanned", desc := "(III)I" } : Jvm.MethodName)) ∈ lw_tbl := tk3 (List.mem_of_getElem? (i := 181) rfl)
theorem w661 : (Jvm.Cond.methodLink "CompactformsLaw" (63 : Nat) ({ cls := "Compactforms", name := "scanned", desc := "(III)I" } : Jvm.MethodName)) ∈ GW := gw_of m661 rfl
theorem m662 : (Jvm.Cond.instanceMethod ({ cls := "Compactforms", name := "scanned", desc := "(III)I" } : Jvm.MethodName)) ∈ lw_tbl := tk3 (List.mem_of_getElem? (i := 182) rfl)
theorem w662 : (Jvm.Cond.instanceMethod ({ cls := "Compactforms", name := "scanned", desc := "(III)I" } : Jvm.MethodName)) ∈ GW := gw_of m662 rfl
theorem m663 : (Jvm.Cond.selects "Compactforms" ({ cls := "Compactforms", name := "scanned", desc := "(III)I" } : Jvm.MethodName) ({ cls := "Compactforms", name := "scanned", desc := "(III)I" } : Jvm.MethodName)) ∈ lw_tbl := tk3 (List.mem_of_getElem? (i := 183) rfl)
theorem w663 : (Jvm.Cond.selects "Compactforms" ({ cls := "Compactforms", name := "scanned", desc := "(III)I" } : Jvm.MethodName) ({ cls := "Compactforms", name := "scanned", desc := "(III)I" } : Jvm.MethodName)) ∈ GW := gw_of m663 rfl
theorem m664 : (Jvm.Cond.code ({ cls := "Compactforms", name := "scanned", desc := "(III)I" } : Jvm.MethodName) prog_1_method_30_code (5 : Nat) (Option.some Jvm.ClassFile.FieldType.int)) ∈ lw_tbl := tk3 (List.mem_of_getElem? (i := 184) rfl)
theorem w664 : (Jvm.Cond.code ({ cls := "Compactforms", name := "scanned", desc := "(III)I" } : Jvm.MethodName) prog_1_method_30_code (5 : Nat) (Option.some Jvm.ClassFile.FieldType.int)) ∈ GW := gw_of m664 rfl
theorem m665 : (Jvm.Cond.methodLink "Compactforms" (182 : Nat) ({ cls := "Compactforms$Table", name := "memberOfBucket", desc := "(II)I" } : Jvm.MethodName)) ∈ lw_tbl := tk3 (List.mem_of_getElem? (i := 185) rfl)
theorem w665 : (Jvm.Cond.methodLink "Compactforms" (182 : Nat) ({ cls := "Compactforms$Table", name := "memberOfBucket", desc := "(II)I" } : Jvm.MethodName)) ∈ GW := gw_of m665 rfl
theorem m666 : (Jvm.Cond.instanceMethod ({ cls := "Compactforms$Table", name := "memberOfBucket", desc := "(II)I" } : Jvm.MethodName)) ∈ lw_tbl := tk3 (List.mem_of_getElem? (i := 186) rfl)
theorem w666 : (Jvm.Cond.instanceMethod ({ cls := "Compactforms$Table", name := "memberOfBucket", desc := "(II)I" } : Jvm.MethodName)) ∈ GW := gw_of m666 rfl
theorem m667 : (Jvm.Cond.selects "Compactforms$Table" ({ cls := "Compactforms$Table", name := "memberOfBucket", desc := "(II)I" } : Jvm.MethodName) ({ cls := "Compactforms$Table", name := "memberOfBucket", desc := "(II)I" } : Jvm.MethodName)) ∈ lw_tbl := tk3 (List.mem_of_getElem? (i := 187) rfl)
theorem w667 : (Jvm.Cond.selects "Compactforms$Table" ({ cls := "Compactforms$Table", name := "memberOfBucket", desc := "(II)I" } : Jvm.MethodName) ({ cls := "Compactforms$Table", name := "memberOfBucket", desc := "(II)I" } : Jvm.MethodName)) ∈ GW := gw_of m667 rfl
theorem m668 : (Jvm.Cond.code ({ cls := "Compactforms$Table", name := "memberOfBucket", desc := "(II)I" } : Jvm.MethodName) prog_7_method_15_code (5 : Nat) (Option.some Jvm.ClassFile.FieldType.int)) ∈ lw_tbl := tk3 (List.mem_of_getElem? (i := 188) rfl)
theorem w668 : (Jvm.Cond.code ({ cls := "Compactforms$Table", name := "memberOfBucket", desc := "(II)I" } : Jvm.MethodName) prog_7_method_15_code (5 : Nat) (Option.some Jvm.ClassFile.FieldType.int)) ∈ GW := gw_of m668 rfl
theorem m669 : (Jvm.Cond.methodLink "CompactformsLaw" (110 : Nat) ({ cls := "Compactforms", name := "rows", desc := "()I" } : Jvm.MethodName)) ∈ lw_tbl := tk3 (List.mem_of_getElem? (i := 189) rfl)
theorem w669 : (Jvm.Cond.methodLink "CompactformsLaw" (110 : Nat) ({ cls := "Compactforms", name := "rows", desc := "()I" } : Jvm.MethodName)) ∈ GW := gw_of m669 rfl
theorem m670 : (Jvm.Cond.instanceMethod ({ cls := "Compactforms", name := "rows", desc := "()I" } : Jvm.MethodName)) ∈ lw_tbl := tk3 (List.mem_of_getElem? (i := 190) rfl)
theorem w670 : (Jvm.Cond.instanceMethod ({ cls := "Compactforms", name := "rows", desc := "()I" } : Jvm.MethodName)) ∈ GW := gw_of m670 rfl
theorem m671 : (Jvm.Cond.selects "Compactforms" ({ cls := "Compactforms", name := "rows", desc := "()I" } : Jvm.MethodName) ({ cls := "Compactforms", name := "rows", desc := "()I" } : Jvm.MethodName)) ∈ lw_tbl := tk3 (List.mem_of_getElem? (i := 191) rfl)
theorem w671 : (Jvm.Cond.selects "Compactforms" ({ cls := "Compactforms", name := "rows", desc := "()I" } : Jvm.MethodName) ({ cls := "Compactforms", name := "rows", desc := "()I" } : Jvm.MethodName)) ∈ GW := gw_of m671 rfl
theorem m672 : (Jvm.Cond.code ({ cls := "Compactforms", name := "rows", desc := "()I" } : Jvm.MethodName) prog_1_method_21_code (1 : Nat) (Option.some Jvm.ClassFile.FieldType.int)) ∈ lw_tbl := tk3 (List.mem_of_getElem? (i := 192) rfl)
theorem w672 : (Jvm.Cond.code ({ cls := "Compactforms", name := "rows", desc := "()I" } : Jvm.MethodName) prog_1_method_21_code (1 : Nat) (Option.some Jvm.ClassFile.FieldType.int)) ∈ GW := gw_of m672 rfl
theorem m673 : (Jvm.Cond.methodLink "CompactformsLaw" (131 : Nat) ({ cls := "CompactformsLaw", name := "settles", desc := "(LCompactforms;Z[I)Z" } : Jvm.MethodName)) ∈ lw_tbl := tk3 (List.mem_of_getElem? (i := 193) rfl)
theorem w673 : (Jvm.Cond.methodLink "CompactformsLaw" (131 : Nat) ({ cls := "CompactformsLaw", name := "settles", desc := "(LCompactforms;Z[I)Z" } : Jvm.MethodName)) ∈ GW := gw_of m673 rfl
theorem m674 : (Jvm.Cond.static ({ cls := "CompactformsLaw", name := "settles", desc := "(LCompactforms;Z[I)Z" } : Jvm.MethodName)) ∈ lw_tbl := tk3 (List.mem_of_getElem? (i := 194) rfl)
theorem w674 : (Jvm.Cond.static ({ cls := "CompactformsLaw", name := "settles", desc := "(LCompactforms;Z[I)Z" } : Jvm.MethodName)) ∈ GW := gw_of m674 rfl
theorem m675 : (Jvm.Cond.code ({ cls := "CompactformsLaw", name := "settles", desc := "(LCompactforms;Z[I)Z" } : Jvm.MethodName) method_12_code (3 : Nat) (Option.some Jvm.ClassFile.FieldType.boolean)) ∈ lw_tbl := tk3 (List.mem_of_getElem? (i := 195) rfl)
theorem w675 : (Jvm.Cond.code ({ cls := "CompactformsLaw", name := "settles", desc := "(LCompactforms;Z[I)Z" } : Jvm.MethodName) method_12_code (3 : Nat) (Option.some Jvm.ClassFile.FieldType.boolean)) ∈ GW := gw_of m675 rfl
theorem m676 : (Jvm.Cond.methodLink "CompactformsLaw" (121 : Nat) ({ cls := "Compactforms", name := "held", desc := "()I" } : Jvm.MethodName)) ∈ lw_tbl := tk3 (List.mem_of_getElem? (i := 196) rfl)
theorem w676 : (Jvm.Cond.methodLink "CompactformsLaw" (121 : Nat) ({ cls := "Compactforms", name := "held", desc := "()I" } : Jvm.MethodName)) ∈ GW := gw_of m676 rfl
theorem m677 : (Jvm.Cond.instanceMethod ({ cls := "Compactforms", name := "held", desc := "()I" } : Jvm.MethodName)) ∈ lw_tbl := tk3 (List.mem_of_getElem? (i := 197) rfl)
theorem w677 : (Jvm.Cond.instanceMethod ({ cls := "Compactforms", name := "held", desc := "()I" } : Jvm.MethodName)) ∈ GW := gw_of m677 rfl
theorem m678 : (Jvm.Cond.selects "Compactforms" ({ cls := "Compactforms", name := "held", desc := "()I" } : Jvm.MethodName) ({ cls := "Compactforms", name := "held", desc := "()I" } : Jvm.MethodName)) ∈ lw_tbl := tk3 (List.mem_of_getElem? (i := 198) rfl)
theorem w678 : (Jvm.Cond.selects "Compactforms" ({ cls := "Compactforms", name := "held", desc := "()I" } : Jvm.MethodName) ({ cls := "Compactforms", name := "held", desc := "()I" } : Jvm.MethodName)) ∈ GW := gw_of m678 rfl
theorem m679 : (Jvm.Cond.code ({ cls := "Compactforms", name := "held", desc := "()I" } : Jvm.MethodName) prog_1_method_17_code (3 : Nat) (Option.some Jvm.ClassFile.FieldType.int)) ∈ lw_tbl := tk3 (List.mem_of_getElem? (i := 199) rfl)
theorem w679 : (Jvm.Cond.code ({ cls := "Compactforms", name := "held", desc := "()I" } : Jvm.MethodName) prog_1_method_17_code (3 : Nat) (Option.some Jvm.ClassFile.FieldType.int)) ∈ GW := gw_of m679 rfl
theorem m680 : (Jvm.Cond.constant "CompactformsLaw" (135 : Nat) (-2147483648 : Int32)) ∈ lw_tbl := tk3 (List.mem_of_getElem? (i := 200) rfl)
theorem w680 : (Jvm.Cond.constant "CompactformsLaw" (135 : Nat) (-2147483648 : Int32)) ∈ GW := gw_of m680 rfl
theorem m681 : (Jvm.Cond.constant "CompactformsLaw" (136 : Nat) (4194304 : Int32)) ∈ lw_tbl := tk3 (List.mem_of_getElem? (i := 201) rfl)
theorem w681 : (Jvm.Cond.constant "CompactformsLaw" (136 : Nat) (4194304 : Int32)) ∈ GW := gw_of m681 rfl
theorem m682 : (Jvm.Cond.methodLink "CompactformsLaw" (141 : Nat) ({ cls := "CompactformsLaw", name := "streams", desc := "(LCompactforms;IIII[I)Z" } : Jvm.MethodName)) ∈ lw_tbl := tk3 (List.mem_of_getElem? (i := 202) rfl)
theorem w682 : (Jvm.Cond.methodLink "CompactformsLaw" (141 : Nat) ({ cls := "CompactformsLaw", name := "streams", desc := "(LCompactforms;IIII[I)Z" } : Jvm.MethodName)) ∈ GW := gw_of m682 rfl
theorem m683 : (Jvm.Cond.static ({ cls := "CompactformsLaw", name := "streams", desc := "(LCompactforms;IIII[I)Z" } : Jvm.MethodName)) ∈ lw_tbl := tk3 (List.mem_of_getElem? (i := 203) rfl)
theorem w683 : (Jvm.Cond.static ({ cls := "CompactformsLaw", name := "streams", desc := "(LCompactforms;IIII[I)Z" } : Jvm.MethodName)) ∈ GW := gw_of m683 rfl
theorem m684 : (Jvm.Cond.code ({ cls := "CompactformsLaw", name := "streams", desc := "(LCompactforms;IIII[I)Z" } : Jvm.MethodName) method_13_code (15 : Nat) (Option.some Jvm.ClassFile.FieldType.boolean)) ∈ lw_tbl := tk3 (List.mem_of_getElem? (i := 204) rfl)
theorem w684 : (Jvm.Cond.code ({ cls := "CompactformsLaw", name := "streams", desc := "(LCompactforms;IIII[I)Z" } : Jvm.MethodName) method_13_code (15 : Nat) (Option.some Jvm.ClassFile.FieldType.boolean)) ∈ GW := gw_of m684 rfl
theorem m685 : (Jvm.Cond.methodLink "CompactformsLaw" (107 : Nat) ({ cls := "Compactforms", name := "waiting", desc := "(III)I" } : Jvm.MethodName)) ∈ lw_tbl := tk3 (List.mem_of_getElem? (i := 205) rfl)
theorem w685 : (Jvm.Cond.methodLink "CompactformsLaw" (107 : Nat) ({ cls := "Compactforms", name := "waiting", desc := "(III)I" } : Jvm.MethodName)) ∈ GW := gw_of m685 rfl
theorem m686 : (Jvm.Cond.instanceMethod ({ cls := "Compactforms", name := "waiting", desc := "(III)I" } : Jvm.MethodName)) ∈ lw_tbl := tk3 (List.mem_of_getElem? (i := 206) rfl)
theorem w686 : (Jvm.Cond.instanceMethod ({ cls := "Compactforms", name := "waiting", desc := "(III)I" } : Jvm.MethodName)) ∈ GW := gw_of m686 rfl
theorem m687 : (Jvm.Cond.selects "Compactforms" ({ cls := "Compactforms", name := "waiting", desc := "(III)I" } : Jvm.MethodName) ({ cls := "Compactforms", name := "waiting", desc := "(III)I" } : Jvm.MethodName)) ∈ lw_tbl := tk3 (List.mem_of_getElem? (i := 207) rfl)
theorem w687 : (Jvm.Cond.selects "Compactforms" ({ cls := "Compactforms", name := "waiting", desc := "(III)I" } : Jvm.MethodName) ({ cls := "Compactforms", name := "waiting", desc := "(III)I" } : Jvm.MethodName)) ∈ GW := gw_of m687 rfl
theorem m688 : (Jvm.Cond.code ({ cls := "Compactforms", name := "waiting", desc := "(III)I" } : Jvm.MethodName) prog_1_method_11_code (4 : Nat) (Option.some Jvm.ClassFile.FieldType.int)) ∈ lw_tbl := tk3 (List.mem_of_getElem? (i := 208) rfl)
theorem w688 : (Jvm.Cond.code ({ cls := "Compactforms", name := "waiting", desc := "(III)I" } : Jvm.MethodName) prog_1_method_11_code (4 : Nat) (Option.some Jvm.ClassFile.FieldType.int)) ∈ GW := gw_of m688 rfl
theorem m689 : (Jvm.Cond.methodLink "Compactforms" (97 : Nat) ({ cls := "Compactforms$Groups", name := "countWaiting", desc := "(II)I" } : Jvm.MethodName)) ∈ lw_tbl := tk3 (List.mem_of_getElem? (i := 209) rfl)
theorem w689 : (Jvm.Cond.methodLink "Compactforms" (97 : Nat) ({ cls := "Compactforms$Groups", name := "countWaiting", desc := "(II)I" } : Jvm.MethodName)) ∈ GW := gw_of m689 rfl
theorem m690 : (Jvm.Cond.instanceMethod ({ cls := "Compactforms$Groups", name := "countWaiting", desc := "(II)I" } : Jvm.MethodName)) ∈ lw_tbl := tk3 (List.mem_of_getElem? (i := 210) rfl)
theorem w690 : (Jvm.Cond.instanceMethod ({ cls := "Compactforms$Groups", name := "countWaiting", desc := "(II)I" } : Jvm.MethodName)) ∈ GW := gw_of m690 rfl
theorem m691 : (Jvm.Cond.selects "Compactforms$Groups" ({ cls := "Compactforms$Groups", name := "countWaiting", desc := "(II)I" } : Jvm.MethodName) ({ cls := "Compactforms$Groups", name := "countWaiting", desc := "(II)I" } : Jvm.MethodName)) ∈ lw_tbl := tk3 (List.mem_of_getElem? (i := 211) rfl)
theorem w691 : (Jvm.Cond.selects "Compactforms$Groups" ({ cls := "Compactforms$Groups", name := "countWaiting", desc := "(II)I" } : Jvm.MethodName) ({ cls := "Compactforms$Groups", name := "countWaiting", desc := "(II)I" } : Jvm.MethodName)) ∈ GW := gw_of m691 rfl
theorem m692 : (Jvm.Cond.code ({ cls := "Compactforms$Groups", name := "countWaiting", desc := "(II)I" } : Jvm.MethodName) prog_4_method_6_code (5 : Nat) (Option.some Jvm.ClassFile.FieldType.int)) ∈ lw_tbl := tk3 (List.mem_of_getElem? (i := 212) rfl)
theorem w692 : (Jvm.Cond.code ({ cls := "Compactforms$Groups", name := "countWaiting", desc := "(II)I" } : Jvm.MethodName) prog_4_method_6_code (5 : Nat) (Option.some Jvm.ClassFile.FieldType.int)) ∈ GW := gw_of m692 rfl
theorem m693 : (Jvm.Cond.methodLink "CompactformsLaw" (99 : Nat) ({ cls := "Compactforms", name := "left", desc := "(I)I" } : Jvm.MethodName)) ∈ lw_tbl := tk3 (List.mem_of_getElem? (i := 213) rfl)
theorem w693 : (Jvm.Cond.methodLink "CompactformsLaw" (99 : Nat) ({ cls := "Compactforms", name := "left", desc := "(I)I" } : Jvm.MethodName)) ∈ GW := gw_of m693 rfl
theorem m694 : (Jvm.Cond.instanceMethod ({ cls := "Compactforms", name := "left", desc := "(I)I" } : Jvm.MethodName)) ∈ lw_tbl := tk3 (List.mem_of_getElem? (i := 214) rfl)
theorem w694 : (Jvm.Cond.instanceMethod ({ cls := "Compactforms", name := "left", desc := "(I)I" } : Jvm.MethodName)) ∈ GW := gw_of m694 rfl
theorem m695 : (Jvm.Cond.selects "Compactforms" ({ cls := "Compactforms", name := "left", desc := "(I)I" } : Jvm.MethodName) ({ cls := "Compactforms", name := "left", desc := "(I)I" } : Jvm.MethodName)) ∈ lw_tbl := tk3 (List.mem_of_getElem? (i := 215) rfl)
theorem w695 : (Jvm.Cond.selects "Compactforms" ({ cls := "Compactforms", name := "left", desc := "(I)I" } : Jvm.MethodName) ({ cls := "Compactforms", name := "left", desc := "(I)I" } : Jvm.MethodName)) ∈ GW := gw_of m695 rfl
theorem m696 : (Jvm.Cond.code ({ cls := "Compactforms", name := "left", desc := "(I)I" } : Jvm.MethodName) prog_1_method_14_code (3 : Nat) (Option.some Jvm.ClassFile.FieldType.int)) ∈ lw_tbl := tk3 (List.mem_of_getElem? (i := 216) rfl)
theorem w696 : (Jvm.Cond.code ({ cls := "Compactforms", name := "left", desc := "(I)I" } : Jvm.MethodName) prog_1_method_14_code (3 : Nat) (Option.some Jvm.ClassFile.FieldType.int)) ∈ GW := gw_of m696 rfl
theorem m697 : (Jvm.Cond.methodLink "CompactformsLaw" (144 : Nat) ({ cls := "Compactforms", name := "tick", desc := "(I)I" } : Jvm.MethodName)) ∈ lw_tbl := tk3 (List.mem_of_getElem? (i := 217) rfl)
theorem w697 : (Jvm.Cond.methodLink "CompactformsLaw" (144 : Nat) ({ cls := "Compactforms", name := "tick", desc := "(I)I" } : Jvm.MethodName)) ∈ GW := gw_of m697 rfl
theorem m698 : (Jvm.Cond.instanceMethod ({ cls := "Compactforms", name := "tick", desc := "(I)I" } : Jvm.MethodName)) ∈ lw_tbl := tk3 (List.mem_of_getElem? (i := 218) rfl)
theorem w698 : (Jvm.Cond.instanceMethod ({ cls := "Compactforms", name := "tick", desc := "(I)I" } : Jvm.MethodName)) ∈ GW := gw_of m698 rfl
theorem m699 : (Jvm.Cond.selects "Compactforms" ({ cls := "Compactforms", name := "tick", desc := "(I)I" } : Jvm.MethodName) ({ cls := "Compactforms", name := "tick", desc := "(I)I" } : Jvm.MethodName)) ∈ lw_tbl := tk3 (List.mem_of_getElem? (i := 219) rfl)
theorem w699 : (Jvm.Cond.selects "Compactforms" ({ cls := "Compactforms", name := "tick", desc := "(I)I" } : Jvm.MethodName) ({ cls := "Compactforms", name := "tick", desc := "(I)I" } : Jvm.MethodName)) ∈ GW := gw_of m699 rfl
theorem m700 : (Jvm.Cond.code ({ cls := "Compactforms", name := "tick", desc := "(I)I" } : Jvm.MethodName) prog_1_method_15_code (2 : Nat) (Option.some Jvm.ClassFile.FieldType.int)) ∈ lw_tbl := tk3 (List.mem_of_getElem? (i := 220) rfl)
theorem w700 : (Jvm.Cond.code ({ cls := "Compactforms", name := "tick", desc := "(I)I" } : Jvm.MethodName) prog_1_method_15_code (2 : Nat) (Option.some Jvm.ClassFile.FieldType.int)) ∈ GW := gw_of m700 rfl
theorem m701 : (Jvm.Cond.constant "Compactforms" (109 : Nat) (1000000 : Int32)) ∈ lw_tbl := tk3 (List.mem_of_getElem? (i := 221) rfl)
theorem w701 : (Jvm.Cond.constant "Compactforms" (109 : Nat) (1000000 : Int32)) ∈ GW := gw_of m701 rfl
theorem m702 : (Jvm.Cond.stringRef "Compactforms" (112 : Nat) "the clock would be above its last time") ∈ lw_tbl := tk3 (List.mem_of_getElem? (i := 222) rfl)
theorem m703 : (Jvm.Cond.methodLink "CompactformsLaw" (147 : Nat) ({ cls := "Compactforms", name := "sample", desc := "(I)I" } : Jvm.MethodName)) ∈ lw_tbl := tk3 (List.mem_of_getElem? (i := 223) rfl)
theorem w703 : (Jvm.Cond.methodLink "CompactformsLaw" (147 : Nat) ({ cls := "Compactforms", name := "sample", desc := "(I)I" } : Jvm.MethodName)) ∈ GW := gw_of m703 rfl
theorem m704 : (Jvm.Cond.instanceMethod ({ cls := "Compactforms", name := "sample", desc := "(I)I" } : Jvm.MethodName)) ∈ lw_tbl := tk3 (List.mem_of_getElem? (i := 224) rfl)
theorem w704 : (Jvm.Cond.instanceMethod ({ cls := "Compactforms", name := "sample", desc := "(I)I" } : Jvm.MethodName)) ∈ GW := gw_of m704 rfl
theorem m705 : (Jvm.Cond.selects "Compactforms" ({ cls := "Compactforms", name := "sample", desc := "(I)I" } : Jvm.MethodName) ({ cls := "Compactforms", name := "sample", desc := "(I)I" } : Jvm.MethodName)) ∈ lw_tbl := tk3 (List.mem_of_getElem? (i := 225) rfl)
theorem w705 : (Jvm.Cond.selects "Compactforms" ({ cls := "Compactforms", name := "sample", desc := "(I)I" } : Jvm.MethodName) ({ cls := "Compactforms", name := "sample", desc := "(I)I" } : Jvm.MethodName)) ∈ GW := gw_of m705 rfl
theorem m706 : (Jvm.Cond.code ({ cls := "Compactforms", name := "sample", desc := "(I)I" } : Jvm.MethodName) prog_1_method_16_code (8 : Nat) (Option.some Jvm.ClassFile.FieldType.int)) ∈ lw_tbl := tk3 (List.mem_of_getElem? (i := 226) rfl)
theorem w706 : (Jvm.Cond.code ({ cls := "Compactforms", name := "sample", desc := "(I)I" } : Jvm.MethodName) prog_1_method_16_code (8 : Nat) (Option.some Jvm.ClassFile.FieldType.int)) ∈ GW := gw_of m706 rfl
theorem m707 : (Jvm.Cond.methodLink "CompactformsLaw" (150 : Nat) ({ cls := "CompactformsLaw", name := "rewrites", desc := "(LCompactforms;[II)Z" } : Jvm.MethodName)) ∈ lw_tbl := tk3 (List.mem_of_getElem? (i := 227) rfl)
theorem w707 : (Jvm.Cond.methodLink "CompactformsLaw" (150 : Nat) ({ cls := "CompactformsLaw", name := "rewrites", desc := "(LCompactforms;[II)Z" } : Jvm.MethodName)) ∈ GW := gw_of m707 rfl
theorem m708 : (Jvm.Cond.static ({ cls := "CompactformsLaw", name := "rewrites", desc := "(LCompactforms;[II)Z" } : Jvm.MethodName)) ∈ lw_tbl := tk3 (List.mem_of_getElem? (i := 228) rfl)
theorem w708 : (Jvm.Cond.static ({ cls := "CompactformsLaw", name := "rewrites", desc := "(LCompactforms;[II)Z" } : Jvm.MethodName)) ∈ GW := gw_of m708 rfl
theorem m709 : (Jvm.Cond.code ({ cls := "CompactformsLaw", name := "rewrites", desc := "(LCompactforms;[II)Z" } : Jvm.MethodName) method_9_code (5 : Nat) (Option.some Jvm.ClassFile.FieldType.boolean)) ∈ lw_tbl := tk3 (List.mem_of_getElem? (i := 229) rfl)
theorem w709 : (Jvm.Cond.code ({ cls := "CompactformsLaw", name := "rewrites", desc := "(LCompactforms;[II)Z" } : Jvm.MethodName) method_9_code (5 : Nat) (Option.some Jvm.ClassFile.FieldType.boolean)) ∈ GW := gw_of m709 rfl
theorem m710 : (Jvm.Cond.methodLink "CompactformsLaw" (128 : Nat) ({ cls := "Compactforms", name := "rewrite", desc := "()I" } : Jvm.MethodName)) ∈ lw_tbl := tk3 (List.mem_of_getElem? (i := 230) rfl)
theorem w710 : (Jvm.Cond.methodLink "CompactformsLaw" (128 : Nat) ({ cls := "Compactforms", name := "rewrite", desc := "()I" } : Jvm.MethodName)) ∈ GW := gw_of m710 rfl
theorem m711 : (Jvm.Cond.instanceMethod ({ cls := "Compactforms", name := "rewrite", desc := "()I" } : Jvm.MethodName)) ∈ lw_tbl := tk3 (List.mem_of_getElem? (i := 231) rfl)
theorem w711 : (Jvm.Cond.instanceMethod ({ cls := "Compactforms", name := "rewrite", desc := "()I" } : Jvm.MethodName)) ∈ GW := gw_of m711 rfl
theorem m712 : (Jvm.Cond.selects "Compactforms" ({ cls := "Compactforms", name := "rewrite", desc := "()I" } : Jvm.MethodName) ({ cls := "Compactforms", name := "rewrite", desc := "()I" } : Jvm.MethodName)) ∈ lw_tbl := tk3 (List.mem_of_getElem? (i := 232) rfl)
theorem w712 : (Jvm.Cond.selects "Compactforms" ({ cls := "Compactforms", name := "rewrite", desc := "()I" } : Jvm.MethodName) ({ cls := "Compactforms", name := "rewrite", desc := "()I" } : Jvm.MethodName)) ∈ GW := gw_of m712 rfl
theorem m713 : (Jvm.Cond.code ({ cls := "Compactforms", name := "rewrite", desc := "()I" } : Jvm.MethodName) prog_1_method_18_code (2 : Nat) (Option.some Jvm.ClassFile.FieldType.int)) ∈ lw_tbl := tk3 (List.mem_of_getElem? (i := 233) rfl)
theorem w713 : (Jvm.Cond.code ({ cls := "Compactforms", name := "rewrite", desc := "()I" } : Jvm.MethodName) prog_1_method_18_code (2 : Nat) (Option.some Jvm.ClassFile.FieldType.int)) ∈ GW := gw_of m713 rfl
theorem m714 : (Jvm.Cond.methodLink "Compactforms" (120 : Nat) ({ cls := "Compactforms$Log", name := "makeEmpty", desc := "()V" } : Jvm.MethodName)) ∈ lw_tbl := tk3 (List.mem_of_getElem? (i := 234) rfl)
theorem w714 : (Jvm.Cond.methodLink "Compactforms" (120 : Nat) ({ cls := "Compactforms$Log", name := "makeEmpty", desc := "()V" } : Jvm.MethodName)) ∈ GW := gw_of m714 rfl
theorem m715 : (Jvm.Cond.instanceMethod ({ cls := "Compactforms$Log", name := "makeEmpty", desc := "()V" } : Jvm.MethodName)) ∈ lw_tbl := tk3 (List.mem_of_getElem? (i := 235) rfl)
theorem w715 : (Jvm.Cond.instanceMethod ({ cls := "Compactforms$Log", name := "makeEmpty", desc := "()V" } : Jvm.MethodName)) ∈ GW := gw_of m715 rfl
theorem m716 : (Jvm.Cond.selects "Compactforms$Log" ({ cls := "Compactforms$Log", name := "makeEmpty", desc := "()V" } : Jvm.MethodName) ({ cls := "Compactforms$Log", name := "makeEmpty", desc := "()V" } : Jvm.MethodName)) ∈ lw_tbl := tk3 (List.mem_of_getElem? (i := 236) rfl)
theorem w716 : (Jvm.Cond.selects "Compactforms$Log" ({ cls := "Compactforms$Log", name := "makeEmpty", desc := "()V" } : Jvm.MethodName) ({ cls := "Compactforms$Log", name := "makeEmpty", desc := "()V" } : Jvm.MethodName)) ∈ GW := gw_of m716 rfl
theorem m717 : (Jvm.Cond.code ({ cls := "Compactforms$Log", name := "makeEmpty", desc := "()V" } : Jvm.MethodName) prog_5_method_2_code (1 : Nat) (Option.none : Option Jvm.ClassFile.FieldType)) ∈ lw_tbl := tk3 (List.mem_of_getElem? (i := 237) rfl)
theorem w717 : (Jvm.Cond.code ({ cls := "Compactforms$Log", name := "makeEmpty", desc := "()V" } : Jvm.MethodName) prog_5_method_2_code (1 : Nat) (Option.none : Option Jvm.ClassFile.FieldType)) ∈ GW := gw_of m717 rfl
theorem m718 : (Jvm.Cond.methodLink "Compactforms" (126 : Nat) ({ cls := "Compactforms", name := "writeAnew", desc := "(I)V" } : Jvm.MethodName)) ∈ lw_tbl := tk3 (List.mem_of_getElem? (i := 238) rfl)
theorem w718 : (Jvm.Cond.methodLink "Compactforms" (126 : Nat) ({ cls := "Compactforms", name := "writeAnew", desc := "(I)V" } : Jvm.MethodName)) ∈ GW := gw_of m718 rfl
theorem m719 : (Jvm.Cond.privateMethod ({ cls := "Compactforms", name := "writeAnew", desc := "(I)V" } : Jvm.MethodName)) ∈ lw_tbl := tk3 (List.mem_of_getElem? (i := 239) rfl)
theorem m720 : (Jvm.Cond.instanceMethod ({ cls := "Compactforms", name := "writeAnew", desc := "(I)V" } : Jvm.MethodName)) ∈ lw_tbl := tk4 (List.mem_of_getElem? (i := 0) rfl)
theorem w720 : (Jvm.Cond.instanceMethod ({ cls := "Compactforms", name := "writeAnew", desc := "(I)V" } : Jvm.MethodName)) ∈ GW := gw_of m720 rfl
theorem m721 : (Jvm.Cond.code ({ cls := "Compactforms", name := "writeAnew", desc := "(I)V" } : Jvm.MethodName) prog_1_method_52_code (6 : Nat) (Option.none : Option Jvm.ClassFile.FieldType)) ∈ lw_tbl := tk4 (List.mem_of_getElem? (i := 1) rfl)
theorem w721 : (Jvm.Cond.code ({ cls := "Compactforms", name := "writeAnew", desc := "(I)V" } : Jvm.MethodName) prog_1_method_52_code (6 : Nat) (Option.none : Option Jvm.ClassFile.FieldType)) ∈ GW := gw_of m721 rfl
theorem m722 : (Jvm.Cond.methodLink "Compactforms" (278 : Nat) ({ cls := "Compactforms", name := "copyStreamRows", desc := "(I)V" } : Jvm.MethodName)) ∈ lw_tbl := tk4 (List.mem_of_getElem? (i := 2) rfl)
theorem w722 : (Jvm.Cond.methodLink "Compactforms" (278 : Nat) ({ cls := "Compactforms", name := "copyStreamRows", desc := "(I)V" } : Jvm.MethodName)) ∈ GW := gw_of m722 rfl
theorem m723 : (Jvm.Cond.privateMethod ({ cls := "Compactforms", name := "copyStreamRows", desc := "(I)V" } : Jvm.MethodName)) ∈ lw_tbl := tk4 (List.mem_of_getElem? (i := 3) rfl)
theorem m724 : (Jvm.Cond.instanceMethod ({ cls := "Compactforms", name := "copyStreamRows", desc := "(I)V" } : Jvm.MethodName)) ∈ lw_tbl := tk4 (List.mem_of_getElem? (i := 4) rfl)
theorem w724 : (Jvm.Cond.instanceMethod ({ cls := "Compactforms", name := "copyStreamRows", desc := "(I)V" } : Jvm.MethodName)) ∈ GW := gw_of m724 rfl
theorem m725 : (Jvm.Cond.code ({ cls := "Compactforms", name := "copyStreamRows", desc := "(I)V" } : Jvm.MethodName) prog_1_method_53_code (5 : Nat) (Option.none : Option Jvm.ClassFile.FieldType)) ∈ lw_tbl := tk4 (List.mem_of_getElem? (i := 5) rfl)
theorem w725 : (Jvm.Cond.code ({ cls := "Compactforms", name := "copyStreamRows", desc := "(I)V" } : Jvm.MethodName) prog_1_method_53_code (5 : Nat) (Option.none : Option Jvm.ClassFile.FieldType)) ∈ GW := gw_of m725 rfl
theorem m726 : (Jvm.Cond.methodLink "Compactforms" (272 : Nat) ({ cls := "Compactforms$Log", name := "cell", desc := "(II)I" } : Jvm.MethodName)) ∈ lw_tbl := tk4 (List.mem_of_getElem? (i := 6) rfl)
theorem w726 : (Jvm.Cond.methodLink "Compactforms" (272 : Nat) ({ cls := "Compactforms$Log", name := "cell", desc := "(II)I" } : Jvm.MethodName)) ∈ GW := gw_of m726 rfl
theorem m727 : (Jvm.Cond.instanceMethod ({ cls := "Compactforms$Log", name := "cell", desc := "(II)I" } : Jvm.MethodName)) ∈ lw_tbl := tk4 (List.mem_of_getElem? (i := 7) rfl)
theorem w727 : (Jvm.Cond.instanceMethod ({ cls := "Compactforms$Log", name := "cell", desc := "(II)I" } : Jvm.MethodName)) ∈ GW := gw_of m727 rfl
theorem m728 : (Jvm.Cond.selects "Compactforms$Log" ({ cls := "Compactforms$Log", name := "cell", desc := "(II)I" } : Jvm.MethodName) ({ cls := "Compactforms$Log", name := "cell", desc := "(II)I" } : Jvm.MethodName)) ∈ lw_tbl := tk4 (List.mem_of_getElem? (i := 8) rfl)
theorem w728 : (Jvm.Cond.selects "Compactforms$Log" ({ cls := "Compactforms$Log", name := "cell", desc := "(II)I" } : Jvm.MethodName) ({ cls := "Compactforms$Log", name := "cell", desc := "(II)I" } : Jvm.MethodName)) ∈ GW := gw_of m728 rfl
theorem m729 : (Jvm.Cond.code ({ cls := "Compactforms$Log", name := "cell", desc := "(II)I" } : Jvm.MethodName) prog_5_method_3_code (3 : Nat) (Option.some Jvm.ClassFile.FieldType.int)) ∈ lw_tbl := tk4 (List.mem_of_getElem? (i := 9) rfl)
theorem w729 : (Jvm.Cond.code ({ cls := "Compactforms$Log", name := "cell", desc := "(II)I" } : Jvm.MethodName) prog_5_method_3_code (3 : Nat) (Option.some Jvm.ClassFile.FieldType.int)) ∈ GW := gw_of m729 rfl
theorem m730 : (Jvm.Cond.methodLink "Compactforms" (281 : Nat) ({ cls := "Compactforms$Row", name := "bitsAt", desc := "(I)I" } : Jvm.MethodName)) ∈ lw_tbl := tk4 (List.mem_of_getElem? (i := 10) rfl)
theorem w730 : (Jvm.Cond.methodLink "Compactforms" (281 : Nat) ({ cls := "Compactforms$Row", name := "bitsAt", desc := "(I)I" } : Jvm.MethodName)) ∈ GW := gw_of m730 rfl
theorem m731 : (Jvm.Cond.methodLink "Compactforms" (161 : Nat) ({ cls := "Compactforms$Row", name := "valueAt", desc := "(I)I" } : Jvm.MethodName)) ∈ lw_tbl := tk4 (List.mem_of_getElem? (i := 11) rfl)
theorem w731 : (Jvm.Cond.methodLink "Compactforms" (161 : Nat) ({ cls := "Compactforms$Row", name := "valueAt", desc := "(I)I" } : Jvm.MethodName)) ∈ GW := gw_of m731 rfl
theorem m732 : (Jvm.Cond.methodLink "CompactformsLaw" (154 : Nat) ({ cls := "CompactformsLaw", name := "goesOn", desc := "(LCompactforms;I[I)Z" } : Jvm.MethodName)) ∈ lw_tbl := tk4 (List.mem_of_getElem? (i := 12) rfl)
theorem w732 : (Jvm.Cond.methodLink "CompactformsLaw" (154 : Nat) ({ cls := "CompactformsLaw", name := "goesOn", desc := "(LCompactforms;I[I)Z" } : Jvm.MethodName)) ∈ GW := gw_of m732 rfl
theorem m733 : (Jvm.Cond.static ({ cls := "CompactformsLaw", name := "goesOn", desc := "(LCompactforms;I[I)Z" } : Jvm.MethodName)) ∈ lw_tbl := tk4 (List.mem_of_getElem? (i := 13) rfl)
theorem w733 : (Jvm.Cond.static ({ cls := "CompactformsLaw", name := "goesOn", desc := "(LCompactforms;I[I)Z" } : Jvm.MethodName)) ∈ GW := gw_of m733 rfl
theorem m734 : (Jvm.Cond.code ({ cls := "CompactformsLaw", name := "goesOn", desc := "(LCompactforms;I[I)Z" } : Jvm.MethodName) method_10_code (6 : Nat) (Option.some Jvm.ClassFile.FieldType.boolean)) ∈ lw_tbl := tk4 (List.mem_of_getElem? (i := 14) rfl)
theorem w734 : (Jvm.Cond.code ({ cls := "CompactformsLaw", name := "goesOn", desc := "(LCompactforms;I[I)Z" } : Jvm.MethodName) method_10_code (6 : Nat) (Option.some Jvm.ClassFile.FieldType.boolean)) ∈ GW := gw_of m734 rfl
theorem m735 : (Jvm.Cond.methodLink "CompactformsLaw" (158 : Nat) ({ cls := "CompactformsLaw", name := "restarts", desc := "(LCompactforms;[I)Z" } : Jvm.MethodName)) ∈ lw_tbl := tk4 (List.mem_of_getElem? (i := 15) rfl)
theorem w735 : (Jvm.Cond.methodLink "CompactformsLaw" (158 : Nat) ({ cls := "CompactformsLaw", name := "restarts", desc := "(LCompactforms;[I)Z" } : Jvm.MethodName)) ∈ GW := gw_of m735 rfl
theorem m736 : (Jvm.Cond.static ({ cls := "CompactformsLaw", name := "restarts", desc := "(LCompactforms;[I)Z" } : Jvm.MethodName)) ∈ lw_tbl := tk4 (List.mem_of_getElem? (i := 16) rfl)
theorem w736 : (Jvm.Cond.static ({ cls := "CompactformsLaw", name := "restarts", desc := "(LCompactforms;[I)Z" } : Jvm.MethodName)) ∈ GW := gw_of m736 rfl
theorem m737 : (Jvm.Cond.code ({ cls := "CompactformsLaw", name := "restarts", desc := "(LCompactforms;[I)Z" } : Jvm.MethodName) method_8_code (6 : Nat) (Option.some Jvm.ClassFile.FieldType.boolean)) ∈ lw_tbl := tk4 (List.mem_of_getElem? (i := 17) rfl)
theorem w737 : (Jvm.Cond.code ({ cls := "CompactformsLaw", name := "restarts", desc := "(LCompactforms;[I)Z" } : Jvm.MethodName) method_8_code (6 : Nat) (Option.some Jvm.ClassFile.FieldType.boolean)) ∈ GW := gw_of m737 rfl
theorem m738 : (Jvm.Cond.methodLink "CompactformsLaw" (114 : Nat) ({ cls := "CompactformsLaw", name := "sum", desc := "(LCompactforms;I)J" } : Jvm.MethodName)) ∈ lw_tbl := tk4 (List.mem_of_getElem? (i := 18) rfl)
theorem w738 : (Jvm.Cond.methodLink "CompactformsLaw" (114 : Nat) ({ cls := "CompactformsLaw", name := "sum", desc := "(LCompactforms;I)J" } : Jvm.MethodName)) ∈ GW := gw_of m738 rfl
theorem m739 : (Jvm.Cond.static ({ cls := "CompactformsLaw", name := "sum", desc := "(LCompactforms;I)J" } : Jvm.MethodName)) ∈ lw_tbl := tk4 (List.mem_of_getElem? (i := 19) rfl)
theorem w739 : (Jvm.Cond.static ({ cls := "CompactformsLaw", name := "sum", desc := "(LCompactforms;I)J" } : Jvm.MethodName)) ∈ GW := gw_of m739 rfl
theorem m740 : (Jvm.Cond.code ({ cls := "CompactformsLaw", name := "sum", desc := "(LCompactforms;I)J" } : Jvm.MethodName) method_7_code (7 : Nat) (Option.some Jvm.ClassFile.FieldType.long)) ∈ lw_tbl := tk4 (List.mem_of_getElem? (i := 20) rfl)
theorem w740 : (Jvm.Cond.code ({ cls := "CompactformsLaw", name := "sum", desc := "(LCompactforms;I)J" } : Jvm.MethodName) method_7_code (7 : Nat) (Option.some Jvm.ClassFile.FieldType.long)) ∈ GW := gw_of m740 rfl
theorem m741 : (Jvm.Cond.constantLong "CompactformsLaw" (102 : Nat) (31 : Int64)) ∈ lw_tbl := tk4 (List.mem_of_getElem? (i := 21) rfl)
theorem m742 : (Jvm.Cond.constantLong "CompactformsLaw" (104 : Nat) (1000003 : Int64)) ∈ lw_tbl := tk4 (List.mem_of_getElem? (i := 22) rfl)
theorem m743 : (Jvm.Cond.constantFloat "CompactformsLaw" (106 : Nat) (1090519040 : UInt32)) ∈ lw_tbl := tk4 (List.mem_of_getElem? (i := 23) rfl)
theorem m744 : (Jvm.Cond.methodLink "CompactformsLaw" (96 : Nat) ({ cls := "CompactformsLaw", name := "points", desc := "(LCompactforms;II)F" } : Jvm.MethodName)) ∈ lw_tbl := tk4 (List.mem_of_getElem? (i := 24) rfl)
theorem w744 : (Jvm.Cond.methodLink "CompactformsLaw" (96 : Nat) ({ cls := "CompactformsLaw", name := "points", desc := "(LCompactforms;II)F" } : Jvm.MethodName)) ∈ GW := gw_of m744 rfl
theorem m745 : (Jvm.Cond.static ({ cls := "CompactformsLaw", name := "points", desc := "(LCompactforms;II)F" } : Jvm.MethodName)) ∈ lw_tbl := tk4 (List.mem_of_getElem? (i := 25) rfl)
theorem w745 : (Jvm.Cond.static ({ cls := "CompactformsLaw", name := "points", desc := "(LCompactforms;II)F" } : Jvm.MethodName)) ∈ GW := gw_of m745 rfl
theorem m746 : (Jvm.Cond.codeWith ({ cls := "CompactformsLaw", name := "points", desc := "(LCompactforms;II)F" } : Jvm.MethodName) method_4_code (4 : Nat) (Option.some Jvm.ClassFile.FieldType.float) [((0 : Nat), (6 : Nat), (7 : Nat), (68 : Nat))]) ∈ lw_tbl := tk4 (List.mem_of_getElem? (i := 26) rfl)
theorem w746 : (Jvm.Cond.codeWith ({ cls := "CompactformsLaw", name := "points", desc := "(LCompactforms;II)F" } : Jvm.MethodName) method_4_code (4 : Nat) (Option.some Jvm.ClassFile.FieldType.float) [((0 : Nat), (6 : Nat), (7 : Nat), (68 : Nat))]) ∈ GW := gw_of m746 rfl
theorem m747 : (Jvm.Cond.methodLink "CompactformsLaw" (70 : Nat) ({ cls := "Compactforms", name := "points", desc := "(II)F" } : Jvm.MethodName)) ∈ lw_tbl := tk4 (List.mem_of_getElem? (i := 27) rfl)
theorem w747 : (Jvm.Cond.methodLink "CompactformsLaw" (70 : Nat) ({ cls := "Compactforms", name := "points", desc := "(II)F" } : Jvm.MethodName)) ∈ GW := gw_of m747 rfl
theorem m748 : (Jvm.Cond.instanceMethod ({ cls := "Compactforms", name := "points", desc := "(II)F" } : Jvm.MethodName)) ∈ lw_tbl := tk4 (List.mem_of_getElem? (i := 28) rfl)
theorem w748 : (Jvm.Cond.instanceMethod ({ cls := "Compactforms", name := "points", desc := "(II)F" } : Jvm.MethodName)) ∈ GW := gw_of m748 rfl
theorem m749 : (Jvm.Cond.selects "Compactforms" ({ cls := "Compactforms", name := "points", desc := "(II)F" } : Jvm.MethodName) ({ cls := "Compactforms", name := "points", desc := "(II)F" } : Jvm.MethodName)) ∈ lw_tbl := tk4 (List.mem_of_getElem? (i := 29) rfl)
theorem w749 : (Jvm.Cond.selects "Compactforms" ({ cls := "Compactforms", name := "points", desc := "(II)F" } : Jvm.MethodName) ({ cls := "Compactforms", name := "points", desc := "(II)F" } : Jvm.MethodName)) ∈ GW := gw_of m749 rfl
theorem m750 : (Jvm.Cond.code ({ cls := "Compactforms", name := "points", desc := "(II)F" } : Jvm.MethodName) prog_1_method_28_code (4 : Nat) (Option.some Jvm.ClassFile.FieldType.float)) ∈ lw_tbl := tk4 (List.mem_of_getElem? (i := 30) rfl)
theorem w750 : (Jvm.Cond.code ({ cls := "Compactforms", name := "points", desc := "(II)F" } : Jvm.MethodName) prog_1_method_28_code (4 : Nat) (Option.some Jvm.ClassFile.FieldType.float)) ∈ GW := gw_of m750 rfl
theorem m751 : (Jvm.Cond.stringRef "Compactforms" (164 : Nat) "no member") ∈ lw_tbl := tk4 (List.mem_of_getElem? (i := 31) rfl)
theorem m752 : (Jvm.Cond.methodLink "Compactforms" (166 : Nat) ({ cls := "Compactforms$Form", name := "bitsAt", desc := "(I)I" } : Jvm.MethodName)) ∈ lw_tbl := tk4 (List.mem_of_getElem? (i := 32) rfl)
theorem w752 : (Jvm.Cond.methodLink "Compactforms" (166 : Nat) ({ cls := "Compactforms$Form", name := "bitsAt", desc := "(I)I" } : Jvm.MethodName)) ∈ GW := gw_of m752 rfl
theorem m753 : (Jvm.Cond.declares ({ cls := "Compactforms$Form", name := "bitsAt", desc := "(I)I" } : Jvm.MethodName)) ∈ lw_tbl := tk4 (List.mem_of_getElem? (i := 33) rfl)
theorem m754 : (Jvm.Cond.sameMethod "Compactforms$Form" "Compactforms$Form" "bitsAt" "(I)I") ∈ lw_tbl := tk4 (List.mem_of_getElem? (i := 34) rfl)
theorem w754 : (Jvm.Cond.sameMethod "Compactforms$Form" "Compactforms$Form" "bitsAt" "(I)I") ∈ GW := gw_of m754 rfl
theorem m755 : (Jvm.Cond.selects "Compactforms$Chain" ({ cls := "Compactforms$Form", name := "bitsAt", desc := "(I)I" } : Jvm.MethodName) ({ cls := "Compactforms$Chain", name := "bitsAt", desc := "(I)I" } : Jvm.MethodName)) ∈ lw_tbl := tk4 (List.mem_of_getElem? (i := 35) rfl)
theorem w755 : (Jvm.Cond.selects "Compactforms$Chain" ({ cls := "Compactforms$Form", name := "bitsAt", desc := "(I)I" } : Jvm.MethodName) ({ cls := "Compactforms$Chain", name := "bitsAt", desc := "(I)I" } : Jvm.MethodName)) ∈ GW := gw_of m755 rfl
theorem m756 : (Jvm.Cond.instanceMethod ({ cls := "Compactforms$Chain", name := "bitsAt", desc := "(I)I" } : Jvm.MethodName)) ∈ lw_tbl := tk4 (List.mem_of_getElem? (i := 36) rfl)
theorem w756 : (Jvm.Cond.instanceMethod ({ cls := "Compactforms$Chain", name := "bitsAt", desc := "(I)I" } : Jvm.MethodName)) ∈ GW := gw_of m756 rfl
theorem m757 : (Jvm.Cond.code ({ cls := "Compactforms$Chain", name := "bitsAt", desc := "(I)I" } : Jvm.MethodName) prog_2_method_5_code (3 : Nat) (Option.some Jvm.ClassFile.FieldType.int)) ∈ lw_tbl := tk4 (List.mem_of_getElem? (i := 37) rfl)
theorem w757 : (Jvm.Cond.code ({ cls := "Compactforms$Chain", name := "bitsAt", desc := "(I)I" } : Jvm.MethodName) prog_2_method_5_code (3 : Nat) (Option.some Jvm.ClassFile.FieldType.int)) ∈ GW := gw_of m757 rfl
theorem m758 : (Jvm.Cond.selects "Compactforms$Row" ({ cls := "Compactforms$Form", name := "bitsAt", desc := "(I)I" } : Jvm.MethodName) ({ cls := "Compactforms$Row", name := "bitsAt", desc := "(I)I" } : Jvm.MethodName)) ∈ lw_tbl := tk4 (List.mem_of_getElem? (i := 38) rfl)
theorem w758 : (Jvm.Cond.selects "Compactforms$Row" ({ cls := "Compactforms$Form", name := "bitsAt", desc := "(I)I" } : Jvm.MethodName) ({ cls := "Compactforms$Row", name := "bitsAt", desc := "(I)I" } : Jvm.MethodName)) ∈ GW := gw_of m758 rfl
theorem m759 : (Jvm.Cond.selects "Compactforms$Table" ({ cls := "Compactforms$Form", name := "bitsAt", desc := "(I)I" } : Jvm.MethodName) ({ cls := "Compactforms$Table", name := "bitsAt", desc := "(I)I" } : Jvm.MethodName)) ∈ lw_tbl := tk4 (List.mem_of_getElem? (i := 39) rfl)
theorem w759 : (Jvm.Cond.selects "Compactforms$Table" ({ cls := "Compactforms$Form", name := "bitsAt", desc := "(I)I" } : Jvm.MethodName) ({ cls := "Compactforms$Table", name := "bitsAt", desc := "(I)I" } : Jvm.MethodName)) ∈ GW := gw_of m759 rfl
theorem m760 : (Jvm.Cond.instanceMethod ({ cls := "Compactforms$Table", name := "bitsAt", desc := "(I)I" } : Jvm.MethodName)) ∈ lw_tbl := tk4 (List.mem_of_getElem? (i := 40) rfl)
theorem w760 : (Jvm.Cond.instanceMethod ({ cls := "Compactforms$Table", name := "bitsAt", desc := "(I)I" } : Jvm.MethodName)) ∈ GW := gw_of m760 rfl
theorem m761 : (Jvm.Cond.code ({ cls := "Compactforms$Table", name := "bitsAt", desc := "(I)I" } : Jvm.MethodName) prog_7_method_6_code (2 : Nat) (Option.some Jvm.ClassFile.FieldType.int)) ∈ lw_tbl := tk4 (List.mem_of_getElem? (i := 41) rfl)
theorem w761 : (Jvm.Cond.code ({ cls := "Compactforms$Table", name := "bitsAt", desc := "(I)I" } : Jvm.MethodName) prog_7_method_6_code (2 : Nat) (Option.some Jvm.ClassFile.FieldType.int)) ∈ GW := gw_of m761 rfl
theorem m762 : (Jvm.Cond.methodLink "Compactforms" (169 : Nat) ({ cls := "Compactforms", name := "floatOf", desc := "(I)F" } : Jvm.MethodName)) ∈ lw_tbl := tk4 (List.mem_of_getElem? (i := 42) rfl)
theorem w762 : (Jvm.Cond.methodLink "Compactforms" (169 : Nat) ({ cls := "Compactforms", name := "floatOf", desc := "(I)F" } : Jvm.MethodName)) ∈ GW := gw_of m762 rfl
theorem m763 : (Jvm.Cond.static ({ cls := "Compactforms", name := "floatOf", desc := "(I)F" } : Jvm.MethodName)) ∈ lw_tbl := tk4 (List.mem_of_getElem? (i := 43) rfl)
theorem w763 : (Jvm.Cond.static ({ cls := "Compactforms", name := "floatOf", desc := "(I)F" } : Jvm.MethodName)) ∈ GW := gw_of m763 rfl
theorem m764 : (Jvm.Cond.code ({ cls := "Compactforms", name := "floatOf", desc := "(I)F" } : Jvm.MethodName) prog_1_method_54_code (7 : Nat) (Option.some Jvm.ClassFile.FieldType.float)) ∈ lw_tbl := tk4 (List.mem_of_getElem? (i := 44) rfl)
theorem w764 : (Jvm.Cond.code ({ cls := "Compactforms", name := "floatOf", desc := "(I)F" } : Jvm.MethodName) prog_1_method_54_code (7 : Nat) (Option.some Jvm.ClassFile.FieldType.float)) ∈ GW := gw_of m764 rfl
theorem m765 : (Jvm.Cond.constant "Compactforms" (282 : Nat) (8388607 : Int32)) ∈ lw_tbl := tk4 (List.mem_of_getElem? (i := 45) rfl)
theorem w765 : (Jvm.Cond.constant "Compactforms" (282 : Nat) (8388607 : Int32)) ∈ GW := gw_of m765 rfl
theorem m766 : (Jvm.Cond.constant "Compactforms" (283 : Nat) (8388608 : Int32)) ∈ lw_tbl := tk4 (List.mem_of_getElem? (i := 46) rfl)
theorem w766 : (Jvm.Cond.constant "Compactforms" (283 : Nat) (8388608 : Int32)) ∈ GW := gw_of m766 rfl
theorem m767 : (Jvm.Cond.constantDouble "Compactforms" (284 : Nat) (4611686018427387904 : UInt64)) ∈ lw_tbl := tk4 (List.mem_of_getElem? (i := 47) rfl)
theorem w767 : (Jvm.Cond.constantDouble "Compactforms" (284 : Nat) (4611686018427387904 : UInt64)) ∈ GW := gw_of m767 rfl
theorem m768 : (Jvm.Cond.constantDouble "Compactforms" (286 : Nat) (4602678819172646912 : UInt64)) ∈ lw_tbl := tk4 (List.mem_of_getElem? (i := 48) rfl)
theorem w768 : (Jvm.Cond.constantDouble "Compactforms" (286 : Nat) (4602678819172646912 : UInt64)) ∈ GW := gw_of m768 rfl
theorem m769 : (Jvm.Cond.constantFloat "CompactformsLaw" (74 : Nat) (3204448256 : UInt32)) ∈ lw_tbl := tk4 (List.mem_of_getElem? (i := 49) rfl)
theorem m770 : (Jvm.Cond.methodLink "CompactformsLaw" (118 : Nat) ({ cls := "Compactforms", name := "restart", desc := "()I" } : Jvm.MethodName)) ∈ lw_tbl := tk4 (List.mem_of_getElem? (i := 50) rfl)
theorem w770 : (Jvm.Cond.methodLink "CompactformsLaw" (118 : Nat) ({ cls := "Compactforms", name := "restart", desc := "()I" } : Jvm.MethodName)) ∈ GW := gw_of m770 rfl
theorem m771 : (Jvm.Cond.instanceMethod ({ cls := "Compactforms", name := "restart", desc := "()I" } : Jvm.MethodName)) ∈ lw_tbl := tk4 (List.mem_of_getElem? (i := 51) rfl)
theorem w771 : (Jvm.Cond.instanceMethod ({ cls := "Compactforms", name := "restart", desc := "()I" } : Jvm.MethodName)) ∈ GW := gw_of m771 rfl
theorem m772 : (Jvm.Cond.selects "Compactforms" ({ cls := "Compactforms", name := "restart", desc := "()I" } : Jvm.MethodName) ({ cls := "Compactforms", name := "restart", desc := "()I" } : Jvm.MethodName)) ∈ lw_tbl := tk4 (List.mem_of_getElem? (i := 52) rfl)
theorem w772 : (Jvm.Cond.selects "Compactforms" ({ cls := "Compactforms", name := "restart", desc := "()I" } : Jvm.MethodName) ({ cls := "Compactforms", name := "restart", desc := "()I" } : Jvm.MethodName)) ∈ GW := gw_of m772 rfl
theorem m773 : (Jvm.Cond.code ({ cls := "Compactforms", name := "restart", desc := "()I" } : Jvm.MethodName) prog_1_method_20_code (4 : Nat) (Option.some Jvm.ClassFile.FieldType.int)) ∈ lw_tbl := tk4 (List.mem_of_getElem? (i := 53) rfl)
theorem w773 : (Jvm.Cond.code ({ cls := "Compactforms", name := "restart", desc := "()I" } : Jvm.MethodName) prog_1_method_20_code (4 : Nat) (Option.some Jvm.ClassFile.FieldType.int)) ∈ GW := gw_of m773 rfl
theorem m774 : (Jvm.Cond.methodLink "Compactforms" (135 : Nat) ({ cls := "Compactforms", name := "doAgain", desc := "(I)V" } : Jvm.MethodName)) ∈ lw_tbl := tk4 (List.mem_of_getElem? (i := 54) rfl)
theorem w774 : (Jvm.Cond.methodLink "Compactforms" (135 : Nat) ({ cls := "Compactforms", name := "doAgain", desc := "(I)V" } : Jvm.MethodName)) ∈ GW := gw_of m774 rfl
theorem m775 : (Jvm.Cond.privateMethod ({ cls := "Compactforms", name := "doAgain", desc := "(I)V" } : Jvm.MethodName)) ∈ lw_tbl := tk4 (List.mem_of_getElem? (i := 55) rfl)
theorem m776 : (Jvm.Cond.instanceMethod ({ cls := "Compactforms", name := "doAgain", desc := "(I)V" } : Jvm.MethodName)) ∈ lw_tbl := tk4 (List.mem_of_getElem? (i := 56) rfl)
theorem w776 : (Jvm.Cond.instanceMethod ({ cls := "Compactforms", name := "doAgain", desc := "(I)V" } : Jvm.MethodName)) ∈ GW := gw_of m776 rfl
theorem m777 : (Jvm.Cond.code ({ cls := "Compactforms", name := "doAgain", desc := "(I)V" } : Jvm.MethodName) prog_1_method_51_code (3 : Nat) (Option.none : Option Jvm.ClassFile.FieldType)) ∈ lw_tbl := tk4 (List.mem_of_getElem? (i := 57) rfl)
theorem w777 : (Jvm.Cond.code ({ cls := "Compactforms", name := "doAgain", desc := "(I)V" } : Jvm.MethodName) prog_1_method_51_code (3 : Nat) (Option.none : Option Jvm.ClassFile.FieldType)) ∈ GW := gw_of m777 rfl
theorem m778 : (Jvm.Cond.methodLink "Compactforms" (275 : Nat) ({ cls := "Compactforms$Log", name := "stamp", desc := "(III)V" } : Jvm.MethodName)) ∈ lw_tbl := tk4 (List.mem_of_getElem? (i := 58) rfl)
theorem w778 : (Jvm.Cond.methodLink "Compactforms" (275 : Nat) ({ cls := "Compactforms$Log", name := "stamp", desc := "(III)V" } : Jvm.MethodName)) ∈ GW := gw_of m778 rfl
theorem m779 : (Jvm.Cond.methodLink "CompactformsLaw" (124 : Nat) ({ cls := "CompactformsLaw", name := "isKey", desc := "(LCompactforms;I)Z" } : Jvm.MethodName)) ∈ lw_tbl := tk4 (List.mem_of_getElem? (i := 59) rfl)
theorem w779 : (Jvm.Cond.methodLink "CompactformsLaw" (124 : Nat) ({ cls := "CompactformsLaw", name := "isKey", desc := "(LCompactforms;I)Z" } : Jvm.MethodName)) ∈ GW := gw_of m779 rfl
theorem m780 : (Jvm.Cond.static ({ cls := "CompactformsLaw", name := "isKey", desc := "(LCompactforms;I)Z" } : Jvm.MethodName)) ∈ lw_tbl := tk4 (List.mem_of_getElem? (i := 60) rfl)
theorem w780 : (Jvm.Cond.static ({ cls := "CompactformsLaw", name := "isKey", desc := "(LCompactforms;I)Z" } : Jvm.MethodName)) ∈ GW := gw_of m780 rfl
theorem m781 : (Jvm.Cond.code ({ cls := "CompactformsLaw", name := "isKey", desc := "(LCompactforms;I)Z" } : Jvm.MethodName) method_5_code (10 : Nat) (Option.some Jvm.ClassFile.FieldType.boolean)) ∈ lw_tbl := tk4 (List.mem_of_getElem? (i := 61) rfl)
theorem w781 : (Jvm.Cond.code ({ cls := "CompactformsLaw", name := "isKey", desc := "(LCompactforms;I)Z" } : Jvm.MethodName) method_5_code (10 : Nat) (Option.some Jvm.ClassFile.FieldType.boolean)) ∈ GW := gw_of m781 rfl
theorem m782 : (Jvm.Cond.methodLink "CompactformsLaw" (81 : Nat) ({ cls := "Compactforms", name := "formOf", desc := "(I)I" } : Jvm.MethodName)) ∈ lw_tbl := tk4 (List.mem_of_getElem? (i := 62) rfl)
theorem w782 : (Jvm.Cond.methodLink "CompactformsLaw" (81 : Nat) ({ cls := "Compactforms", name := "formOf", desc := "(I)I" } : Jvm.MethodName)) ∈ GW := gw_of m782 rfl
theorem m783 : (Jvm.Cond.instanceMethod ({ cls := "Compactforms", name := "formOf", desc := "(I)I" } : Jvm.MethodName)) ∈ lw_tbl := tk4 (List.mem_of_getElem? (i := 63) rfl)
theorem w783 : (Jvm.Cond.instanceMethod ({ cls := "Compactforms", name := "formOf", desc := "(I)I" } : Jvm.MethodName)) ∈ GW := gw_of m783 rfl
theorem m784 : (Jvm.Cond.selects "Compactforms" ({ cls := "Compactforms", name := "formOf", desc := "(I)I" } : Jvm.MethodName) ({ cls := "Compactforms", name := "formOf", desc := "(I)I" } : Jvm.MethodName)) ∈ lw_tbl := tk4 (List.mem_of_getElem? (i := 64) rfl)
theorem w784 : (Jvm.Cond.selects "Compactforms" ({ cls := "Compactforms", name := "formOf", desc := "(I)I" } : Jvm.MethodName) ({ cls := "Compactforms", name := "formOf", desc := "(I)I" } : Jvm.MethodName)) ∈ GW := gw_of m784 rfl
theorem m785 : (Jvm.Cond.code ({ cls := "Compactforms", name := "formOf", desc := "(I)I" } : Jvm.MethodName) prog_1_method_23_code (2 : Nat) (Option.some Jvm.ClassFile.FieldType.int)) ∈ lw_tbl := tk4 (List.mem_of_getElem? (i := 65) rfl)
theorem w785 : (Jvm.Cond.code ({ cls := "Compactforms", name := "formOf", desc := "(I)I" } : Jvm.MethodName) prog_1_method_23_code (2 : Nat) (Option.some Jvm.ClassFile.FieldType.int)) ∈ GW := gw_of m785 rfl
theorem m786 : (Jvm.Cond.methodLink "CompactformsLaw" (93 : Nat) ({ cls := "Compactforms", name := "atByPlain", desc := "(II)I" } : Jvm.MethodName)) ∈ lw_tbl := tk4 (List.mem_of_getElem? (i := 66) rfl)
theorem w786 : (Jvm.Cond.methodLink "CompactformsLaw" (93 : Nat) ({ cls := "Compactforms", name := "atByPlain", desc := "(II)I" } : Jvm.MethodName)) ∈ GW := gw_of m786 rfl
theorem m787 : (Jvm.Cond.instanceMethod ({ cls := "Compactforms", name := "atByPlain", desc := "(II)I" } : Jvm.MethodName)) ∈ lw_tbl := tk4 (List.mem_of_getElem? (i := 67) rfl)
theorem w787 : (Jvm.Cond.instanceMethod ({ cls := "Compactforms", name := "atByPlain", desc := "(II)I" } : Jvm.MethodName)) ∈ GW := gw_of m787 rfl
theorem m788 : (Jvm.Cond.selects "Compactforms" ({ cls := "Compactforms", name := "atByPlain", desc := "(II)I" } : Jvm.MethodName) ({ cls := "Compactforms", name := "atByPlain", desc := "(II)I" } : Jvm.MethodName)) ∈ lw_tbl := tk4 (List.mem_of_getElem? (i := 68) rfl)
theorem w788 : (Jvm.Cond.selects "Compactforms" ({ cls := "Compactforms", name := "atByPlain", desc := "(II)I" } : Jvm.MethodName) ({ cls := "Compactforms", name := "atByPlain", desc := "(II)I" } : Jvm.MethodName)) ∈ GW := gw_of m788 rfl
theorem m789 : (Jvm.Cond.code ({ cls := "Compactforms", name := "atByPlain", desc := "(II)I" } : Jvm.MethodName) prog_1_method_26_code (3 : Nat) (Option.some Jvm.ClassFile.FieldType.int)) ∈ lw_tbl := tk4 (List.mem_of_getElem? (i := 69) rfl)
theorem w789 : (Jvm.Cond.code ({ cls := "Compactforms", name := "atByPlain", desc := "(II)I" } : Jvm.MethodName) prog_1_method_26_code (3 : Nat) (Option.some Jvm.ClassFile.FieldType.int)) ∈ GW := gw_of m789 rfl
theorem m790 : (Jvm.Cond.methodLink "CompactformsLaw" (172 : Nat) ({ cls := "CompactformsLaw", name := "isScanned", desc := "(LCompactforms;I)Z" } : Jvm.MethodName)) ∈ lw_tbl := tk4 (List.mem_of_getElem? (i := 70) rfl)
theorem w790 : (Jvm.Cond.methodLink "CompactformsLaw" (172 : Nat) ({ cls := "CompactformsLaw", name := "isScanned", desc := "(LCompactforms;I)Z" } : Jvm.MethodName)) ∈ GW := gw_of m790 rfl
theorem m791 : (Jvm.Cond.static ({ cls := "CompactformsLaw", name := "isScanned", desc := "(LCompactforms;I)Z" } : Jvm.MethodName)) ∈ lw_tbl := tk4 (List.mem_of_getElem? (i := 71) rfl)
theorem w791 : (Jvm.Cond.static ({ cls := "CompactformsLaw", name := "isScanned", desc := "(LCompactforms;I)Z" } : Jvm.MethodName)) ∈ GW := gw_of m791 rfl
theorem m792 : (Jvm.Cond.code ({ cls := "CompactformsLaw", name := "isScanned", desc := "(LCompactforms;I)Z" } : Jvm.MethodName) method_6_code (12 : Nat) (Option.some Jvm.ClassFile.FieldType.boolean)) ∈ lw_tbl := tk4 (List.mem_of_getElem? (i := 72) rfl)
theorem w792 : (Jvm.Cond.code ({ cls := "CompactformsLaw", name := "isScanned", desc := "(LCompactforms;I)Z" } : Jvm.MethodName) method_6_code (12 : Nat) (Option.some Jvm.ClassFile.FieldType.boolean)) ∈ GW := gw_of m792 rfl
theorem m793 : (Jvm.Cond.arrayClass Jvm.ClassFile.FieldType.long) ∈ lw_tbl := tk4 (List.mem_of_getElem? (i := 73) rfl)
theorem w793 : (Jvm.Cond.arrayClass Jvm.ClassFile.FieldType.long) ∈ GW := gw_of m793 rfl
theorem m794 : (Jvm.Cond.sameMethod "java/lang/Throwable" "java/lang/Throwable" "fillInStackTrace" "(I)Ljava/lang/Throwable;") ∈ lw_tbl := tk4 (List.mem_of_getElem? (i := 74) rfl)
theorem w794 : (Jvm.Cond.sameMethod "java/lang/Throwable" "java/lang/Throwable" "fillInStackTrace" "(I)Ljava/lang/Throwable;") ∈ GW := gw_of m794 rfl
theorem m795 : (Jvm.Cond.selects "Compactforms$Row" ({ cls := "Compactforms$Row", name := "putIn", desc := "(III)V" } : Jvm.MethodName) ({ cls := "Compactforms$Row", name := "putIn", desc := "(III)V" } : Jvm.MethodName)) ∈ lw_tbl := tk4 (List.mem_of_getElem? (i := 75) rfl)
theorem w795 : (Jvm.Cond.selects "Compactforms$Row" ({ cls := "Compactforms$Row", name := "putIn", desc := "(III)V" } : Jvm.MethodName) ({ cls := "Compactforms$Row", name := "putIn", desc := "(III)V" } : Jvm.MethodName)) ∈ GW := gw_of m795 rfl
theorem m796 : (Jvm.Cond.selects "Compactforms$Row" ({ cls := "Compactforms$Row", name := "dropOut", desc := "(II)V" } : Jvm.MethodName) ({ cls := "Compactforms$Row", name := "dropOut", desc := "(II)V" } : Jvm.MethodName)) ∈ lw_tbl := tk4 (List.mem_of_getElem? (i := 76) rfl)
theorem w796 : (Jvm.Cond.selects "Compactforms$Row" ({ cls := "Compactforms$Row", name := "dropOut", desc := "(II)V" } : Jvm.MethodName) ({ cls := "Compactforms$Row", name := "dropOut", desc := "(II)V" } : Jvm.MethodName)) ∈ GW := gw_of m796 rfl
theorem ms0 : (Jvm.Cond.selects "java/lang/Throwable" (⟨"java/lang/Throwable", "fillInStackTrace", "(I)Ljava/lang/Throwable;"⟩ : MethodName) (⟨"java/lang/Throwable", "fillInStackTrace", "(I)Ljava/lang/Throwable;"⟩ : MethodName)) ∈ lw_tbl := List.mem_append_left _ (List.mem_of_getElem? (i := 0) rfl)
theorem ws0 : (Jvm.Cond.selects "java/lang/Throwable" (⟨"java/lang/Throwable", "fillInStackTrace", "(I)Ljava/lang/Throwable;"⟩ : MethodName) (⟨"java/lang/Throwable", "fillInStackTrace", "(I)Ljava/lang/Throwable;"⟩ : MethodName)) ∈ GW := gw_of ms0 rfl
theorem ms1 : (Jvm.Cond.selects "Compactforms" (⟨"Compactforms", "typeNow", "(I)I"⟩ : MethodName) (⟨"Compactforms", "typeNow", "(I)I"⟩ : MethodName)) ∈ lw_tbl := List.mem_append_left _ (List.mem_of_getElem? (i := 1) rfl)
theorem ws1 : (Jvm.Cond.selects "Compactforms" (⟨"Compactforms", "typeNow", "(I)I"⟩ : MethodName) (⟨"Compactforms", "typeNow", "(I)I"⟩ : MethodName)) ∈ GW := gw_of ms1 rfl
theorem ms2 : (Jvm.Cond.selects "Compactforms" (⟨"Compactforms", "isThere", "(I)Z"⟩ : MethodName) (⟨"Compactforms", "isThere", "(I)Z"⟩ : MethodName)) ∈ lw_tbl := List.mem_append_left _ (List.mem_of_getElem? (i := 2) rfl)
theorem ws2 : (Jvm.Cond.selects "Compactforms" (⟨"Compactforms", "isThere", "(I)Z"⟩ : MethodName) (⟨"Compactforms", "isThere", "(I)Z"⟩ : MethodName)) ∈ GW := gw_of ms2 rfl
theorem ms3 : (Jvm.Cond.selects "Compactforms" (⟨"Compactforms", "sizeNow", "(I)I"⟩ : MethodName) (⟨"Compactforms", "sizeNow", "(I)I"⟩ : MethodName)) ∈ lw_tbl := List.mem_append_left _ (List.mem_of_getElem? (i := 3) rfl)
theorem ws3 : (Jvm.Cond.selects "Compactforms" (⟨"Compactforms", "sizeNow", "(I)I"⟩ : MethodName) (⟨"Compactforms", "sizeNow", "(I)I"⟩ : MethodName)) ∈ GW := gw_of ms3 rfl
theorem ms4 : (Jvm.Cond.selects "Compactforms" (⟨"Compactforms", "placeIn", "(II)I"⟩ : MethodName) (⟨"Compactforms", "placeIn", "(II)I"⟩ : MethodName)) ∈ lw_tbl := List.mem_append_left _ (List.mem_of_getElem? (i := 4) rfl)
theorem ws4 : (Jvm.Cond.selects "Compactforms" (⟨"Compactforms", "placeIn", "(II)I"⟩ : MethodName) (⟨"Compactforms", "placeIn", "(II)I"⟩ : MethodName)) ∈ GW := gw_of ms4 rfl
theorem ms5 : (Jvm.Cond.selects "Compactforms$Table" (⟨"Compactforms$Table", "bucketOf", "(I)I"⟩ : MethodName) (⟨"Compactforms$Table", "bucketOf", "(I)I"⟩ : MethodName)) ∈ lw_tbl := List.mem_append_left _ (List.mem_of_getElem? (i := 5) rfl)
theorem ws5 : (Jvm.Cond.selects "Compactforms$Table" (⟨"Compactforms$Table", "bucketOf", "(I)I"⟩ : MethodName) (⟨"Compactforms$Table", "bucketOf", "(I)I"⟩ : MethodName)) ∈ GW := gw_of ms5 rfl
theorem ms6 : (Jvm.Cond.selects "Compactforms$Table" (⟨"Compactforms$Table", "countBelow", "(I)I"⟩ : MethodName) (⟨"Compactforms$Table", "countBelow", "(I)I"⟩ : MethodName)) ∈ lw_tbl := List.mem_append_left _ (List.mem_of_getElem? (i := 6) rfl)
theorem ws6 : (Jvm.Cond.selects "Compactforms$Table" (⟨"Compactforms$Table", "countBelow", "(I)I"⟩ : MethodName) (⟨"Compactforms$Table", "countBelow", "(I)I"⟩ : MethodName)) ∈ GW := gw_of ms6 rfl
theorem ms7 : (Jvm.Cond.selects "Compactforms" (⟨"Compactforms", "needTypeOrAbsent", "(II)V"⟩ : MethodName) (⟨"Compactforms", "needTypeOrAbsent", "(II)V"⟩ : MethodName)) ∈ lw_tbl := List.mem_append_left _ (List.mem_of_getElem? (i := 7) rfl)
theorem ws7 : (Jvm.Cond.selects "Compactforms" (⟨"Compactforms", "needTypeOrAbsent", "(II)V"⟩ : MethodName) (⟨"Compactforms", "needTypeOrAbsent", "(II)V"⟩ : MethodName)) ∈ GW := gw_of ms7 rfl
theorem ms8 : (Jvm.Cond.selects "Compactforms" (⟨"Compactforms", "needType", "(II)V"⟩ : MethodName) (⟨"Compactforms", "needType", "(II)V"⟩ : MethodName)) ∈ lw_tbl := List.mem_append_left _ (List.mem_of_getElem? (i := 8) rfl)
theorem ws8 : (Jvm.Cond.selects "Compactforms" (⟨"Compactforms", "needType", "(II)V"⟩ : MethodName) (⟨"Compactforms", "needType", "(II)V"⟩ : MethodName)) ∈ GW := gw_of ms8 rfl
theorem ms9 : (Jvm.Cond.selects "Compactforms" (⟨"Compactforms", "needRoom", "(I)V"⟩ : MethodName) (⟨"Compactforms", "needRoom", "(I)V"⟩ : MethodName)) ∈ lw_tbl := List.mem_append_left _ (List.mem_of_getElem? (i := 9) rfl)
theorem ws9 : (Jvm.Cond.selects "Compactforms" (⟨"Compactforms", "needRoom", "(I)V"⟩ : MethodName) (⟨"Compactforms", "needRoom", "(I)V"⟩ : MethodName)) ∈ GW := gw_of ms9 rfl
theorem ms10 : (Jvm.Cond.selects "Compactforms" (⟨"Compactforms", "needRowLeft", "()V"⟩ : MethodName) (⟨"Compactforms", "needRowLeft", "()V"⟩ : MethodName)) ∈ lw_tbl := List.mem_append_left _ (List.mem_of_getElem? (i := 10) rfl)
theorem ws10 : (Jvm.Cond.selects "Compactforms" (⟨"Compactforms", "needRowLeft", "()V"⟩ : MethodName) (⟨"Compactforms", "needRowLeft", "()V"⟩ : MethodName)) ∈ GW := gw_of ms10 rfl
theorem ms11 : (Jvm.Cond.selects "Compactforms" (⟨"Compactforms", "call", "(IIIII)I"⟩ : MethodName) (⟨"Compactforms", "call", "(IIIII)I"⟩ : MethodName)) ∈ lw_tbl := List.mem_append_left _ (List.mem_of_getElem? (i := 11) rfl)
theorem ws11 : (Jvm.Cond.selects "Compactforms" (⟨"Compactforms", "call", "(IIIII)I"⟩ : MethodName) (⟨"Compactforms", "call", "(IIIII)I"⟩ : MethodName)) ∈ GW := gw_of ms11 rfl
theorem ms12 : (Jvm.Cond.selects "Compactforms" (⟨"Compactforms", "perform", "(IIIII)I"⟩ : MethodName) (⟨"Compactforms", "perform", "(IIIII)I"⟩ : MethodName)) ∈ lw_tbl := List.mem_append_left _ (List.mem_of_getElem? (i := 12) rfl)
theorem ws12 : (Jvm.Cond.selects "Compactforms" (⟨"Compactforms", "perform", "(IIIII)I"⟩ : MethodName) (⟨"Compactforms", "perform", "(IIIII)I"⟩ : MethodName)) ∈ GW := gw_of ms12 rfl
theorem ms13 : (Jvm.Cond.selects "Compactforms" (⟨"Compactforms", "makeIfAbsent", "(LCompactforms$Value;I)V"⟩ : MethodName) (⟨"Compactforms", "makeIfAbsent", "(LCompactforms$Value;I)V"⟩ : MethodName)) ∈ lw_tbl := List.mem_append_left _ (List.mem_of_getElem? (i := 13) rfl)
theorem ws13 : (Jvm.Cond.selects "Compactforms" (⟨"Compactforms", "makeIfAbsent", "(LCompactforms$Value;I)V"⟩ : MethodName) (⟨"Compactforms", "makeIfAbsent", "(LCompactforms$Value;I)V"⟩ : MethodName)) ∈ GW := gw_of ms13 rfl
theorem ms14 : (Jvm.Cond.selects "Compactforms$Value" (⟨"Compactforms$Value", "outgrowsSmall", "(I)Z"⟩ : MethodName) (⟨"Compactforms$Value", "outgrowsSmall", "(I)Z"⟩ : MethodName)) ∈ lw_tbl := List.mem_append_left _ (List.mem_of_getElem? (i := 14) rfl)
theorem ws14 : (Jvm.Cond.selects "Compactforms$Value" (⟨"Compactforms$Value", "outgrowsSmall", "(I)Z"⟩ : MethodName) (⟨"Compactforms$Value", "outgrowsSmall", "(I)Z"⟩ : MethodName)) ∈ GW := gw_of ms14 rfl
theorem ms15 : (Jvm.Cond.selects "Compactforms$Value" (⟨"Compactforms$Value", "becomeBig", "()V"⟩ : MethodName) (⟨"Compactforms$Value", "becomeBig", "()V"⟩ : MethodName)) ∈ lw_tbl := List.mem_append_left _ (List.mem_of_getElem? (i := 15) rfl)
theorem ws15 : (Jvm.Cond.selects "Compactforms$Value" (⟨"Compactforms$Value", "becomeBig", "()V"⟩ : MethodName) (⟨"Compactforms$Value", "becomeBig", "()V"⟩ : MethodName)) ∈ GW := gw_of ms15 rfl
theorem ms16 : (Jvm.Cond.selects "Compactforms$Chain" (⟨"Compactforms$Chain", "nodeAt", "(I)I"⟩ : MethodName) (⟨"Compactforms$Chain", "nodeAt", "(I)I"⟩ : MethodName)) ∈ lw_tbl := List.mem_append_left _ (List.mem_of_getElem? (i := 16) rfl)
theorem ws16 : (Jvm.Cond.selects "Compactforms$Chain" (⟨"Compactforms$Chain", "nodeAt", "(I)I"⟩ : MethodName) (⟨"Compactforms$Chain", "nodeAt", "(I)I"⟩ : MethodName)) ∈ GW := gw_of ms16 rfl
theorem ms17 : (Jvm.Cond.selects "Compactforms$Table" (⟨"Compactforms$Table", "freeSlot", "()I"⟩ : MethodName) (⟨"Compactforms$Table", "freeSlot", "()I"⟩ : MethodName)) ∈ lw_tbl := List.mem_append_left _ (List.mem_of_getElem? (i := 17) rfl)
theorem ws17 : (Jvm.Cond.selects "Compactforms$Table" (⟨"Compactforms$Table", "freeSlot", "()I"⟩ : MethodName) (⟨"Compactforms$Table", "freeSlot", "()I"⟩ : MethodName)) ∈ GW := gw_of ms17 rfl
theorem ms18 : (Jvm.Cond.selects "Compactforms$Table" (⟨"Compactforms$Table", "link", "(II)V"⟩ : MethodName) (⟨"Compactforms$Table", "link", "(II)V"⟩ : MethodName)) ∈ lw_tbl := List.mem_append_left _ (List.mem_of_getElem? (i := 18) rfl)
theorem ws18 : (Jvm.Cond.selects "Compactforms$Table" (⟨"Compactforms$Table", "link", "(II)V"⟩ : MethodName) (⟨"Compactforms$Table", "link", "(II)V"⟩ : MethodName)) ∈ GW := gw_of ms18 rfl
theorem ms19 : (Jvm.Cond.selects "Compactforms$Table" (⟨"Compactforms$Table", "smallestAbove", "(I)I"⟩ : MethodName) (⟨"Compactforms$Table", "smallestAbove", "(I)I"⟩ : MethodName)) ∈ lw_tbl := List.mem_append_left _ (List.mem_of_getElem? (i := 19) rfl)
theorem ws19 : (Jvm.Cond.selects "Compactforms$Table" (⟨"Compactforms$Table", "smallestAbove", "(I)I"⟩ : MethodName) (⟨"Compactforms$Table", "smallestAbove", "(I)I"⟩ : MethodName)) ∈ GW := gw_of ms19 rfl
theorem ms20 : (Jvm.Cond.selects "Compactforms" (⟨"Compactforms", "needIndex", "(II)V"⟩ : MethodName) (⟨"Compactforms", "needIndex", "(II)V"⟩ : MethodName)) ∈ lw_tbl := List.mem_append_left _ (List.mem_of_getElem? (i := 20) rfl)
theorem ws20 : (Jvm.Cond.selects "Compactforms" (⟨"Compactforms", "needIndex", "(II)V"⟩ : MethodName) (⟨"Compactforms", "needIndex", "(II)V"⟩ : MethodName)) ∈ GW := gw_of ms20 rfl
theorem ms21 : (Jvm.Cond.selects "Compactforms$Table" (⟨"Compactforms$Table", "readBackwards", "(I)I"⟩ : MethodName) (⟨"Compactforms$Table", "readBackwards", "(I)I"⟩ : MethodName)) ∈ lw_tbl := List.mem_append_left _ (List.mem_of_getElem? (i := 21) rfl)
theorem ws21 : (Jvm.Cond.selects "Compactforms$Table" (⟨"Compactforms$Table", "readBackwards", "(I)I"⟩ : MethodName) (⟨"Compactforms$Table", "readBackwards", "(I)I"⟩ : MethodName)) ∈ GW := gw_of ms21 rfl
theorem ms22 : (Jvm.Cond.selects "Compactforms" (⟨"Compactforms", "writeAnew", "(I)V"⟩ : MethodName) (⟨"Compactforms", "writeAnew", "(I)V"⟩ : MethodName)) ∈ lw_tbl := List.mem_append_left _ (List.mem_of_getElem? (i := 22) rfl)
theorem ws22 : (Jvm.Cond.selects "Compactforms" (⟨"Compactforms", "writeAnew", "(I)V"⟩ : MethodName) (⟨"Compactforms", "writeAnew", "(I)V"⟩ : MethodName)) ∈ GW := gw_of ms22 rfl
theorem ms23 : (Jvm.Cond.selects "Compactforms" (⟨"Compactforms", "copyStreamRows", "(I)V"⟩ : MethodName) (⟨"Compactforms", "copyStreamRows", "(I)V"⟩ : MethodName)) ∈ lw_tbl := List.mem_append_left _ (List.mem_of_getElem? (i := 23) rfl)
theorem ws23 : (Jvm.Cond.selects "Compactforms" (⟨"Compactforms", "copyStreamRows", "(I)V"⟩ : MethodName) (⟨"Compactforms", "copyStreamRows", "(I)V"⟩ : MethodName)) ∈ GW := gw_of ms23 rfl
theorem ms24 : (Jvm.Cond.selects "Compactforms" (⟨"Compactforms", "doAgain", "(I)V"⟩ : MethodName) (⟨"Compactforms", "doAgain", "(I)V"⟩ : MethodName)) ∈ lw_tbl := List.mem_append_left _ (List.mem_of_getElem? (i := 24) rfl)
theorem ws24 : (Jvm.Cond.selects "Compactforms" (⟨"Compactforms", "doAgain", "(I)V"⟩ : MethodName) (⟨"Compactforms", "doAgain", "(I)V"⟩ : MethodName)) ∈ GW := gw_of ms24 rfl
