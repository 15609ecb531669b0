theorem cIn1 {w : Cond} (h : w ∈ tables_1_1) : w ∈ tables_1 := List.mem_append_left _ h
theorem cTB1 {w : Cond} {i : Nat} (h : tables_1_1[i]? = some w) (g : goodWord w = true) : w ∈ TB := List.mem_filter.mpr ⟨List.mem_append_right _ (List.mem_append_right _ (cIn1 (List.mem_of_getElem? h))), g⟩
theorem cTN1 {w : Cond} {i : Nat} (h : tables_1_1[i]? = some w) (g : nsW w = true) : w ∈ TN := List.mem_filter.mpr ⟨cIn1 (List.mem_of_getElem? h), g⟩
theorem cIn2 {w : Cond} (h : w ∈ tables_1_2) : w ∈ tables_1 := List.mem_append_right _ (List.mem_append_left _ h)
theorem cTB2 {w : Cond} {i : Nat} (h : tables_1_2[i]? = some w) (g : goodWord w = true) : w ∈ TB := List.mem_filter.mpr ⟨List.mem_append_right _ (List.mem_append_right _ (cIn2 (List.mem_of_getElem? h))), g⟩
theorem cTN2 {w : Cond} {i : Nat} (h : tables_1_2[i]? = some w) (g : nsW w = true) : w ∈ TN := List.mem_filter.mpr ⟨cIn2 (List.mem_of_getElem? h), g⟩
theorem cIn3 {w : Cond} (h : w ∈ tables_1_3) : w ∈ tables_1 := List.mem_append_right _ (List.mem_append_right _ (List.mem_append_left _ h))
theorem cTB3 {w : Cond} {i : Nat} (h : tables_1_3[i]? = some w) (g : goodWord w = true) : w ∈ TB := List.mem_filter.mpr ⟨List.mem_append_right _ (List.mem_append_right _ (cIn3 (List.mem_of_getElem? h))), g⟩
theorem cTN3 {w : Cond} {i : Nat} (h : tables_1_3[i]? = some w) (g : nsW w = true) : w ∈ TN := List.mem_filter.mpr ⟨cIn3 (List.mem_of_getElem? h), g⟩
theorem cIn4 {w : Cond} (h : w ∈ tables_1_4) : w ∈ tables_1 := List.mem_append_right _ (List.mem_append_right _ (List.mem_append_right _ (List.mem_append_left _ h)))
theorem cTB4 {w : Cond} {i : Nat} (h : tables_1_4[i]? = some w) (g : goodWord w = true) : w ∈ TB := List.mem_filter.mpr ⟨List.mem_append_right _ (List.mem_append_right _ (cIn4 (List.mem_of_getElem? h))), g⟩
theorem cTN4 {w : Cond} {i : Nat} (h : tables_1_4[i]? = some w) (g : nsW w = true) : w ∈ TN := List.mem_filter.mpr ⟨cIn4 (List.mem_of_getElem? h), g⟩
theorem cIn5 {w : Cond} (h : w ∈ tables_1_5) : w ∈ tables_1 := List.mem_append_right _ (List.mem_append_right _ (List.mem_append_right _ (List.mem_append_right _ (List.mem_append_left _ h))))
theorem cTB5 {w : Cond} {i : Nat} (h : tables_1_5[i]? = some w) (g : goodWord w = true) : w ∈ TB := List.mem_filter.mpr ⟨List.mem_append_right _ (List.mem_append_right _ (cIn5 (List.mem_of_getElem? h))), g⟩
theorem cTN5 {w : Cond} {i : Nat} (h : tables_1_5[i]? = some w) (g : nsW w = true) : w ∈ TN := List.mem_filter.mpr ⟨cIn5 (List.mem_of_getElem? h), g⟩
theorem cIn6 {w : Cond} (h : w ∈ tables_1_6) : w ∈ tables_1 := List.mem_append_right _ (List.mem_append_right _ (List.mem_append_right _ (List.mem_append_right _ (List.mem_append_right _ (List.mem_append_left _ h)))))
theorem cTB6 {w : Cond} {i : Nat} (h : tables_1_6[i]? = some w) (g : goodWord w = true) : w ∈ TB := List.mem_filter.mpr ⟨List.mem_append_right _ (List.mem_append_right _ (cIn6 (List.mem_of_getElem? h))), g⟩
theorem cTN6 {w : Cond} {i : Nat} (h : tables_1_6[i]? = some w) (g : nsW w = true) : w ∈ TN := List.mem_filter.mpr ⟨cIn6 (List.mem_of_getElem? h), g⟩
theorem cIn7 {w : Cond} (h : w ∈ tables_1_7) : w ∈ tables_1 := List.mem_append_right _ (List.mem_append_right _ (List.mem_append_right _ (List.mem_append_right _ (List.mem_append_right _ (List.mem_append_right _ (List.mem_append_left _ h))))))
theorem cTB7 {w : Cond} {i : Nat} (h : tables_1_7[i]? = some w) (g : goodWord w = true) : w ∈ TB := List.mem_filter.mpr ⟨List.mem_append_right _ (List.mem_append_right _ (cIn7 (List.mem_of_getElem? h))), g⟩
theorem cTN7 {w : Cond} {i : Nat} (h : tables_1_7[i]? = some w) (g : nsW w = true) : w ∈ TN := List.mem_filter.mpr ⟨cIn7 (List.mem_of_getElem? h), g⟩
theorem cIn8 {w : Cond} (h : w ∈ tables_1_8) : w ∈ tables_1 := List.mem_append_right _ (List.mem_append_right _ (List.mem_append_right _ (List.mem_append_right _ (List.mem_append_right _ (List.mem_append_right _ (List.mem_append_right _ (List.mem_append_left _ h)))))))
theorem cTB8 {w : Cond} {i : Nat} (h : tables_1_8[i]? = some w) (g : goodWord w = true) : w ∈ TB := List.mem_filter.mpr ⟨List.mem_append_right _ (List.mem_append_right _ (cIn8 (List.mem_of_getElem? h))), g⟩
theorem cTN8 {w : Cond} {i : Nat} (h : tables_1_8[i]? = some w) (g : nsW w = true) : w ∈ TN := List.mem_filter.mpr ⟨cIn8 (List.mem_of_getElem? h), g⟩
theorem cIn9 {w : Cond} (h : w ∈ tables_1_9) : w ∈ tables_1 := List.mem_append_right _ (List.mem_append_right _ (List.mem_append_right _ (List.mem_append_right _ (List.mem_append_right _ (List.mem_append_right _ (List.mem_append_right _ (List.mem_append_right _ (List.mem_append_left _ h))))))))
theorem cTB9 {w : Cond} {i : Nat} (h : tables_1_9[i]? = some w) (g : goodWord w = true) : w ∈ TB := List.mem_filter.mpr ⟨List.mem_append_right _ (List.mem_append_right _ (cIn9 (List.mem_of_getElem? h))), g⟩
theorem cTN9 {w : Cond} {i : Nat} (h : tables_1_9[i]? = some w) (g : nsW w = true) : w ∈ TN := List.mem_filter.mpr ⟨cIn9 (List.mem_of_getElem? h), g⟩
theorem cIn10 {w : Cond} (h : w ∈ tables_1_10) : w ∈ tables_1 := List.mem_append_right _ (List.mem_append_right _ (List.mem_append_right _ (List.mem_append_right _ (List.mem_append_right _ (List.mem_append_right _ (List.mem_append_right _ (List.mem_append_right _ (List.mem_append_right _ (List.mem_append_left _ h)))))))))
theorem cTB10 {w : Cond} {i : Nat} (h : tables_1_10[i]? = some w) (g : goodWord w = true) : w ∈ TB := List.mem_filter.mpr ⟨List.mem_append_right _ (List.mem_append_right _ (cIn10 (List.mem_of_getElem? h))), g⟩
theorem cTN10 {w : Cond} {i : Nat} (h : tables_1_10[i]? = some w) (g : nsW w = true) : w ∈ TN := List.mem_filter.mpr ⟨cIn10 (List.mem_of_getElem? h), g⟩
theorem cIn11 {w : Cond} (h : w ∈ tables_1_11) : w ∈ tables_1 := List.mem_append_right _ (List.mem_append_right _ (List.mem_append_right _ (List.mem_append_right _ (List.mem_append_right _ (List.mem_append_right _ (List.mem_append_right _ (List.mem_append_right _ (List.mem_append_right _ (List.mem_append_right _ (List.mem_append_left _ h))))))))))
theorem cTB11 {w : Cond} {i : Nat} (h : tables_1_11[i]? = some w) (g : goodWord w = true) : w ∈ TB := List.mem_filter.mpr ⟨List.mem_append_right _ (List.mem_append_right _ (cIn11 (List.mem_of_getElem? h))), g⟩
theorem cTN11 {w : Cond} {i : Nat} (h : tables_1_11[i]? = some w) (g : nsW w = true) : w ∈ TN := List.mem_filter.mpr ⟨cIn11 (List.mem_of_getElem? h), g⟩
theorem cIn12 {w : Cond} (h : w ∈ tables_1_12) : w ∈ tables_1 := List.mem_append_right _ (List.mem_append_right _ (List.mem_append_right _ (List.mem_append_right _ (List.mem_append_right _ (List.mem_append_right _ (List.mem_append_right _ (List.mem_append_right _ (List.mem_append_right _ (List.mem_append_right _ (List.mem_append_right _ (h)))))))))))
theorem cTB12 {w : Cond} {i : Nat} (h : tables_1_12[i]? = some w) (g : goodWord w = true) : w ∈ TB := List.mem_filter.mpr ⟨List.mem_append_right _ (List.mem_append_right _ (cIn12 (List.mem_of_getElem? h))), g⟩
theorem cTN12 {w : Cond} {i : Nat} (h : tables_1_12[i]? = some w) (g : nsW w = true) : w ∈ TN := List.mem_filter.mpr ⟨cIn12 (List.mem_of_getElem? h), g⟩
theorem t_0 : Jvm.Cond.initialized "ExactlySaidLaw" ∈ TB := cTB1 (i := 0) rfl rfl
theorem t_1 : Jvm.Cond.initialized "ExactlySaid" ∈ TB := cTB1 (i := 1) rfl rfl
theorem t_2 : Jvm.Cond.initialized "ExactlySaid$Fraction" ∈ TB := cTB1 (i := 2) rfl rfl
theorem t_3 : Jvm.Cond.initialized "ExactlySaid$Nat" ∈ TB := cTB1 (i := 3) rfl rfl
theorem t_4 : Jvm.Cond.initialized "java/lang/AbstractStringBuilder" ∈ TB := cTB1 (i := 4) rfl rfl
theorem t_5 : Jvm.Cond.initialized "java/lang/StringBuilder" ∈ TB := cTB1 (i := 5) rfl rfl
theorem t_6 : Jvm.Cond.initialized "java/lang/String" ∈ TB := cTB1 (i := 6) rfl rfl
theorem t_8 : Jvm.Cond.initialized "ExactlySaid$Steps" ∈ TB := cTB1 (i := 8) rfl rfl
theorem t_9 : Jvm.Cond.initialized "ExactlySaid$Reckoner" ∈ TB := cTB1 (i := 9) rfl rfl
theorem t_10 : Jvm.Cond.initialized "ExactlySaid$Reader" ∈ TB := cTB1 (i := 10) rfl rfl
theorem t_11 : Jvm.Cond.initialized "ExactlySaid$Machine" ∈ TB := cTB1 (i := 11) rfl rfl
theorem t_12 : Jvm.Cond.initialized "ExactlySaid$State" ∈ TB := cTB1 (i := 12) rfl rfl
theorem t_13 : Jvm.Cond.initialized "ExactlySaid$Book" ∈ TB := cTB1 (i := 13) rfl rfl
theorem t_14 : Jvm.Cond.initialized "ExactlySaid$Row" ∈ TB := cTB1 (i := 14) rfl rfl
theorem t_15 : Jvm.Cond.initialized "java/lang/Math" ∈ TB := cTB1 (i := 15) rfl rfl
theorem t_16 : Jvm.Cond.initialized "ExactlySaidModel" ∈ TB := cTB1 (i := 16) rfl rfl
theorem t_22 : Jvm.Cond.initialized "ExactlySaid$Sum" ∈ TB := cTB1 (i := 22) rfl rfl
theorem t_23 : Jvm.Cond.initialized "java/util/Arrays" ∈ TB := cTB1 (i := 23) rfl rfl
theorem t_24 : Jvm.Cond.initialized "java/lang/System" ∈ TB := cTB1 (i := 24) rfl rfl
theorem t_26 : Jvm.Cond.initialized "ExactlySaid$Told" ∈ TB := cTB1 (i := 26) rfl rfl
theorem t_30 : Jvm.Cond.initialized "jdk/internal/util/ArraysSupport" ∈ TB := cTB1 (i := 30) rfl rfl
theorem t_31 : Jvm.Cond.initialized "jdk/internal/util/Preconditions" ∈ TB := cTB1 (i := 31) rfl rfl
theorem t_32 : Jvm.Cond.initialized "java/lang/StringLatin1" ∈ TB := cTB1 (i := 32) rfl rfl
theorem t_34 : Jvm.Cond.initialized "java/lang/Integer" ∈ TB := cTB1 (i := 34) rfl rfl
theorem t_36 : Jvm.Cond.classLink "ExactlySaidLaw" (8 : Nat) "ExactlySaid" ∈ TB := cTB1 (i := 36) rfl rfl
theorem t_37 : Jvm.Cond.instantiable "ExactlySaid" (19 : Nat) ∈ TB := cTB1 (i := 37) rfl rfl
theorem t_38 : Jvm.Cond.methodLink "ExactlySaidLaw" (104 : Nat) ({ cls := "ExactlySaid", name := "<init>", desc := "()V" } : Jvm.MethodName) ∈ TB := cTB1 (i := 38) rfl rfl
theorem t_39 : Jvm.Cond.instanceMethod ({ cls := "ExactlySaid", name := "<init>", desc := "()V" } : Jvm.MethodName) ∈ TB := cTB1 (i := 39) rfl rfl
theorem t_40 : Jvm.Cond.code ({ cls := "ExactlySaid", name := "<init>", desc := "()V" } : Jvm.MethodName) prog_1_method_1_code (2 : Nat) (Option.none : Option Jvm.ClassFile.FieldType) ∈ TB := cTB1 (i := 40) rfl rfl
theorem t_41 : Jvm.Cond.methodLink "ExactlySaid" (1 : Nat) ({ cls := "java/lang/Object", name := "<init>", desc := "()V" } : Jvm.MethodName) ∈ TB := cTB1 (i := 41) rfl rfl
theorem t_42 : Jvm.Cond.instanceMethod ({ cls := "java/lang/Object", name := "<init>", desc := "()V" } : Jvm.MethodName) ∈ TB := cTB1 (i := 42) rfl rfl
theorem t_43 : Jvm.Cond.code ({ cls := "java/lang/Object", name := "<init>", desc := "()V" } : Jvm.MethodName) object_method_1_code (1 : Nat) (Option.none : Option Jvm.ClassFile.FieldType) ∈ TB := cTB1 (i := 43) rfl rfl
theorem t_44 : Jvm.Cond.classLink "ExactlySaid" (29 : Nat) "ExactlySaid$Fraction" ∈ TB := cTB1 (i := 44) rfl rfl
theorem t_45 : Jvm.Cond.instantiable "ExactlySaid$Fraction" (3 : Nat) ∈ TB := cTB1 (i := 45) rfl rfl
theorem t_46 : Jvm.Cond.methodLinkNest "ExactlySaid" (31 : Nat) ({ cls := "ExactlySaid$Fraction", name := "<init>", desc := "()V" } : Jvm.MethodName) "ExactlySaid" ∈ TN := cTN1 (i := 46) rfl rfl
theorem t_47 : Jvm.Cond.instanceMethod ({ cls := "ExactlySaid$Fraction", name := "<init>", desc := "()V" } : Jvm.MethodName) ∈ TB := cTB1 (i := 47) rfl rfl
theorem t_48 : Jvm.Cond.code ({ cls := "ExactlySaid$Fraction", name := "<init>", desc := "()V" } : Jvm.MethodName) prog_3_method_1_code (1 : Nat) (Option.none : Option Jvm.ClassFile.FieldType) ∈ TB := cTB1 (i := 48) rfl rfl
theorem t_49 : Jvm.Cond.methodLink "ExactlySaid$Fraction" (1 : Nat) ({ cls := "java/lang/Object", name := "<init>", desc := "()V" } : Jvm.MethodName) ∈ TB := cTB1 (i := 49) rfl rfl
theorem t_50 : Jvm.Cond.classLink "ExactlySaid$Fraction" (7 : Nat) "ExactlySaid$Nat" ∈ TB := cTB1 (i := 50) rfl rfl
theorem t_51 : Jvm.Cond.instantiable "ExactlySaid$Nat" (2 : Nat) ∈ TB := cTB1 (i := 51) rfl rfl
theorem t_52 : Jvm.Cond.methodLinkNest "ExactlySaid$Fraction" (9 : Nat) ({ cls := "ExactlySaid$Nat", name := "<init>", desc := "()V" } : Jvm.MethodName) "ExactlySaid" ∈ TN := cTN1 (i := 52) rfl rfl
theorem t_53 : Jvm.Cond.instanceMethod ({ cls := "ExactlySaid$Nat", name := "<init>", desc := "()V" } : Jvm.MethodName) ∈ TB := cTB1 (i := 53) rfl rfl
theorem t_54 : Jvm.Cond.code ({ cls := "ExactlySaid$Nat", name := "<init>", desc := "()V" } : Jvm.MethodName) prog_5_method_1_code (1 : Nat) (Option.none : Option Jvm.ClassFile.FieldType) ∈ TB := cTB1 (i := 54) rfl rfl
theorem t_55 : Jvm.Cond.methodLink "ExactlySaid$Nat" (1 : Nat) ({ cls := "java/lang/Object", name := "<init>", desc := "()V" } : Jvm.MethodName) ∈ TB := cTB1 (i := 55) rfl rfl
theorem t_56 : Jvm.Cond.fieldLink "ExactlySaid$Nat" (7 : Nat) "ExactlySaid$Nat" "limbs" "[I" ∈ TB := cTB1 (i := 56) rfl rfl
theorem t_57 : Jvm.Cond.fieldLinkNest "ExactlySaid$Reckoner" (82 : Nat) "ExactlySaid$Nat" "limbs" "[I" "ExactlySaid" ∈ TN := cTN1 (i := 57) rfl rfl
theorem t_58 : Jvm.Cond.fieldLink "ExactlySaid$Nat" (13 : Nat) "ExactlySaid$Nat" "size" "I" ∈ TB := cTB1 (i := 58) rfl rfl
theorem t_59 : Jvm.Cond.fieldLinkNest "ExactlySaid$Reckoner" (74 : Nat) "ExactlySaid$Nat" "size" "I" "ExactlySaid" ∈ TN := cTN1 (i := 59) rfl rfl
theorem t_60 : Jvm.Cond.fieldLinkNest "ExactlySaid$Machine" (142 : Nat) "ExactlySaid$Nat" "size" "I" "ExactlySaid" ∈ TN := cTN1 (i := 60) rfl rfl
theorem t_66 : Jvm.Cond.arrayClass Jvm.ClassFile.FieldType.int ∈ TB := cTB1 (i := 66) rfl rfl
theorem t_67 : Jvm.Cond.methodLinkNest "ExactlySaid$Fraction" (19 : Nat) ({ cls := "ExactlySaid$Nat", name := "setSmall", desc := "(J)V" } : Jvm.MethodName) "ExactlySaid" ∈ TN := cTN1 (i := 67) rfl rfl
theorem t_69 : Jvm.Cond.instanceMethod ({ cls := "ExactlySaid$Nat", name := "setSmall", desc := "(J)V" } : Jvm.MethodName) ∈ TB := cTB1 (i := 69) rfl rfl
theorem t_70 : Jvm.Cond.code ({ cls := "ExactlySaid$Nat", name := "setSmall", desc := "(J)V" } : Jvm.MethodName) prog_5_method_8_code (3 : Nat) (Option.none : Option Jvm.ClassFile.FieldType) ∈ TB := cTB1 (i := 70) rfl rfl
theorem t_71 : Jvm.Cond.constantLong "ExactlySaid$Nat" (17 : Nat) (1000000000 : Int64) ∈ TB := cTB1 (i := 71) rfl rfl
theorem t_72 : Jvm.Cond.fieldLink "ExactlySaid$Fraction" (27 : Nat) "ExactlySaid$Fraction" "sign" "I" ∈ TB := cTB1 (i := 72) rfl rfl
theorem t_73 : Jvm.Cond.fieldLinkNest "ExactlySaid$Reckoner" (165 : Nat) "ExactlySaid$Fraction" "sign" "I" "ExactlySaid" ∈ TN := cTN1 (i := 73) rfl rfl
theorem t_74 : Jvm.Cond.fieldLinkNest "ExactlySaid$Machine" (132 : Nat) "ExactlySaid$Fraction" "sign" "I" "ExactlySaid" ∈ TN := cTN1 (i := 74) rfl rfl
theorem t_75 : Jvm.Cond.fieldLinkNest "ExactlySaid" (258 : Nat) "ExactlySaid$Fraction" "sign" "I" "ExactlySaid" ∈ TN := cTN1 (i := 75) rfl rfl
theorem t_76 : Jvm.Cond.fieldLink "ExactlySaid$Fraction" (10 : Nat) "ExactlySaid$Fraction" "num" "LExactlySaid$Nat;" ∈ TB := cTB1 (i := 76) rfl rfl
theorem t_77 : Jvm.Cond.fieldLinkNest "ExactlySaid$Reckoner" (141 : Nat) "ExactlySaid$Fraction" "num" "LExactlySaid$Nat;" "ExactlySaid" ∈ TN := cTN1 (i := 77) rfl rfl
theorem t_78 : Jvm.Cond.fieldLinkNest "ExactlySaid$Machine" (138 : Nat) "ExactlySaid$Fraction" "num" "LExactlySaid$Nat;" "ExactlySaid" ∈ TN := cTN1 (i := 78) rfl rfl
theorem t_79 : Jvm.Cond.fieldLinkNest "ExactlySaid$Reader" (139 : Nat) "ExactlySaid$Fraction" "num" "LExactlySaid$Nat;" "ExactlySaid" ∈ TN := cTN1 (i := 79) rfl rfl
theorem t_80 : Jvm.Cond.fieldLinkNest "ExactlySaid" (308 : Nat) "ExactlySaid$Fraction" "num" "LExactlySaid$Nat;" "ExactlySaid" ∈ TN := cTN1 (i := 80) rfl rfl
theorem t_81 : Jvm.Cond.fieldLink "ExactlySaid$Fraction" (16 : Nat) "ExactlySaid$Fraction" "den" "LExactlySaid$Nat;" ∈ TB := cTB1 (i := 81) rfl rfl
theorem t_82 : Jvm.Cond.fieldLinkNest "ExactlySaid$Reckoner" (144 : Nat) "ExactlySaid$Fraction" "den" "LExactlySaid$Nat;" "ExactlySaid" ∈ TN := cTN1 (i := 82) rfl rfl
theorem t_83 : Jvm.Cond.fieldLinkNest "ExactlySaid$Machine" (195 : Nat) "ExactlySaid$Fraction" "den" "LExactlySaid$Nat;" "ExactlySaid" ∈ TN := cTN1 (i := 83) rfl rfl
theorem t_84 : Jvm.Cond.fieldLinkNest "ExactlySaid$Reader" (154 : Nat) "ExactlySaid$Fraction" "den" "LExactlySaid$Nat;" "ExactlySaid" ∈ TN := cTN1 (i := 84) rfl rfl
theorem t_85 : Jvm.Cond.fieldLinkNest "ExactlySaid" (304 : Nat) "ExactlySaid$Fraction" "den" "LExactlySaid$Nat;" "ExactlySaid" ∈ TN := cTN1 (i := 85) rfl rfl
theorem t_93 : Jvm.Cond.arrayOver (Jvm.ClassFile.FieldType.object "ExactlySaid$Fraction") ∈ TN := cTN1 (i := 93) rfl rfl
theorem t_94 : Jvm.Cond.classLink "ExactlySaid" (40 : Nat) "java/lang/StringBuilder" ∈ TB := cTB1 (i := 94) rfl rfl
theorem t_95 : Jvm.Cond.instantiable "java/lang/StringBuilder" (4 : Nat) ∈ TB := cTB1 (i := 95) rfl rfl
theorem t_96 : Jvm.Cond.methodLink "ExactlySaid" (42 : Nat) ({ cls := "java/lang/StringBuilder", name := "<init>", desc := "()V" } : Jvm.MethodName) ∈ TB := cTB1 (i := 96) rfl rfl
theorem t_97 : Jvm.Cond.instanceMethod ({ cls := "java/lang/StringBuilder", name := "<init>", desc := "()V" } : Jvm.MethodName) ∈ TB := cTB1 (i := 97) rfl rfl
theorem t_98 : Jvm.Cond.code ({ cls := "java/lang/StringBuilder", name := "<init>", desc := "()V" } : Jvm.MethodName) prog_32_method_1_code (1 : Nat) (Option.none : Option Jvm.ClassFile.FieldType) ∈ TB := cTB1 (i := 98) rfl rfl
theorem t_99 : Jvm.Cond.methodLink "java/lang/StringBuilder" (1 : Nat) ({ cls := "java/lang/AbstractStringBuilder", name := "<init>", desc := "(I)V" } : Jvm.MethodName) ∈ TB := cTB1 (i := 99) rfl rfl
theorem t_100 : Jvm.Cond.instanceMethod ({ cls := "java/lang/AbstractStringBuilder", name := "<init>", desc := "(I)V" } : Jvm.MethodName) ∈ TB := cTB1 (i := 100) rfl rfl
theorem t_101 : Jvm.Cond.code ({ cls := "java/lang/AbstractStringBuilder", name := "<init>", desc := "(I)V" } : Jvm.MethodName) prog_16_method_2_code (2 : Nat) (Option.none : Option Jvm.ClassFile.FieldType) ∈ TB := cTB1 (i := 101) rfl rfl
theorem t_102 : Jvm.Cond.methodLink "java/lang/AbstractStringBuilder" (3 : Nat) ({ cls := "java/lang/Object", name := "<init>", desc := "()V" } : Jvm.MethodName) ∈ TB := cTB1 (i := 102) rfl rfl
theorem t_103 : Jvm.Cond.fieldLink "java/lang/AbstractStringBuilder" (18 : Nat) "java/lang/String" "COMPACT_STRINGS" "Z" ∈ TB := cTB1 (i := 103) rfl rfl
theorem t_112 : Jvm.Cond.fieldLink "java/lang/AbstractStringBuilder" (15 : Nat) "java/lang/AbstractStringBuilder" "value" "[B" ∈ TB := cTB1 (i := 112) rfl rfl
theorem t_113 : Jvm.Cond.fieldLink "java/lang/AbstractStringBuilder" (22 : Nat) "java/lang/AbstractStringBuilder" "coder" "B" ∈ TB := cTB1 (i := 113) rfl rfl
theorem t_114 : Jvm.Cond.fieldLink "java/lang/AbstractStringBuilder" (73 : Nat) "java/lang/AbstractStringBuilder" "maybeLatin1" "Z" ∈ TB := cTB1 (i := 114) rfl rfl
theorem t_116 : Jvm.Cond.fieldLink "java/lang/AbstractStringBuilder" (79 : Nat) "java/lang/AbstractStringBuilder" "count" "I" ∈ TB := cTB1 (i := 116) rfl rfl
theorem t_125 : Jvm.Cond.superclass "java/lang/StringBuilder" "java/lang/AbstractStringBuilder" ∈ TB := cTB1 (i := 125) rfl rfl
theorem t_126 : Jvm.Cond.arrayClass Jvm.ClassFile.FieldType.byte ∈ TB := cTB1 (i := 126) rfl rfl
theorem t_127 : Jvm.Cond.classLink "ExactlySaid" (47 : Nat) "ExactlySaid$Steps" ∈ TB := cTB1 (i := 127) rfl rfl
theorem t_128 : Jvm.Cond.instantiable "ExactlySaid$Steps" (3 : Nat) ∈ TB := cTB1 (i := 128) rfl rfl
theorem t_129 : Jvm.Cond.methodLinkNest "ExactlySaid" (49 : Nat) ({ cls := "ExactlySaid$Steps", name := "<init>", desc := "()V" } : Jvm.MethodName) "ExactlySaid" ∈ TN := cTN1 (i := 129) rfl rfl
theorem t_130 : Jvm.Cond.instanceMethod ({ cls := "ExactlySaid$Steps", name := "<init>", desc := "()V" } : Jvm.MethodName) ∈ TB := cTB1 (i := 130) rfl rfl
theorem t_131 : Jvm.Cond.code ({ cls := "ExactlySaid$Steps", name := "<init>", desc := "()V" } : Jvm.MethodName) prog_10_method_1_code (1 : Nat) (Option.none : Option Jvm.ClassFile.FieldType) ∈ TB := cTB1 (i := 131) rfl rfl
theorem t_132 : Jvm.Cond.methodLink "ExactlySaid$Steps" (3 : Nat) ({ cls := "java/lang/Object", name := "<init>", desc := "()V" } : Jvm.MethodName) ∈ TB := cTB1 (i := 132) rfl rfl
theorem t_133 : Jvm.Cond.classLink "ExactlySaid$Steps" (15 : Nat) "ExactlySaid$Fraction" ∈ TB := cTB1 (i := 133) rfl rfl
theorem t_134 : Jvm.Cond.fieldLink "ExactlySaid$Steps" (9 : Nat) "ExactlySaid$Steps" "kinds" "[I" ∈ TB := cTB1 (i := 134) rfl rfl
theorem t_135 : Jvm.Cond.fieldLinkNest "ExactlySaid" (352 : Nat) "ExactlySaid$Steps" "kinds" "[I" "ExactlySaid" ∈ TN := cTN1 (i := 135) rfl rfl
theorem t_136 : Jvm.Cond.fieldLink "ExactlySaid$Steps" (17 : Nat) "ExactlySaid$Steps" "gave" "[LExactlySaid$Fraction;" ∈ TB := cTB1 (i := 136) rfl rfl
theorem t_137 : Jvm.Cond.fieldLinkNest "ExactlySaid" (355 : Nat) "ExactlySaid$Steps" "gave" "[LExactlySaid$Fraction;" "ExactlySaid" ∈ TN := cTN1 (i := 137) rfl rfl
theorem t_138 : Jvm.Cond.fieldLink "ExactlySaid$Steps" (21 : Nat) "ExactlySaid$Steps" "length" "I" ∈ TB := cTB1 (i := 138) rfl rfl
theorem t_139 : Jvm.Cond.fieldLinkNest "ExactlySaid" (227 : Nat) "ExactlySaid$Steps" "length" "I" "ExactlySaid" ∈ TN := cTN1 (i := 139) rfl rfl
theorem t_147 : Jvm.Cond.classLink "ExactlySaid" (57 : Nat) "ExactlySaid$State" ∈ TB := cTB1 (i := 147) rfl rfl
theorem t_148 : Jvm.Cond.arrayOver (Jvm.ClassFile.FieldType.object "ExactlySaid$State") ∈ TN := cTN1 (i := 148) rfl rfl
theorem t_149 : Jvm.Cond.classLink "ExactlySaid" (63 : Nat) "ExactlySaid$Reckoner" ∈ TB := cTB1 (i := 149) rfl rfl
theorem t_150 : Jvm.Cond.instantiable "ExactlySaid$Reckoner" (17 : Nat) ∈ TB := cTB1 (i := 150) rfl rfl
theorem t_151 : Jvm.Cond.methodLinkNest "ExactlySaid" (65 : Nat) ({ cls := "ExactlySaid$Reckoner", name := "<init>", desc := "()V" } : Jvm.MethodName) "ExactlySaid" ∈ TN := cTN1 (i := 151) rfl rfl
theorem t_152 : Jvm.Cond.instanceMethod ({ cls := "ExactlySaid$Reckoner", name := "<init>", desc := "()V" } : Jvm.MethodName) ∈ TB := cTB1 (i := 152) rfl rfl
theorem t_153 : Jvm.Cond.code ({ cls := "ExactlySaid$Reckoner", name := "<init>", desc := "()V" } : Jvm.MethodName) prog_7_method_1_code (1 : Nat) (Option.none : Option Jvm.ClassFile.FieldType) ∈ TB := cTB1 (i := 153) rfl rfl
theorem t_154 : Jvm.Cond.methodLink "ExactlySaid$Reckoner" (3 : Nat) ({ cls := "java/lang/Object", name := "<init>", desc := "()V" } : Jvm.MethodName) ∈ TB := cTB1 (i := 154) rfl rfl
theorem t_155 : Jvm.Cond.classLink "ExactlySaid$Reckoner" (9 : Nat) "ExactlySaid$Nat" ∈ TB := cTB1 (i := 155) rfl rfl
theorem t_156 : Jvm.Cond.methodLinkNest "ExactlySaid$Reckoner" (11 : Nat) ({ cls := "ExactlySaid$Nat", name := "<init>", desc := "()V" } : Jvm.MethodName) "ExactlySaid" ∈ TN := cTN1 (i := 156) rfl rfl
theorem t_157 : Jvm.Cond.classLink "ExactlySaid$Reckoner" (54 : Nat) "ExactlySaid$Fraction" ∈ TB := cTB1 (i := 157) rfl rfl
theorem t_158 : Jvm.Cond.methodLinkNest "ExactlySaid$Reckoner" (56 : Nat) ({ cls := "ExactlySaid$Fraction", name := "<init>", desc := "()V" } : Jvm.MethodName) "ExactlySaid" ∈ TN := cTN1 (i := 158) rfl rfl
theorem t_159 : Jvm.Cond.fieldLink "ExactlySaid$Reckoner" (12 : Nat) "ExactlySaid$Reckoner" "quotient" "LExactlySaid$Nat;" ∈ TB := cTB1 (i := 159) rfl rfl
theorem t_160 : Jvm.Cond.fieldLink "ExactlySaid$Reckoner" (18 : Nat) "ExactlySaid$Reckoner" "scaled" "LExactlySaid$Nat;" ∈ TB := cTB1 (i := 160) rfl rfl
theorem t_161 : Jvm.Cond.fieldLink "ExactlySaid$Reckoner" (21 : Nat) "ExactlySaid$Reckoner" "rest" "LExactlySaid$Nat;" ∈ TB := cTB1 (i := 161) rfl rfl
theorem t_162 : Jvm.Cond.fieldLink "ExactlySaid$Reckoner" (24 : Nat) "ExactlySaid$Reckoner" "high" "LExactlySaid$Nat;" ∈ TB := cTB1 (i := 162) rfl rfl
theorem t_163 : Jvm.Cond.fieldLink "ExactlySaid$Reckoner" (27 : Nat) "ExactlySaid$Reckoner" "low" "LExactlySaid$Nat;" ∈ TB := cTB1 (i := 163) rfl rfl
theorem t_164 : Jvm.Cond.fieldLink "ExactlySaid$Reckoner" (30 : Nat) "ExactlySaid$Reckoner" "common" "LExactlySaid$Nat;" ∈ TB := cTB1 (i := 164) rfl rfl
theorem t_165 : Jvm.Cond.fieldLink "ExactlySaid$Reckoner" (33 : Nat) "ExactlySaid$Reckoner" "shared" "LExactlySaid$Nat;" ∈ TB := cTB1 (i := 165) rfl rfl
theorem t_166 : Jvm.Cond.fieldLink "ExactlySaid$Reckoner" (36 : Nat) "ExactlySaid$Reckoner" "partA" "LExactlySaid$Nat;" ∈ TB := cTB1 (i := 166) rfl rfl
theorem t_167 : Jvm.Cond.fieldLink "ExactlySaid$Reckoner" (39 : Nat) "ExactlySaid$Reckoner" "partB" "LExactlySaid$Nat;" ∈ TB := cTB1 (i := 167) rfl rfl
theorem t_168 : Jvm.Cond.fieldLink "ExactlySaid$Reckoner" (42 : Nat) "ExactlySaid$Reckoner" "left" "LExactlySaid$Nat;" ∈ TB := cTB1 (i := 168) rfl rfl
theorem t_169 : Jvm.Cond.fieldLink "ExactlySaid$Reckoner" (45 : Nat) "ExactlySaid$Reckoner" "right" "LExactlySaid$Nat;" ∈ TB := cTB1 (i := 169) rfl rfl
theorem t_170 : Jvm.Cond.fieldLink "ExactlySaid$Reckoner" (48 : Nat) "ExactlySaid$Reckoner" "core" "LExactlySaid$Nat;" ∈ TB := cTB1 (i := 170) rfl rfl
theorem t_171 : Jvm.Cond.fieldLink "ExactlySaid$Reckoner" (51 : Nat) "ExactlySaid$Reckoner" "decimals" "LExactlySaid$Nat;" ∈ TB := cTB1 (i := 171) rfl rfl
theorem t_172 : Jvm.Cond.fieldLink "ExactlySaid$Reckoner" (57 : Nat) "ExactlySaid$Reckoner" "turned" "LExactlySaid$Fraction;" ∈ TB := cTB1 (i := 172) rfl rfl
theorem t_173 : Jvm.Cond.fieldLink "ExactlySaid$Reckoner" (61 : Nat) "ExactlySaid$Reckoner" "first" "LExactlySaid$Fraction;" ∈ TB := cTB1 (i := 173) rfl rfl
theorem t_174 : Jvm.Cond.fieldLink "ExactlySaid$Reckoner" (64 : Nat) "ExactlySaid$Reckoner" "second" "LExactlySaid$Fraction;" ∈ TB := cTB1 (i := 174) rfl rfl
theorem t_175 : Jvm.Cond.fieldLink "ExactlySaid$Reckoner" (67 : Nat) "ExactlySaid$Reckoner" "found" "LExactlySaid$Fraction;" ∈ TB := cTB1 (i := 175) rfl rfl
theorem t_176 : Jvm.Cond.fieldLinkNest "ExactlySaid" (369 : Nat) "ExactlySaid$Reckoner" "found" "LExactlySaid$Fraction;" "ExactlySaid" ∈ TN := cTN1 (i := 176) rfl rfl
theorem t_212 : Jvm.Cond.classLink "ExactlySaid" (70 : Nat) "ExactlySaid$Reader" ∈ TB := cTB1 (i := 212) rfl rfl
theorem t_213 : Jvm.Cond.instantiable "ExactlySaid$Reader" (19 : Nat) ∈ TB := cTB1 (i := 213) rfl rfl
theorem t_214 : Jvm.Cond.methodLinkNest "ExactlySaid" (72 : Nat) ({ cls := "ExactlySaid$Reader", name := "<init>", desc := "()V" } : Jvm.MethodName) "ExactlySaid" ∈ TN := cTN1 (i := 214) rfl rfl
theorem t_215 : Jvm.Cond.instanceMethod ({ cls := "ExactlySaid$Reader", name := "<init>", desc := "()V" } : Jvm.MethodName) ∈ TB := cTB1 (i := 215) rfl rfl
theorem t_216 : Jvm.Cond.code ({ cls := "ExactlySaid$Reader", name := "<init>", desc := "()V" } : Jvm.MethodName) prog_6_method_1_code (1 : Nat) (Option.none : Option Jvm.ClassFile.FieldType) ∈ TB := cTB1 (i := 216) rfl rfl
theorem t_217 : Jvm.Cond.methodLink "ExactlySaid$Reader" (3 : Nat) ({ cls := "java/lang/Object", name := "<init>", desc := "()V" } : Jvm.MethodName) ∈ TB := cTB1 (i := 217) rfl rfl
theorem t_218 : Jvm.Cond.fieldLink "ExactlySaid$Reader" (9 : Nat) "ExactlySaid$Reader" "text" "[I" ∈ TB := cTB1 (i := 218) rfl rfl
theorem t_219 : Jvm.Cond.fieldLink "ExactlySaid$Reader" (45 : Nat) "ExactlySaid$Reader" "textLength" "I" ∈ TB := cTB1 (i := 219) rfl rfl
theorem t_220 : Jvm.Cond.fieldLink "ExactlySaid$Reader" (15 : Nat) "ExactlySaid$Reader" "tokens" "[I" ∈ TB := cTB1 (i := 220) rfl rfl
theorem t_221 : Jvm.Cond.fieldLink "ExactlySaid$Reader" (18 : Nat) "ExactlySaid$Reader" "starts" "[I" ∈ TB := cTB1 (i := 221) rfl rfl
theorem t_222 : Jvm.Cond.fieldLink "ExactlySaid$Reader" (21 : Nat) "ExactlySaid$Reader" "words" "[I" ∈ TB := cTB1 (i := 222) rfl rfl
theorem t_223 : Jvm.Cond.fieldLink "ExactlySaid$Reader" (104 : Nat) "ExactlySaid$Reader" "tokenCount" "I" ∈ TB := cTB1 (i := 223) rfl rfl
theorem t_224 : Jvm.Cond.fieldLink "ExactlySaid$Reader" (61 : Nat) "ExactlySaid$Reader" "next" "I" ∈ TB := cTB1 (i := 224) rfl rfl
theorem t_225 : Jvm.Cond.fieldLink "ExactlySaid$Reader" (24 : Nat) "ExactlySaid$Reader" "kinds" "[I" ∈ TB := cTB1 (i := 225) rfl rfl
theorem t_226 : Jvm.Cond.fieldLink "ExactlySaid$Reader" (27 : Nat) "ExactlySaid$Reader" "operands" "[I" ∈ TB := cTB1 (i := 226) rfl rfl
theorem t_227 : Jvm.Cond.fieldLink "ExactlySaid$Reader" (30 : Nat) "ExactlySaid$Reader" "places" "[I" ∈ TB := cTB1 (i := 227) rfl rfl
theorem t_228 : Jvm.Cond.fieldLink "ExactlySaid$Reader" (33 : Nat) "ExactlySaid$Reader" "counts" "[I" ∈ TB := cTB1 (i := 228) rfl rfl
theorem t_229 : Jvm.Cond.fieldLink "ExactlySaid$Reader" (52 : Nat) "ExactlySaid$Reader" "length" "I" ∈ TB := cTB1 (i := 229) rfl rfl
theorem t_230 : Jvm.Cond.fieldLink "ExactlySaid$Reader" (55 : Nat) "ExactlySaid$Reader" "numberCount" "I" ∈ TB := cTB1 (i := 230) rfl rfl
theorem t_231 : Jvm.Cond.fieldLinkNest "ExactlySaid" (116 : Nat) "ExactlySaid$Reader" "form" "I" "ExactlySaid" ∈ TN := cTN1 (i := 231) rfl rfl
theorem t_232 : Jvm.Cond.fieldLink "ExactlySaid$Reader" (171 : Nat) "ExactlySaid$Reader" "form" "I" ∈ TB := cTB1 (i := 232) rfl rfl
theorem t_233 : Jvm.Cond.fieldLinkNest "ExactlySaid" (168 : Nat) "ExactlySaid$Reader" "word" "I" "ExactlySaid" ∈ TN := cTN1 (i := 233) rfl rfl
theorem t_234 : Jvm.Cond.fieldLink "ExactlySaid$Reader" (177 : Nat) "ExactlySaid$Reader" "word" "I" ∈ TB := cTB1 (i := 234) rfl rfl
theorem t_235 : Jvm.Cond.fieldLinkNest "ExactlySaid" (179 : Nat) "ExactlySaid$Reader" "wordPlace" "I" "ExactlySaid" ∈ TN := cTN1 (i := 235) rfl rfl
theorem t_236 : Jvm.Cond.fieldLink "ExactlySaid$Reader" (180 : Nat) "ExactlySaid$Reader" "wordPlace" "I" ∈ TB := cTB1 (i := 236) rfl rfl
theorem t_237 : Jvm.Cond.fieldLink "ExactlySaid$Reader" (36 : Nat) "ExactlySaid$Reader" "parameterWords" "[I" ∈ TB := cTB1 (i := 237) rfl rfl
theorem t_238 : Jvm.Cond.fieldLink "ExactlySaid$Reader" (58 : Nat) "ExactlySaid$Reader" "parameterCount" "I" ∈ TB := cTB1 (i := 238) rfl rfl
theorem t_239 : Jvm.Cond.fieldLinkNest "ExactlySaid" (207 : Nat) "ExactlySaid$Reader" "parameterCount" "I" "ExactlySaid" ∈ TN := cTN1 (i := 239) rfl rfl
theorem t_240 : Jvm.Cond.fieldLink "ExactlySaid$Reader" (94 : Nat) "ExactlySaid$Reader" "sum" "LExactlySaid$Sum;" ∈ TB := cTB2 (i := 0) rfl rfl
theorem t_241 : Jvm.Cond.fieldLinkNest "ExactlySaid" (154 : Nat) "ExactlySaid$Reader" "sum" "LExactlySaid$Sum;" "ExactlySaid" ∈ TN := cTN2 (i := 1) rfl rfl
theorem t_281 : Jvm.Cond.classLink "ExactlySaid" (77 : Nat) "ExactlySaid$Machine" ∈ TB := cTB2 (i := 41) rfl rfl
theorem t_282 : Jvm.Cond.instantiable "ExactlySaid$Machine" (9 : Nat) ∈ TB := cTB2 (i := 42) rfl rfl
theorem t_283 : Jvm.Cond.methodLinkNest "ExactlySaid" (79 : Nat) ({ cls := "ExactlySaid$Machine", name := "<init>", desc := "()V" } : Jvm.MethodName) "ExactlySaid" ∈ TN := cTN2 (i := 43) rfl rfl
theorem t_284 : Jvm.Cond.instanceMethod ({ cls := "ExactlySaid$Machine", name := "<init>", desc := "()V" } : Jvm.MethodName) ∈ TB := cTB2 (i := 44) rfl rfl
theorem t_285 : Jvm.Cond.code ({ cls := "ExactlySaid$Machine", name := "<init>", desc := "()V" } : Jvm.MethodName) prog_4_method_1_code (1 : Nat) (Option.none : Option Jvm.ClassFile.FieldType) ∈ TB := cTB2 (i := 45) rfl rfl
theorem t_286 : Jvm.Cond.methodLink "ExactlySaid$Machine" (3 : Nat) ({ cls := "java/lang/Object", name := "<init>", desc := "()V" } : Jvm.MethodName) ∈ TB := cTB2 (i := 46) rfl rfl
theorem t_287 : Jvm.Cond.classLink "ExactlySaid$Machine" (11 : Nat) "ExactlySaid$Fraction" ∈ TB := cTB2 (i := 47) rfl rfl
theorem t_288 : Jvm.Cond.classLink "ExactlySaid$Machine" (17 : Nat) "ExactlySaid$Sum" ∈ TB := cTB2 (i := 48) rfl rfl
theorem t_289 : Jvm.Cond.arrayOver (Jvm.ClassFile.FieldType.object "ExactlySaid$Sum") ∈ TN := cTN2 (i := 49) rfl rfl
theorem t_290 : Jvm.Cond.methodLinkNest "ExactlySaid$Machine" (30 : Nat) ({ cls := "ExactlySaid$Fraction", name := "<init>", desc := "()V" } : Jvm.MethodName) "ExactlySaid" ∈ TN := cTN2 (i := 50) rfl rfl
theorem t_291 : Jvm.Cond.fieldLink "ExactlySaid$Machine" (13 : Nat) "ExactlySaid$Machine" "stack" "[LExactlySaid$Fraction;" ∈ TB := cTB2 (i := 51) rfl rfl
theorem t_292 : Jvm.Cond.fieldLink "ExactlySaid$Machine" (35 : Nat) "ExactlySaid$Machine" "top" "I" ∈ TB := cTB2 (i := 52) rfl rfl
theorem t_293 : Jvm.Cond.fieldLink "ExactlySaid$Machine" (19 : Nat) "ExactlySaid$Machine" "sums" "[LExactlySaid$Sum;" ∈ TB := cTB2 (i := 53) rfl rfl
theorem t_294 : Jvm.Cond.fieldLink "ExactlySaid$Machine" (23 : Nat) "ExactlySaid$Machine" "nexts" "[I" ∈ TB := cTB2 (i := 54) rfl rfl
theorem t_295 : Jvm.Cond.fieldLink "ExactlySaid$Machine" (27 : Nat) "ExactlySaid$Machine" "bases" "[I" ∈ TB := cTB2 (i := 55) rfl rfl
theorem t_296 : Jvm.Cond.fieldLink "ExactlySaid$Machine" (42 : Nat) "ExactlySaid$Machine" "level" "I" ∈ TB := cTB2 (i := 56) rfl rfl
theorem t_297 : Jvm.Cond.fieldLink "ExactlySaid$Machine" (39 : Nat) "ExactlySaid$Machine" "done" "I" ∈ TB := cTB2 (i := 57) rfl rfl
theorem t_298 : Jvm.Cond.fieldLink "ExactlySaid$Machine" (60 : Nat) "ExactlySaid$Machine" "place" "I" ∈ TB := cTB2 (i := 58) rfl rfl
theorem t_299 : Jvm.Cond.fieldLinkNest "ExactlySaid" (234 : Nat) "ExactlySaid$Machine" "place" "I" "ExactlySaid" ∈ TN := cTN2 (i := 59) rfl rfl
theorem t_300 : Jvm.Cond.fieldLink "ExactlySaid$Machine" (31 : Nat) "ExactlySaid$Machine" "given" "LExactlySaid$Fraction;" ∈ TB := cTB2 (i := 60) rfl rfl
theorem t_301 : Jvm.Cond.fieldLinkNest "ExactlySaid" (119 : Nat) "ExactlySaid$Machine" "given" "LExactlySaid$Fraction;" "ExactlySaid" ∈ TN := cTN2 (i := 61) rfl rfl
theorem t_321 : Jvm.Cond.instantiable "ExactlySaid$State" (2 : Nat) ∈ TB := cTB2 (i := 81) rfl rfl
theorem t_322 : Jvm.Cond.methodLinkNest "ExactlySaid" (84 : Nat) ({ cls := "ExactlySaid$State", name := "<init>", desc := "()V" } : Jvm.MethodName) "ExactlySaid" ∈ TN := cTN2 (i := 82) rfl rfl
theorem t_323 : Jvm.Cond.instanceMethod ({ cls := "ExactlySaid$State", name := "<init>", desc := "()V" } : Jvm.MethodName) ∈ TB := cTB2 (i := 83) rfl rfl
theorem t_324 : Jvm.Cond.code ({ cls := "ExactlySaid$State", name := "<init>", desc := "()V" } : Jvm.MethodName) prog_9_method_1_code (2 : Nat) (Option.none : Option Jvm.ClassFile.FieldType) ∈ TB := cTB2 (i := 84) rfl rfl
theorem t_325 : Jvm.Cond.methodLink "ExactlySaid$State" (3 : Nat) ({ cls := "java/lang/Object", name := "<init>", desc := "()V" } : Jvm.MethodName) ∈ TB := cTB2 (i := 85) rfl rfl
theorem t_326 : Jvm.Cond.classLink "ExactlySaid$State" (9 : Nat) "ExactlySaid$Book" ∈ TB := cTB2 (i := 86) rfl rfl
theorem t_327 : Jvm.Cond.instantiable "ExactlySaid$Book" (4 : Nat) ∈ TB := cTB2 (i := 87) rfl rfl
theorem t_328 : Jvm.Cond.classLink "ExactlySaid$State" (11 : Nat) "ExactlySaid$Told" ∈ TB := cTB2 (i := 88) rfl rfl
theorem t_329 : Jvm.Cond.arrayOver (Jvm.ClassFile.FieldType.object "ExactlySaid$Told") ∈ TN := cTN2 (i := 89) rfl rfl
theorem t_330 : Jvm.Cond.methodLinkNest "ExactlySaid$State" (13 : Nat) ({ cls := "ExactlySaid$Book", name := "<init>", desc := "([LExactlySaid$Told;[LExactlySaid$Told;)V" } : Jvm.MethodName) "ExactlySaid" ∈ TN := cTN2 (i := 90) rfl rfl
theorem t_331 : Jvm.Cond.instanceMethod ({ cls := "ExactlySaid$Book", name := "<init>", desc := "([LExactlySaid$Told;[LExactlySaid$Told;)V" } : Jvm.MethodName) ∈ TB := cTB2 (i := 91) rfl rfl
theorem t_332 : Jvm.Cond.code ({ cls := "ExactlySaid$Book", name := "<init>", desc := "([LExactlySaid$Told;[LExactlySaid$Told;)V" } : Jvm.MethodName) prog_2_method_1_code (3 : Nat) (Option.none : Option Jvm.ClassFile.FieldType) ∈ TB := cTB2 (i := 92) rfl rfl
theorem t_333 : Jvm.Cond.methodLink "ExactlySaid$Book" (3 : Nat) ({ cls := "java/lang/Object", name := "<init>", desc := "()V" } : Jvm.MethodName) ∈ TB := cTB2 (i := 93) rfl rfl
theorem t_334 : Jvm.Cond.fieldLink "ExactlySaid$Book" (9 : Nat) "ExactlySaid$Book" "names" "[LExactlySaid$Told;" ∈ TB := cTB2 (i := 94) rfl rfl
theorem t_335 : Jvm.Cond.fieldLinkNest "ExactlySaid" (214 : Nat) "ExactlySaid$Book" "names" "[LExactlySaid$Told;" "ExactlySaid" ∈ TN := cTN2 (i := 95) rfl rfl
theorem t_336 : Jvm.Cond.fieldLink "ExactlySaid$Book" (15 : Nat) "ExactlySaid$Book" "functions" "[LExactlySaid$Told;" ∈ TB := cTB2 (i := 96) rfl rfl
theorem t_337 : Jvm.Cond.fieldLinkNest "ExactlySaid" (210 : Nat) "ExactlySaid$Book" "functions" "[LExactlySaid$Told;" "ExactlySaid" ∈ TN := cTN2 (i := 97) rfl rfl
theorem t_338 : Jvm.Cond.fieldLink "ExactlySaid$Book" (18 : Nat) "ExactlySaid$Book" "direct" "[I" ∈ TB := cTB2 (i := 98) rfl rfl
theorem t_339 : Jvm.Cond.fieldLink "ExactlySaid$Book" (22 : Nat) "ExactlySaid$Book" "reach" "[I" ∈ TB := cTB2 (i := 99) rfl rfl
theorem t_349 : Jvm.Cond.classLink "ExactlySaid$State" (22 : Nat) "ExactlySaid$Row" ∈ TB := cTB2 (i := 109) rfl rfl
theorem t_350 : Jvm.Cond.arrayOver (Jvm.ClassFile.FieldType.object "ExactlySaid$Row") ∈ TN := cTN2 (i := 110) rfl rfl
theorem t_351 : Jvm.Cond.instantiable "ExactlySaid$Row" (1 : Nat) ∈ TB := cTB2 (i := 111) rfl rfl
theorem t_352 : Jvm.Cond.methodLinkNest "ExactlySaid$State" (28 : Nat) ({ cls := "ExactlySaid$Row", name := "<init>", desc := "(I)V" } : Jvm.MethodName) "ExactlySaid" ∈ TN := cTN2 (i := 112) rfl rfl
theorem t_353 : Jvm.Cond.instanceMethod ({ cls := "ExactlySaid$Row", name := "<init>", desc := "(I)V" } : Jvm.MethodName) ∈ TB := cTB2 (i := 113) rfl rfl
theorem t_354 : Jvm.Cond.code ({ cls := "ExactlySaid$Row", name := "<init>", desc := "(I)V" } : Jvm.MethodName) prog_8_method_1_code (2 : Nat) (Option.none : Option Jvm.ClassFile.FieldType) ∈ TB := cTB2 (i := 114) rfl rfl
theorem t_355 : Jvm.Cond.methodLink "ExactlySaid$Row" (1 : Nat) ({ cls := "java/lang/Object", name := "<init>", desc := "()V" } : Jvm.MethodName) ∈ TB := cTB2 (i := 115) rfl rfl
theorem t_356 : Jvm.Cond.methodLink "ExactlySaid$Row" (7 : Nat) ({ cls := "java/lang/Math", name := "max", desc := "(II)I" } : Jvm.MethodName) ∈ TB := cTB2 (i := 116) rfl rfl
theorem t_357 : Jvm.Cond.static ({ cls := "java/lang/Math", name := "max", desc := "(II)I" } : Jvm.MethodName) ∈ TB := cTB2 (i := 117) rfl rfl
theorem t_358 : Jvm.Cond.code ({ cls := "java/lang/Math", name := "max", desc := "(II)I" } : Jvm.MethodName) prog_28_method_65_code (2 : Nat) (Option.some Jvm.ClassFile.FieldType.int) ∈ TB := cTB2 (i := 118) rfl rfl
theorem t_359 : Jvm.Cond.classLink "ExactlySaid$Row" (13 : Nat) "ExactlySaid$Fraction" ∈ TB := cTB2 (i := 119) rfl rfl
theorem t_360 : Jvm.Cond.fieldLink "ExactlySaid$Row" (15 : Nat) "ExactlySaid$Row" "values" "[LExactlySaid$Fraction;" ∈ TB := cTB2 (i := 120) rfl rfl
theorem t_361 : Jvm.Cond.fieldLinkNest "ExactlySaid$Reckoner" (192 : Nat) "ExactlySaid$Row" "values" "[LExactlySaid$Fraction;" "ExactlySaid" ∈ TN := cTN2 (i := 121) rfl rfl
theorem t_362 : Jvm.Cond.fieldLinkNest "ExactlySaid" (381 : Nat) "ExactlySaid$Row" "values" "[LExactlySaid$Fraction;" "ExactlySaid" ∈ TN := cTN2 (i := 122) rfl rfl
theorem t_366 : Jvm.Cond.fieldLink "ExactlySaid$State" (16 : Nat) "ExactlySaid$State" "book" "LExactlySaid$Book;" ∈ TB := cTB2 (i := 126) rfl rfl
theorem t_367 : Jvm.Cond.fieldLinkNest "ExactlySaid" (150 : Nat) "ExactlySaid$State" "book" "LExactlySaid$Book;" "ExactlySaid" ∈ TN := cTN2 (i := 127) rfl rfl
theorem t_368 : Jvm.Cond.fieldLink "ExactlySaid$State" (24 : Nat) "ExactlySaid$State" "rows" "[LExactlySaid$Row;" ∈ TB := cTB2 (i := 128) rfl rfl
theorem t_369 : Jvm.Cond.fieldLinkNest "ExactlySaid" (133 : Nat) "ExactlySaid$State" "rows" "[LExactlySaid$Row;" "ExactlySaid" ∈ TN := cTN2 (i := 129) rfl rfl
theorem t_375 : Jvm.Cond.fieldLink "ExactlySaid" (9 : Nat) "ExactlySaid" "tape" "[I" ∈ TB := cTB2 (i := 135) rfl rfl
theorem t_376 : Jvm.Cond.fieldLink "ExactlySaid" (85 : Nat) "ExactlySaid" "tapeLength" "I" ∈ TB := cTB2 (i := 136) rfl rfl
theorem t_377 : Jvm.Cond.fieldLink "ExactlySaid" (13 : Nat) "ExactlySaid" "errorAt" "I" ∈ TB := cTB2 (i := 137) rfl rfl
theorem t_378 : Jvm.Cond.fieldLink "ExactlySaid" (17 : Nat) "ExactlySaid" "cause" "I" ∈ TB := cTB2 (i := 138) rfl rfl
theorem t_379 : Jvm.Cond.fieldLink "ExactlySaid" (20 : Nat) "ExactlySaid" "causePlace" "I" ∈ TB := cTB2 (i := 139) rfl rfl
theorem t_380 : Jvm.Cond.fieldLink "ExactlySaid" (23 : Nat) "ExactlySaid" "failedWord" "I" ∈ TB := cTB2 (i := 140) rfl rfl
theorem t_381 : Jvm.Cond.fieldLink "ExactlySaid" (26 : Nat) "ExactlySaid" "ringWords" "[I" ∈ TB := cTB2 (i := 141) rfl rfl
theorem t_382 : Jvm.Cond.fieldLink "ExactlySaid" (144 : Nat) "ExactlySaid" "ringLength" "I" ∈ TB := cTB2 (i := 142) rfl rfl
theorem t_383 : Jvm.Cond.fieldLink "ExactlySaid" (32 : Nat) "ExactlySaid" "answer" "LExactlySaid$Fraction;" ∈ TB := cTB2 (i := 143) rfl rfl
theorem t_384 : Jvm.Cond.fieldLink "ExactlySaid" (36 : Nat) "ExactlySaid" "slots" "[LExactlySaid$Fraction;" ∈ TB := cTB2 (i := 144) rfl rfl
theorem t_385 : Jvm.Cond.fieldLink "ExactlySaid" (43 : Nat) "ExactlySaid" "written" "Ljava/lang/StringBuilder;" ∈ TB := cTB2 (i := 145) rfl rfl
theorem t_386 : Jvm.Cond.fieldLink "ExactlySaid" (50 : Nat) "ExactlySaid" "kept" "LExactlySaid$Steps;" ∈ TB := cTB2 (i := 146) rfl rfl
theorem t_387 : Jvm.Cond.fieldLink "ExactlySaid" (54 : Nat) "ExactlySaid" "spare" "LExactlySaid$Steps;" ∈ TB := cTB2 (i := 147) rfl rfl
theorem t_388 : Jvm.Cond.fieldLink "ExactlySaid" (59 : Nat) "ExactlySaid" "states" "[LExactlySaid$State;" ∈ TB := cTB2 (i := 148) rfl rfl
theorem t_389 : Jvm.Cond.fieldLink "ExactlySaid" (417 : Nat) "ExactlySaid" "now" "I" ∈ TB := cTB2 (i := 149) rfl rfl
theorem t_390 : Jvm.Cond.fieldLink "ExactlySaid" (420 : Nat) "ExactlySaid" "last" "I" ∈ TB := cTB2 (i := 150) rfl rfl
theorem t_391 : Jvm.Cond.fieldLink "ExactlySaid" (66 : Nat) "ExactlySaid" "reckoner" "LExactlySaid$Reckoner;" ∈ TB := cTB2 (i := 151) rfl rfl
theorem t_392 : Jvm.Cond.fieldLink "ExactlySaid" (73 : Nat) "ExactlySaid" "reader" "LExactlySaid$Reader;" ∈ TB := cTB2 (i := 152) rfl rfl
theorem t_393 : Jvm.Cond.fieldLink "ExactlySaid" (80 : Nat) "ExactlySaid" "machine" "LExactlySaid$Machine;" ∈ TB := cTB2 (i := 153) rfl rfl
theorem t_433 : Jvm.Cond.methodLink "ExactlySaidLaw" (117 : Nat) ({ cls := "ExactlySaid", name := "clearTape", desc := "()I" } : Jvm.MethodName) ∈ TB := cTB2 (i := 193) rfl rfl
theorem t_434 : Jvm.Cond.instanceMethod ({ cls := "ExactlySaid", name := "clearTape", desc := "()I" } : Jvm.MethodName) ∈ TB := cTB2 (i := 194) rfl rfl
theorem t_435 : Jvm.Cond.selects "ExactlySaid" ({ cls := "ExactlySaid", name := "clearTape", desc := "()I" } : Jvm.MethodName) ({ cls := "ExactlySaid", name := "clearTape", desc := "()I" } : Jvm.MethodName) ∈ TB := cTB2 (i := 195) rfl rfl
theorem t_436 : Jvm.Cond.code ({ cls := "ExactlySaid", name := "clearTape", desc := "()I" } : Jvm.MethodName) prog_1_method_3_code (2 : Nat) (Option.some Jvm.ClassFile.FieldType.int) ∈ TB := cTB2 (i := 196) rfl rfl
theorem t_437 : Jvm.Cond.methodLink "ExactlySaidLaw" (125 : Nat) ({ cls := "ExactlySaid", name := "errorPosition", desc := "()I" } : Jvm.MethodName) ∈ TB := cTB2 (i := 197) rfl rfl
theorem t_438 : Jvm.Cond.instanceMethod ({ cls := "ExactlySaid", name := "errorPosition", desc := "()I" } : Jvm.MethodName) ∈ TB := cTB2 (i := 198) rfl rfl
theorem t_439 : Jvm.Cond.selects "ExactlySaid" ({ cls := "ExactlySaid", name := "errorPosition", desc := "()I" } : Jvm.MethodName) ({ cls := "ExactlySaid", name := "errorPosition", desc := "()I" } : Jvm.MethodName) ∈ TB := cTB2 (i := 199) rfl rfl
theorem t_440 : Jvm.Cond.code ({ cls := "ExactlySaid", name := "errorPosition", desc := "()I" } : Jvm.MethodName) prog_1_method_5_code (1 : Nat) (Option.some Jvm.ClassFile.FieldType.int) ∈ TB := cTB2 (i := 200) rfl rfl
theorem t_441 : Jvm.Cond.methodLink "ExactlySaidLaw" (133 : Nat) ({ cls := "ExactlySaid", name := "failed", desc := "()I" } : Jvm.MethodName) ∈ TB := cTB2 (i := 201) rfl rfl
theorem t_442 : Jvm.Cond.instanceMethod ({ cls := "ExactlySaid", name := "failed", desc := "()I" } : Jvm.MethodName) ∈ TB := cTB2 (i := 202) rfl rfl
theorem t_443 : Jvm.Cond.selects "ExactlySaid" ({ cls := "ExactlySaid", name := "failed", desc := "()I" } : Jvm.MethodName) ({ cls := "ExactlySaid", name := "failed", desc := "()I" } : Jvm.MethodName) ∈ TB := cTB2 (i := 203) rfl rfl
theorem t_444 : Jvm.Cond.code ({ cls := "ExactlySaid", name := "failed", desc := "()I" } : Jvm.MethodName) prog_1_method_7_code (1 : Nat) (Option.some Jvm.ClassFile.FieldType.int) ∈ TB := cTB2 (i := 204) rfl rfl
theorem t_445 : Jvm.Cond.methodLink "ExactlySaidLaw" (137 : Nat) ({ cls := "ExactlySaid", name := "ring", desc := "()I" } : Jvm.MethodName) ∈ TB := cTB2 (i := 205) rfl rfl
theorem t_446 : Jvm.Cond.instanceMethod ({ cls := "ExactlySaid", name := "ring", desc := "()I" } : Jvm.MethodName) ∈ TB := cTB2 (i := 206) rfl rfl
theorem t_447 : Jvm.Cond.selects "ExactlySaid" ({ cls := "ExactlySaid", name := "ring", desc := "()I" } : Jvm.MethodName) ({ cls := "ExactlySaid", name := "ring", desc := "()I" } : Jvm.MethodName) ∈ TB := cTB2 (i := 207) rfl rfl
theorem t_448 : Jvm.Cond.code ({ cls := "ExactlySaid", name := "ring", desc := "()I" } : Jvm.MethodName) prog_1_method_8_code (1 : Nat) (Option.some Jvm.ClassFile.FieldType.int) ∈ TB := cTB2 (i := 208) rfl rfl
theorem t_449 : Jvm.Cond.methodLink "ExactlySaidLaw" (144 : Nat) ({ cls := "ExactlySaid", name := "sign", desc := "()I" } : Jvm.MethodName) ∈ TB := cTB2 (i := 209) rfl rfl
theorem t_450 : Jvm.Cond.instanceMethod ({ cls := "ExactlySaid", name := "sign", desc := "()I" } : Jvm.MethodName) ∈ TB := cTB2 (i := 210) rfl rfl
theorem t_451 : Jvm.Cond.selects "ExactlySaid" ({ cls := "ExactlySaid", name := "sign", desc := "()I" } : Jvm.MethodName) ({ cls := "ExactlySaid", name := "sign", desc := "()I" } : Jvm.MethodName) ∈ TB := cTB2 (i := 211) rfl rfl
theorem t_452 : Jvm.Cond.code ({ cls := "ExactlySaid", name := "sign", desc := "()I" } : Jvm.MethodName) prog_1_method_19_code (1 : Nat) (Option.some Jvm.ClassFile.FieldType.int) ∈ TB := cTB2 (i := 212) rfl rfl
theorem t_453 : Jvm.Cond.methodLink "ExactlySaidLaw" (148 : Nat) ({ cls := "ExactlySaid", name := "digits", desc := "(Z)I" } : Jvm.MethodName) ∈ TB := cTB2 (i := 213) rfl rfl
theorem t_454 : Jvm.Cond.instanceMethod ({ cls := "ExactlySaid", name := "digits", desc := "(Z)I" } : Jvm.MethodName) ∈ TB := cTB2 (i := 214) rfl rfl
theorem t_455 : Jvm.Cond.selects "ExactlySaid" ({ cls := "ExactlySaid", name := "digits", desc := "(Z)I" } : Jvm.MethodName) ({ cls := "ExactlySaid", name := "digits", desc := "(Z)I" } : Jvm.MethodName) ∈ TB := cTB2 (i := 215) rfl rfl
theorem t_456 : Jvm.Cond.code ({ cls := "ExactlySaid", name := "digits", desc := "(Z)I" } : Jvm.MethodName) prog_1_method_20_code (2 : Nat) (Option.some Jvm.ClassFile.FieldType.int) ∈ TB := cTB2 (i := 216) rfl rfl
theorem t_457 : Jvm.Cond.methodLink "ExactlySaid" (261 : Nat) ({ cls := "ExactlySaid", name := "partOfAnswer", desc := "(Z)LExactlySaid$Nat;" } : Jvm.MethodName) ∈ TB := cTB2 (i := 217) rfl rfl
theorem t_459 : Jvm.Cond.instanceMethod ({ cls := "ExactlySaid", name := "partOfAnswer", desc := "(Z)LExactlySaid$Nat;" } : Jvm.MethodName) ∈ TB := cTB2 (i := 219) rfl rfl
theorem t_460 : Jvm.Cond.code ({ cls := "ExactlySaid", name := "partOfAnswer", desc := "(Z)LExactlySaid$Nat;" } : Jvm.MethodName) prog_1_method_28_code (2 : Nat) (Option.some (Jvm.ClassFile.FieldType.object "ExactlySaid$Nat")) ∈ TB := cTB2 (i := 220) rfl rfl
theorem t_461 : Jvm.Cond.methodLinkNest "ExactlySaid" (265 : Nat) ({ cls := "ExactlySaid$Nat", name := "digitCount", desc := "()I" } : Jvm.MethodName) "ExactlySaid" ∈ TN := cTN2 (i := 221) rfl rfl
theorem t_463 : Jvm.Cond.instanceMethod ({ cls := "ExactlySaid$Nat", name := "digitCount", desc := "()I" } : Jvm.MethodName) ∈ TB := cTB2 (i := 223) rfl rfl
theorem t_464 : Jvm.Cond.code ({ cls := "ExactlySaid$Nat", name := "digitCount", desc := "()I" } : Jvm.MethodName) prog_5_method_18_code (3 : Nat) (Option.some Jvm.ClassFile.FieldType.int) ∈ TB := cTB2 (i := 224) rfl rfl
theorem t_465 : Jvm.Cond.methodLink "ExactlySaidLaw" (157 : Nat) ({ cls := "ExactlySaid", name := "write", desc := "(Z)I" } : Jvm.MethodName) ∈ TB := cTB2 (i := 225) rfl rfl
theorem t_466 : Jvm.Cond.instanceMethod ({ cls := "ExactlySaid", name := "write", desc := "(Z)I" } : Jvm.MethodName) ∈ TB := cTB2 (i := 226) rfl rfl
theorem t_467 : Jvm.Cond.selects "ExactlySaid" ({ cls := "ExactlySaid", name := "write", desc := "(Z)I" } : Jvm.MethodName) ({ cls := "ExactlySaid", name := "write", desc := "(Z)I" } : Jvm.MethodName) ∈ TB := cTB2 (i := 227) rfl rfl
theorem t_468 : Jvm.Cond.code ({ cls := "ExactlySaid", name := "write", desc := "(Z)I" } : Jvm.MethodName) prog_1_method_22_code (4 : Nat) (Option.some Jvm.ClassFile.FieldType.int) ∈ TB := cTB2 (i := 228) rfl rfl
theorem t_469 : Jvm.Cond.methodLink "ExactlySaid" (274 : Nat) ({ cls := "java/lang/StringBuilder", name := "setLength", desc := "(I)V" } : Jvm.MethodName) ∈ TB := cTB2 (i := 229) rfl rfl
theorem t_470 : Jvm.Cond.instanceMethod ({ cls := "java/lang/StringBuilder", name := "setLength", desc := "(I)V" } : Jvm.MethodName) ∈ TB := cTB2 (i := 230) rfl rfl
theorem t_471 : Jvm.Cond.selects "java/lang/StringBuilder" ({ cls := "java/lang/StringBuilder", name := "setLength", desc := "(I)V" } : Jvm.MethodName) ({ cls := "java/lang/StringBuilder", name := "setLength", desc := "(I)V" } : Jvm.MethodName) ∈ TB := cTB2 (i := 231) rfl rfl
theorem t_472 : Jvm.Cond.code ({ cls := "java/lang/StringBuilder", name := "setLength", desc := "(I)V" } : Jvm.MethodName) prog_32_method_89_code (2 : Nat) (Option.none : Option Jvm.ClassFile.FieldType) ∈ TB := cTB2 (i := 232) rfl rfl
theorem t_473 : Jvm.Cond.methodLink "java/lang/StringBuilder" (333 : Nat) ({ cls := "java/lang/AbstractStringBuilder", name := "setLength", desc := "(I)V" } : Jvm.MethodName) ∈ TB := cTB2 (i := 233) rfl rfl
theorem t_474 : Jvm.Cond.instanceMethod ({ cls := "java/lang/AbstractStringBuilder", name := "setLength", desc := "(I)V" } : Jvm.MethodName) ∈ TB := cTB2 (i := 234) rfl rfl
theorem t_475 : Jvm.Cond.code ({ cls := "java/lang/AbstractStringBuilder", name := "setLength", desc := "(I)V" } : Jvm.MethodName) prog_16_method_13_code (2 : Nat) (Option.none : Option Jvm.ClassFile.FieldType) ∈ TB := cTB2 (i := 235) rfl rfl
theorem t_495 : Jvm.Cond.methodLink "java/lang/AbstractStringBuilder" (100 : Nat) ({ cls := "java/lang/AbstractStringBuilder", name := "ensureCapacityInternal", desc := "(I)V" } : Jvm.MethodName) ∈ TB := cTB3 (i := 15) rfl rfl
theorem t_497 : Jvm.Cond.instanceMethod ({ cls := "java/lang/AbstractStringBuilder", name := "ensureCapacityInternal", desc := "(I)V" } : Jvm.MethodName) ∈ TB := cTB3 (i := 17) rfl rfl
theorem t_498 : Jvm.Cond.code ({ cls := "java/lang/AbstractStringBuilder", name := "ensureCapacityInternal", desc := "(I)V" } : Jvm.MethodName) prog_16_method_9_code (3 : Nat) (Option.none : Option Jvm.ClassFile.FieldType) ∈ TB := cTB3 (i := 18) rfl rfl
theorem t_499 : Jvm.Cond.methodLink "java/lang/AbstractStringBuilder" (104 : Nat) ({ cls := "java/lang/AbstractStringBuilder", name := "newCapacity", desc := "(I)I" } : Jvm.MethodName) ∈ TB := cTB3 (i := 19) rfl rfl
theorem t_501 : Jvm.Cond.instanceMethod ({ cls := "java/lang/AbstractStringBuilder", name := "newCapacity", desc := "(I)I" } : Jvm.MethodName) ∈ TB := cTB3 (i := 21) rfl rfl
theorem t_502 : Jvm.Cond.code ({ cls := "java/lang/AbstractStringBuilder", name := "newCapacity", desc := "(I)I" } : Jvm.MethodName) prog_16_method_10_code (6 : Nat) (Option.some Jvm.ClassFile.FieldType.int) ∈ TB := cTB3 (i := 22) rfl rfl
theorem t_503 : Jvm.Cond.methodLink "java/lang/AbstractStringBuilder" (114 : Nat) ({ cls := "jdk/internal/util/ArraysSupport", name := "newLength", desc := "(III)I" } : Jvm.MethodName) ∈ TB := cTB3 (i := 23) rfl rfl
theorem t_504 : Jvm.Cond.static ({ cls := "jdk/internal/util/ArraysSupport", name := "newLength", desc := "(III)I" } : Jvm.MethodName) ∈ TB := cTB3 (i := 24) rfl rfl
theorem t_505 : Jvm.Cond.code ({ cls := "jdk/internal/util/ArraysSupport", name := "newLength", desc := "(III)I" } : Jvm.MethodName) prog_42_method_27_code (4 : Nat) (Option.some Jvm.ClassFile.FieldType.int) ∈ TB := cTB3 (i := 25) rfl rfl
theorem t_506 : Jvm.Cond.methodLink "jdk/internal/util/ArraysSupport" (194 : Nat) ({ cls := "java/lang/Math", name := "max", desc := "(II)I" } : Jvm.MethodName) ∈ TB := cTB3 (i := 26) rfl rfl
theorem t_507 : Jvm.Cond.constant "jdk/internal/util/ArraysSupport" (200 : Nat) (2147483639 : Int32) ∈ TB := cTB3 (i := 27) rfl rfl
theorem t_511 : Jvm.Cond.constant "java/lang/AbstractStringBuilder" (39 : Nat) (2147483647 : Int32) ∈ TB := cTB3 (i := 31) rfl rfl
theorem t_512 : Jvm.Cond.methodLink "java/lang/AbstractStringBuilder" (108 : Nat) ({ cls := "java/util/Arrays", name := "copyOf", desc := "([BI)[B" } : Jvm.MethodName) ∈ TB := cTB3 (i := 32) rfl rfl
theorem t_513 : Jvm.Cond.static ({ cls := "java/util/Arrays", name := "copyOf", desc := "([BI)[B" } : Jvm.MethodName) ∈ TB := cTB3 (i := 33) rfl rfl
theorem t_514 : Jvm.Cond.code ({ cls := "java/util/Arrays", name := "copyOf", desc := "([BI)[B" } : Jvm.MethodName) prog_40_method_121_code (3 : Nat) (Option.some (Jvm.ClassFile.FieldType.array Jvm.ClassFile.FieldType.byte)) ∈ TB := cTB3 (i := 34) rfl rfl
theorem t_517 : Jvm.Cond.native ({ cls := "java/lang/Object", name := "clone", desc := "()Ljava/lang/Object;" } : Jvm.MethodName) ∈ TB := cTB3 (i := 37) rfl rfl
theorem t_518 : Jvm.Cond.instanceMethod ({ cls := "java/lang/Object", name := "clone", desc := "()Ljava/lang/Object;" } : Jvm.MethodName) ∈ TB := cTB3 (i := 38) rfl rfl
theorem t_522 : Jvm.Cond.methodLink "java/util/Arrays" (304 : Nat) ({ cls := "java/lang/Math", name := "min", desc := "(II)I" } : Jvm.MethodName) ∈ TB := cTB3 (i := 42) rfl rfl
theorem t_523 : Jvm.Cond.static ({ cls := "java/lang/Math", name := "min", desc := "(II)I" } : Jvm.MethodName) ∈ TB := cTB3 (i := 43) rfl rfl
theorem t_524 : Jvm.Cond.code ({ cls := "java/lang/Math", name := "min", desc := "(II)I" } : Jvm.MethodName) prog_28_method_69_code (2 : Nat) (Option.some Jvm.ClassFile.FieldType.int) ∈ TB := cTB3 (i := 44) rfl rfl
theorem t_525 : Jvm.Cond.methodLink "java/util/Arrays" (150 : Nat) ({ cls := "java/lang/System", name := "arraycopy", desc := "(Ljava/lang/Object;ILjava/lang/Object;II)V" } : Jvm.MethodName) ∈ TB := cTB3 (i := 45) rfl rfl
theorem t_526 : Jvm.Cond.static ({ cls := "java/lang/System", name := "arraycopy", desc := "(Ljava/lang/Object;ILjava/lang/Object;II)V" } : Jvm.MethodName) ∈ TB := cTB3 (i := 46) rfl rfl
theorem t_527 : Jvm.Cond.native ({ cls := "java/lang/System", name := "arraycopy", desc := "(Ljava/lang/Object;ILjava/lang/Object;II)V" } : Jvm.MethodName) ∈ TB := cTB3 (i := 47) rfl rfl
theorem t_528 : Jvm.Cond.methodLink "java/lang/AbstractStringBuilder" (83 : Nat) ({ cls := "java/lang/AbstractStringBuilder", name := "isLatin1", desc := "()Z" } : Jvm.MethodName) ∈ TB := cTB3 (i := 48) rfl rfl
theorem t_529 : Jvm.Cond.instanceMethod ({ cls := "java/lang/AbstractStringBuilder", name := "isLatin1", desc := "()Z" } : Jvm.MethodName) ∈ TB := cTB3 (i := 49) rfl rfl
theorem t_530 : Jvm.Cond.sameMethod "java/lang/AbstractStringBuilder" "java/lang/AbstractStringBuilder" "isLatin1" "()Z" ∈ TB := cTB3 (i := 50) rfl rfl
theorem t_531 : Jvm.Cond.selects "java/lang/StringBuilder" ({ cls := "java/lang/AbstractStringBuilder", name := "isLatin1", desc := "()Z" } : Jvm.MethodName) ({ cls := "java/lang/AbstractStringBuilder", name := "isLatin1", desc := "()Z" } : Jvm.MethodName) ∈ TB := cTB3 (i := 51) rfl rfl
theorem t_532 : Jvm.Cond.code ({ cls := "java/lang/AbstractStringBuilder", name := "isLatin1", desc := "()Z" } : Jvm.MethodName) prog_16_method_68_code (1 : Nat) (Option.some Jvm.ClassFile.FieldType.boolean) ∈ TB := cTB3 (i := 52) rfl rfl
theorem t_545 : Jvm.Cond.fieldLink "java/lang/String" (1053 : Nat) "jdk/internal/util/Preconditions" "SIOOBE_FORMATTER" "Ljava/util/function/BiFunction;" ∈ TB := cTB3 (i := 65) rfl rfl
theorem t_646 : Jvm.Cond.instanceMethod ({ cls := "java/lang/AbstractStringBuilder", name := "length", desc := "()I" } : Jvm.MethodName) ∈ TB := cTB3 (i := 166) rfl rfl
theorem t_647 : Jvm.Cond.sameMethod "java/lang/AbstractStringBuilder" "java/lang/AbstractStringBuilder" "length" "()I" ∈ TB := cTB3 (i := 167) rfl rfl
theorem t_649 : Jvm.Cond.instanceMethod ({ cls := "java/lang/StringBuilder", name := "length", desc := "()I" } : Jvm.MethodName) ∈ TB := cTB3 (i := 169) rfl rfl
theorem t_650 : Jvm.Cond.code ({ cls := "java/lang/StringBuilder", name := "length", desc := "()I" } : Jvm.MethodName) prog_32_method_93_code (1 : Nat) (Option.some Jvm.ClassFile.FieldType.int) ∈ TB := cTB3 (i := 170) rfl rfl
theorem t_651 : Jvm.Cond.methodLink "java/lang/StringBuilder" (343 : Nat) ({ cls := "java/lang/AbstractStringBuilder", name := "length", desc := "()I" } : Jvm.MethodName) ∈ TB := cTB3 (i := 171) rfl rfl
theorem t_652 : Jvm.Cond.code ({ cls := "java/lang/AbstractStringBuilder", name := "length", desc := "()I" } : Jvm.MethodName) prog_16_method_6_code (1 : Nat) (Option.some Jvm.ClassFile.FieldType.int) ∈ TB := cTB3 (i := 172) rfl rfl
theorem t_665 : Jvm.Cond.castable "java/lang/IllegalArgumentException" "java/lang/IllegalArgumentException" ∈ TN := cTN3 (i := 185) rfl rfl
theorem t_813 : Jvm.Cond.methodLink "ExactlySaid" (277 : Nat) ({ cls := "ExactlySaid", name := "writeFraction", desc := "(LExactlySaid$Fraction;Ljava/lang/StringBuilder;)V" } : Jvm.MethodName) ∈ TB := cTB4 (i := 93) rfl rfl
theorem t_814 : Jvm.Cond.static ({ cls := "ExactlySaid", name := "writeFraction", desc := "(LExactlySaid$Fraction;Ljava/lang/StringBuilder;)V" } : Jvm.MethodName) ∈ TB := cTB4 (i := 94) rfl rfl
theorem t_815 : Jvm.Cond.code ({ cls := "ExactlySaid", name := "writeFraction", desc := "(LExactlySaid$Fraction;Ljava/lang/StringBuilder;)V" } : Jvm.MethodName) prog_1_method_31_code (2 : Nat) (Option.none : Option Jvm.ClassFile.FieldType) ∈ TB := cTB4 (i := 95) rfl rfl
theorem t_816 : Jvm.Cond.methodLink "ExactlySaid" (311 : Nat) ({ cls := "java/lang/StringBuilder", name := "append", desc := "(C)Ljava/lang/StringBuilder;" } : Jvm.MethodName) ∈ TB := cTB4 (i := 96) rfl rfl
theorem t_817 : Jvm.Cond.instanceMethod ({ cls := "java/lang/StringBuilder", name := "append", desc := "(C)Ljava/lang/StringBuilder;" } : Jvm.MethodName) ∈ TB := cTB4 (i := 97) rfl rfl
theorem t_818 : Jvm.Cond.selects "java/lang/StringBuilder" ({ cls := "java/lang/StringBuilder", name := "append", desc := "(C)Ljava/lang/StringBuilder;" } : Jvm.MethodName) ({ cls := "java/lang/StringBuilder", name := "append", desc := "(C)Ljava/lang/StringBuilder;" } : Jvm.MethodName) ∈ TB := cTB4 (i := 98) rfl rfl
theorem t_819 : Jvm.Cond.code ({ cls := "java/lang/StringBuilder", name := "append", desc := "(C)Ljava/lang/StringBuilder;" } : Jvm.MethodName) prog_32_method_14_code (2 : Nat) (Option.some (Jvm.ClassFile.FieldType.object "java/lang/StringBuilder")) ∈ TB := cTB4 (i := 99) rfl rfl
theorem t_820 : Jvm.Cond.methodLink "java/lang/StringBuilder" (50 : Nat) ({ cls := "java/lang/AbstractStringBuilder", name := "append", desc := "(C)Ljava/lang/AbstractStringBuilder;" } : Jvm.MethodName) ∈ TB := cTB4 (i := 100) rfl rfl
theorem t_821 : Jvm.Cond.instanceMethod ({ cls := "java/lang/AbstractStringBuilder", name := "append", desc := "(C)Ljava/lang/AbstractStringBuilder;" } : Jvm.MethodName) ∈ TB := cTB4 (i := 101) rfl rfl
theorem t_822 : Jvm.Cond.code ({ cls := "java/lang/AbstractStringBuilder", name := "append", desc := "(C)Ljava/lang/AbstractStringBuilder;" } : Jvm.MethodName) prog_16_method_31_code (2 : Nat) (Option.some (Jvm.ClassFile.FieldType.object "java/lang/AbstractStringBuilder")) ∈ TB := cTB4 (i := 102) rfl rfl
theorem t_823 : Jvm.Cond.methodLink "java/lang/AbstractStringBuilder" (191 : Nat) ({ cls := "java/lang/StringLatin1", name := "canEncode", desc := "(C)Z" } : Jvm.MethodName) ∈ TB := cTB4 (i := 103) rfl rfl
theorem t_824 : Jvm.Cond.static ({ cls := "java/lang/StringLatin1", name := "canEncode", desc := "(C)Z" } : Jvm.MethodName) ∈ TB := cTB4 (i := 104) rfl rfl
theorem t_825 : Jvm.Cond.code ({ cls := "java/lang/StringLatin1", name := "canEncode", desc := "(C)Z" } : Jvm.MethodName) prog_34_method_3_code (1 : Nat) (Option.some Jvm.ClassFile.FieldType.boolean) ∈ TB := cTB4 (i := 105) rfl rfl
theorem t_833 : Jvm.Cond.static ({ cls := "java/lang/String", name := "checkIndex", desc := "(II)V" } : Jvm.MethodName) ∈ TB := cTB4 (i := 113) rfl rfl
theorem t_834 : Jvm.Cond.code ({ cls := "java/lang/String", name := "checkIndex", desc := "(II)V" } : Jvm.MethodName) prog_31_method_155_code (2 : Nat) (Option.none : Option Jvm.ClassFile.FieldType) ∈ TB := cTB4 (i := 114) rfl rfl
theorem t_835 : Jvm.Cond.methodLink "java/lang/String" (1059 : Nat) ({ cls := "jdk/internal/util/Preconditions", name := "checkIndex", desc := "(IILjava/util/function/BiFunction;)I" } : Jvm.MethodName) ∈ TB := cTB4 (i := 115) rfl rfl
theorem t_836 : Jvm.Cond.static ({ cls := "jdk/internal/util/Preconditions", name := "checkIndex", desc := "(IILjava/util/function/BiFunction;)I" } : Jvm.MethodName) ∈ TB := cTB4 (i := 116) rfl rfl
theorem t_837 : Jvm.Cond.code ({ cls := "jdk/internal/util/Preconditions", name := "checkIndex", desc := "(IILjava/util/function/BiFunction;)I" } : Jvm.MethodName) prog_43_method_11_code (3 : Nat) (Option.some Jvm.ClassFile.FieldType.int) ∈ TB := cTB4 (i := 117) rfl rfl
theorem t_838 : Jvm.Cond.methodLink "ExactlySaid" (315 : Nat) ({ cls := "ExactlySaid", name := "writeDigits", desc := "(LExactlySaid$Nat;Ljava/lang/StringBuilder;)V" } : Jvm.MethodName) ∈ TB := cTB4 (i := 118) rfl rfl
theorem t_839 : Jvm.Cond.static ({ cls := "ExactlySaid", name := "writeDigits", desc := "(LExactlySaid$Nat;Ljava/lang/StringBuilder;)V" } : Jvm.MethodName) ∈ TB := cTB4 (i := 119) rfl rfl
theorem t_840 : Jvm.Cond.code ({ cls := "ExactlySaid", name := "writeDigits", desc := "(LExactlySaid$Nat;Ljava/lang/StringBuilder;)V" } : Jvm.MethodName) prog_1_method_30_code (4 : Nat) (Option.none : Option Jvm.ClassFile.FieldType) ∈ TB := cTB4 (i := 120) rfl rfl
theorem t_841 : Jvm.Cond.methodLinkNest "ExactlySaid" (271 : Nat) ({ cls := "ExactlySaid$Nat", name := "digitAt", desc := "(I)I" } : Jvm.MethodName) "ExactlySaid" ∈ TN := cTN4 (i := 121) rfl rfl
theorem t_843 : Jvm.Cond.instanceMethod ({ cls := "ExactlySaid$Nat", name := "digitAt", desc := "(I)I" } : Jvm.MethodName) ∈ TB := cTB4 (i := 123) rfl rfl
theorem t_844 : Jvm.Cond.code ({ cls := "ExactlySaid$Nat", name := "digitAt", desc := "(I)I" } : Jvm.MethodName) prog_5_method_19_code (5 : Nat) (Option.some Jvm.ClassFile.FieldType.int) ∈ TB := cTB4 (i := 124) rfl rfl
theorem t_845 : Jvm.Cond.methodLink "ExactlySaid$Nat" (39 : Nat) ({ cls := "ExactlySaid$Nat", name := "digitCount", desc := "()I" } : Jvm.MethodName) ∈ TB := cTB4 (i := 125) rfl rfl
theorem t_846 : Jvm.Cond.methodLink "ExactlySaid$Nat" (31 : Nat) ({ cls := "ExactlySaid$Nat", name := "limb", desc := "(I)I" } : Jvm.MethodName) ∈ TB := cTB4 (i := 126) rfl rfl
theorem t_848 : Jvm.Cond.instanceMethod ({ cls := "ExactlySaid$Nat", name := "limb", desc := "(I)I" } : Jvm.MethodName) ∈ TB := cTB4 (i := 128) rfl rfl
theorem t_849 : Jvm.Cond.code ({ cls := "ExactlySaid$Nat", name := "limb", desc := "(I)I" } : Jvm.MethodName) prog_5_method_12_code (2 : Nat) (Option.some Jvm.ClassFile.FieldType.int) ∈ TB := cTB4 (i := 129) rfl rfl
theorem t_850 : Jvm.Cond.methodLinkNest "ExactlySaid" (319 : Nat) ({ cls := "ExactlySaid$Fraction", name := "isWhole", desc := "()Z" } : Jvm.MethodName) "ExactlySaid" ∈ TN := cTN4 (i := 130) rfl rfl
theorem t_852 : Jvm.Cond.instanceMethod ({ cls := "ExactlySaid$Fraction", name := "isWhole", desc := "()Z" } : Jvm.MethodName) ∈ TB := cTB4 (i := 132) rfl rfl
theorem t_853 : Jvm.Cond.code ({ cls := "ExactlySaid$Fraction", name := "isWhole", desc := "()Z" } : Jvm.MethodName) prog_3_method_7_code (1 : Nat) (Option.some Jvm.ClassFile.FieldType.boolean) ∈ TB := cTB4 (i := 133) rfl rfl
theorem t_854 : Jvm.Cond.methodLinkNest "ExactlySaid$Fraction" (45 : Nat) ({ cls := "ExactlySaid$Nat", name := "isOne", desc := "()Z" } : Jvm.MethodName) "ExactlySaid" ∈ TN := cTN4 (i := 134) rfl rfl
theorem t_856 : Jvm.Cond.instanceMethod ({ cls := "ExactlySaid$Nat", name := "isOne", desc := "()Z" } : Jvm.MethodName) ∈ TB := cTB4 (i := 136) rfl rfl
theorem t_857 : Jvm.Cond.code ({ cls := "ExactlySaid$Nat", name := "isOne", desc := "()Z" } : Jvm.MethodName) prog_5_method_3_code (1 : Nat) (Option.some Jvm.ClassFile.FieldType.boolean) ∈ TB := cTB4 (i := 137) rfl rfl
theorem t_858 : Jvm.Cond.methodLink "ExactlySaid" (281 : Nat) ({ cls := "java/lang/StringBuilder", name := "length", desc := "()I" } : Jvm.MethodName) ∈ TB := cTB4 (i := 138) rfl rfl
theorem t_859 : Jvm.Cond.methodLinkNest "ExactlySaid" (283 : Nat) ({ cls := "ExactlySaid$Reckoner", name := "lengthAhead", desc := "(LExactlySaid$Fraction;)I" } : Jvm.MethodName) "ExactlySaid" ∈ TN := cTN4 (i := 139) rfl rfl
theorem t_861 : Jvm.Cond.instanceMethod ({ cls := "ExactlySaid$Reckoner", name := "lengthAhead", desc := "(LExactlySaid$Fraction;)I" } : Jvm.MethodName) ∈ TB := cTB4 (i := 141) rfl rfl
theorem t_862 : Jvm.Cond.code ({ cls := "ExactlySaid$Reckoner", name := "lengthAhead", desc := "(LExactlySaid$Fraction;)I" } : Jvm.MethodName) prog_7_method_23_code (4 : Nat) (Option.some Jvm.ClassFile.FieldType.int) ∈ TB := cTB4 (i := 142) rfl rfl
theorem t_863 : Jvm.Cond.methodLinkNest "ExactlySaid$Reckoner" (70 : Nat) ({ cls := "ExactlySaid$Nat", name := "setTo", desc := "(LExactlySaid$Nat;)V" } : Jvm.MethodName) "ExactlySaid" ∈ TN := cTN4 (i := 143) rfl rfl
theorem t_865 : Jvm.Cond.instanceMethod ({ cls := "ExactlySaid$Nat", name := "setTo", desc := "(LExactlySaid$Nat;)V" } : Jvm.MethodName) ∈ TB := cTB4 (i := 145) rfl rfl
theorem t_866 : Jvm.Cond.code ({ cls := "ExactlySaid$Nat", name := "setTo", desc := "(LExactlySaid$Nat;)V" } : Jvm.MethodName) prog_5_method_9_code (3 : Nat) (Option.none : Option Jvm.ClassFile.FieldType) ∈ TB := cTB4 (i := 146) rfl rfl
theorem t_867 : Jvm.Cond.methodLinkNest "ExactlySaid$Reckoner" (188 : Nat) ({ cls := "ExactlySaid$Nat", name := "isMultiple", desc := "(I)Z" } : Jvm.MethodName) "ExactlySaid" ∈ TN := cTN4 (i := 147) rfl rfl
theorem t_869 : Jvm.Cond.instanceMethod ({ cls := "ExactlySaid$Nat", name := "isMultiple", desc := "(I)Z" } : Jvm.MethodName) ∈ TB := cTB4 (i := 149) rfl rfl
theorem t_870 : Jvm.Cond.code ({ cls := "ExactlySaid$Nat", name := "isMultiple", desc := "(I)Z" } : Jvm.MethodName) prog_5_method_7_code (2 : Nat) (Option.some Jvm.ClassFile.FieldType.boolean) ∈ TB := cTB4 (i := 150) rfl rfl
theorem t_871 : Jvm.Cond.methodLinkNest "ExactlySaid$Reckoner" (86 : Nat) ({ cls := "ExactlySaid$Nat", name := "lower", desc := "(I)I" } : Jvm.MethodName) "ExactlySaid" ∈ TN := cTN4 (i := 151) rfl rfl
theorem t_873 : Jvm.Cond.instanceMethod ({ cls := "ExactlySaid$Nat", name := "lower", desc := "(I)I" } : Jvm.MethodName) ∈ TB := cTB4 (i := 153) rfl rfl
theorem t_874 : Jvm.Cond.code ({ cls := "ExactlySaid$Nat", name := "lower", desc := "(I)I" } : Jvm.MethodName) prog_5_method_16_code (5 : Nat) (Option.some Jvm.ClassFile.FieldType.int) ∈ TB := cTB4 (i := 154) rfl rfl
theorem t_875 : Jvm.Cond.methodLink "ExactlySaid$Reckoner" (217 : Nat) ({ cls := "java/lang/Math", name := "max", desc := "(II)I" } : Jvm.MethodName) ∈ TB := cTB4 (i := 155) rfl rfl
theorem t_876 : Jvm.Cond.methodLinkNest "ExactlySaid" (287 : Nat) ({ cls := "ExactlySaid$Reckoner", name := "lengthRepeating", desc := "(I)I" } : Jvm.MethodName) "ExactlySaid" ∈ TN := cTN4 (i := 156) rfl rfl
theorem t_878 : Jvm.Cond.instanceMethod ({ cls := "ExactlySaid$Reckoner", name := "lengthRepeating", desc := "(I)I" } : Jvm.MethodName) ∈ TB := cTB4 (i := 158) rfl rfl
theorem t_879 : Jvm.Cond.code ({ cls := "ExactlySaid$Reckoner", name := "lengthRepeating", desc := "(I)I" } : Jvm.MethodName) prog_7_method_24_code (4 : Nat) (Option.some Jvm.ClassFile.FieldType.int) ∈ TB := cTB4 (i := 159) rfl rfl
theorem t_880 : Jvm.Cond.methodLinkNest "ExactlySaid$Reckoner" (228 : Nat) ({ cls := "ExactlySaid$Nat", name := "isOne", desc := "()Z" } : Jvm.MethodName) "ExactlySaid" ∈ TN := cTN4 (i := 160) rfl rfl
theorem t_881 : Jvm.Cond.methodLinkNest "ExactlySaid$Reckoner" (126 : Nat) ({ cls := "ExactlySaid$Nat", name := "isLong", desc := "()Z" } : Jvm.MethodName) "ExactlySaid" ∈ TN := cTN4 (i := 161) rfl rfl
theorem t_883 : Jvm.Cond.instanceMethod ({ cls := "ExactlySaid$Nat", name := "isLong", desc := "()Z" } : Jvm.MethodName) ∈ TB := cTB4 (i := 163) rfl rfl
theorem t_884 : Jvm.Cond.code ({ cls := "ExactlySaid$Nat", name := "isLong", desc := "()Z" } : Jvm.MethodName) prog_5_method_5_code (1 : Nat) (Option.some Jvm.ClassFile.FieldType.boolean) ∈ TB := cTB4 (i := 164) rfl rfl
theorem t_885 : Jvm.Cond.methodLinkNest "ExactlySaid$Reckoner" (137 : Nat) ({ cls := "ExactlySaid$Nat", name := "asLong", desc := "()J" } : Jvm.MethodName) "ExactlySaid" ∈ TN := cTN4 (i := 165) rfl rfl
theorem t_887 : Jvm.Cond.instanceMethod ({ cls := "ExactlySaid$Nat", name := "asLong", desc := "()J" } : Jvm.MethodName) ∈ TB := cTB4 (i := 167) rfl rfl
theorem t_888 : Jvm.Cond.code ({ cls := "ExactlySaid$Nat", name := "asLong", desc := "()J" } : Jvm.MethodName) prog_5_method_6_code (3 : Nat) (Option.some Jvm.ClassFile.FieldType.long) ∈ TB := cTB4 (i := 168) rfl rfl
theorem t_889 : Jvm.Cond.constantLong "ExactlySaid$Reckoner" (231 : Nat) (100000000000000000 : Int64) ∈ TB := cTB4 (i := 169) rfl rfl
theorem t_890 : Jvm.Cond.methodLink "ExactlySaid$Reckoner" (233 : Nat) ({ cls := "ExactlySaid$Reckoner", name := "lengthRepeating", desc := "(JI)I" } : Jvm.MethodName) ∈ TB := cTB4 (i := 170) rfl rfl
theorem t_892 : Jvm.Cond.instanceMethod ({ cls := "ExactlySaid$Reckoner", name := "lengthRepeating", desc := "(JI)I" } : Jvm.MethodName) ∈ TB := cTB4 (i := 172) rfl rfl
theorem t_893 : Jvm.Cond.code ({ cls := "ExactlySaid$Reckoner", name := "lengthRepeating", desc := "(JI)I" } : Jvm.MethodName) prog_7_method_25_code (7 : Nat) (Option.some Jvm.ClassFile.FieldType.int) ∈ TB := cTB4 (i := 173) rfl rfl
theorem t_894 : Jvm.Cond.constantLong "ExactlySaid$Reckoner" (237 : Nat) (10 : Int64) ∈ TB := cTB4 (i := 174) rfl rfl
theorem t_895 : Jvm.Cond.methodLinkNest "ExactlySaid$Reckoner" (90 : Nat) ({ cls := "ExactlySaid$Nat", name := "setSmall", desc := "(J)V" } : Jvm.MethodName) "ExactlySaid" ∈ TN := cTN4 (i := 175) rfl rfl
theorem t_896 : Jvm.Cond.methodLinkNest "ExactlySaid$Reckoner" (95 : Nat) ({ cls := "ExactlySaid$Nat", name := "raise", desc := "(II)V" } : Jvm.MethodName) "ExactlySaid" ∈ TN := cTN4 (i := 176) rfl rfl
theorem t_898 : Jvm.Cond.instanceMethod ({ cls := "ExactlySaid$Nat", name := "raise", desc := "(II)V" } : Jvm.MethodName) ∈ TB := cTB4 (i := 178) rfl rfl
theorem t_899 : Jvm.Cond.code ({ cls := "ExactlySaid$Nat", name := "raise", desc := "(II)V" } : Jvm.MethodName) prog_5_method_15_code (6 : Nat) (Option.none : Option Jvm.ClassFile.FieldType) ∈ TB := cTB4 (i := 179) rfl rfl
theorem t_900 : Jvm.Cond.methodLink "ExactlySaid$Nat" (25 : Nat) ({ cls := "java/util/Arrays", name := "copyOf", desc := "([II)[I" } : Jvm.MethodName) ∈ TB := cTB4 (i := 180) rfl rfl
theorem t_901 : Jvm.Cond.static ({ cls := "java/util/Arrays", name := "copyOf", desc := "([II)[I" } : Jvm.MethodName) ∈ TB := cTB4 (i := 181) rfl rfl
theorem t_902 : Jvm.Cond.code ({ cls := "java/util/Arrays", name := "copyOf", desc := "([II)[I" } : Jvm.MethodName) prog_40_method_123_code (3 : Nat) (Option.some (Jvm.ClassFile.FieldType.array Jvm.ClassFile.FieldType.int)) ∈ TB := cTB4 (i := 182) rfl rfl
theorem t_903 : Jvm.Cond.methodLink "java/util/Arrays" (316 : Nat) ({ cls := "[I", name := "clone", desc := "()Ljava/lang/Object;" } : Jvm.MethodName) ∈ TB := cTB4 (i := 183) rfl rfl
theorem t_904 : Jvm.Cond.sameMethod "[I" "java/lang/Object" "clone" "()Ljava/lang/Object;" ∈ TB := cTB4 (i := 184) rfl rfl
theorem t_905 : Jvm.Cond.selects "[I" ({ cls := "[I", name := "clone", desc := "()Ljava/lang/Object;" } : Jvm.MethodName) ({ cls := "java/lang/Object", name := "clone", desc := "()Ljava/lang/Object;" } : Jvm.MethodName) ∈ TB := cTB4 (i := 185) rfl rfl
theorem t_906 : Jvm.Cond.castable "[I" "java/lang/Cloneable" ∈ TN := cTN4 (i := 186) rfl rfl
theorem t_907 : Jvm.Cond.classLink "java/util/Arrays" (317 : Nat) "[I" ∈ TB := cTB4 (i := 187) rfl rfl
theorem t_908 : Jvm.Cond.methodLinkNest "ExactlySaid$Reckoner" (78 : Nat) ({ cls := "ExactlySaid$Nat", name := "against", desc := "(LExactlySaid$Nat;)I" } : Jvm.MethodName) "ExactlySaid" ∈ TN := cTN4 (i := 188) rfl rfl
theorem t_910 : Jvm.Cond.instanceMethod ({ cls := "ExactlySaid$Nat", name := "against", desc := "(LExactlySaid$Nat;)I" } : Jvm.MethodName) ∈ TB := cTB4 (i := 190) rfl rfl
theorem t_911 : Jvm.Cond.code ({ cls := "ExactlySaid$Nat", name := "against", desc := "(LExactlySaid$Nat;)I" } : Jvm.MethodName) prog_5_method_11_code (3 : Nat) (Option.some Jvm.ClassFile.FieldType.int) ∈ TB := cTB4 (i := 191) rfl rfl
theorem t_912 : Jvm.Cond.methodLinkNest "ExactlySaid$Reckoner" (158 : Nat) ({ cls := "ExactlySaid$Nat", name := "minus", desc := "(LExactlySaid$Nat;)V" } : Jvm.MethodName) "ExactlySaid" ∈ TN := cTN4 (i := 192) rfl rfl
theorem t_914 : Jvm.Cond.instanceMethod ({ cls := "ExactlySaid$Nat", name := "minus", desc := "(LExactlySaid$Nat;)V" } : Jvm.MethodName) ∈ TB := cTB4 (i := 194) rfl rfl
theorem t_915 : Jvm.Cond.code ({ cls := "ExactlySaid$Nat", name := "minus", desc := "(LExactlySaid$Nat;)V" } : Jvm.MethodName) prog_5_method_14_code (5 : Nat) (Option.none : Option Jvm.ClassFile.FieldType) ∈ TB := cTB4 (i := 195) rfl rfl
theorem t_916 : Jvm.Cond.constant "ExactlySaid$Nat" (35 : Nat) (1000000000 : Int32) ∈ TB := cTB4 (i := 196) rfl rfl
theorem t_917 : Jvm.Cond.methodLink "ExactlySaid$Nat" (36 : Nat) ({ cls := "ExactlySaid$Nat", name := "trim", desc := "()V" } : Jvm.MethodName) ∈ TB := cTB4 (i := 197) rfl rfl
theorem t_919 : Jvm.Cond.instanceMethod ({ cls := "ExactlySaid$Nat", name := "trim", desc := "()V" } : Jvm.MethodName) ∈ TB := cTB4 (i := 199) rfl rfl
theorem t_920 : Jvm.Cond.code ({ cls := "ExactlySaid$Nat", name := "trim", desc := "()V" } : Jvm.MethodName) prog_5_method_10_code (1 : Nat) (Option.none : Option Jvm.ClassFile.FieldType) ∈ TB := cTB4 (i := 200) rfl rfl
theorem t_921 : Jvm.Cond.methodLink "ExactlySaid" (290 : Nat) ({ cls := "ExactlySaid", name := "writeDecimals", desc := "(II)V" } : Jvm.MethodName) ∈ TB := cTB4 (i := 201) rfl rfl
theorem t_923 : Jvm.Cond.instanceMethod ({ cls := "ExactlySaid", name := "writeDecimals", desc := "(II)V" } : Jvm.MethodName) ∈ TB := cTB4 (i := 203) rfl rfl
theorem t_924 : Jvm.Cond.code ({ cls := "ExactlySaid", name := "writeDecimals", desc := "(II)V" } : Jvm.MethodName) prog_1_method_32_code (4 : Nat) (Option.none : Option Jvm.ClassFile.FieldType) ∈ TB := cTB4 (i := 204) rfl rfl
theorem t_925 : Jvm.Cond.methodLinkNest "ExactlySaid" (322 : Nat) ({ cls := "ExactlySaid$Reckoner", name := "startDecimals", desc := "(LExactlySaid$Fraction;)LExactlySaid$Nat;" } : Jvm.MethodName) "ExactlySaid" ∈ TN := cTN4 (i := 205) rfl rfl
theorem t_927 : Jvm.Cond.instanceMethod ({ cls := "ExactlySaid$Reckoner", name := "startDecimals", desc := "(LExactlySaid$Fraction;)LExactlySaid$Nat;" } : Jvm.MethodName) ∈ TB := cTB4 (i := 207) rfl rfl
theorem t_928 : Jvm.Cond.code ({ cls := "ExactlySaid$Reckoner", name := "startDecimals", desc := "(LExactlySaid$Fraction;)LExactlySaid$Nat;" } : Jvm.MethodName) prog_7_method_26_code (2 : Nat) (Option.some (Jvm.ClassFile.FieldType.object "ExactlySaid$Nat")) ∈ TB := cTB4 (i := 208) rfl rfl
theorem t_929 : Jvm.Cond.methodLink "ExactlySaid$Reckoner" (133 : Nat) ({ cls := "ExactlySaid$Reckoner", name := "divide", desc := "(LExactlySaid$Nat;LExactlySaid$Nat;LExactlySaid$Nat;LExactlySaid$Nat;)V" } : Jvm.MethodName) ∈ TB := cTB4 (i := 209) rfl rfl
theorem t_931 : Jvm.Cond.instanceMethod ({ cls := "ExactlySaid$Reckoner", name := "divide", desc := "(LExactlySaid$Nat;LExactlySaid$Nat;LExactlySaid$Nat;LExactlySaid$Nat;)V" } : Jvm.MethodName) ∈ TB := cTB4 (i := 211) rfl rfl
theorem t_932 : Jvm.Cond.code ({ cls := "ExactlySaid$Reckoner", name := "divide", desc := "(LExactlySaid$Nat;LExactlySaid$Nat;LExactlySaid$Nat;LExactlySaid$Nat;)V" } : Jvm.MethodName) prog_7_method_2_code (9 : Nat) (Option.none : Option Jvm.ClassFile.FieldType) ∈ TB := cTB4 (i := 212) rfl rfl
theorem t_933 : Jvm.Cond.constant "ExactlySaid$Reckoner" (94 : Nat) (1000000000 : Int32) ∈ TB := cTB4 (i := 213) rfl rfl
theorem t_934 : Jvm.Cond.methodLink "ExactlySaid$Reckoner" (99 : Nat) ({ cls := "java/util/Arrays", name := "copyOf", desc := "([II)[I" } : Jvm.MethodName) ∈ TB := cTB4 (i := 214) rfl rfl
theorem t_935 : Jvm.Cond.methodLink "ExactlySaid$Reckoner" (105 : Nat) ({ cls := "ExactlySaid$Reckoner", name := "takeOff", desc := "([II)I" } : Jvm.MethodName) ∈ TB := cTB4 (i := 215) rfl rfl
theorem t_937 : Jvm.Cond.instanceMethod ({ cls := "ExactlySaid$Reckoner", name := "takeOff", desc := "([II)I" } : Jvm.MethodName) ∈ TB := cTB4 (i := 217) rfl rfl
theorem t_938 : Jvm.Cond.code ({ cls := "ExactlySaid$Reckoner", name := "takeOff", desc := "([II)I" } : Jvm.MethodName) prog_7_method_3_code (16 : Nat) (Option.some Jvm.ClassFile.FieldType.int) ∈ TB := cTB4 (i := 218) rfl rfl
theorem t_939 : Jvm.Cond.constantLong "ExactlySaid$Reckoner" (112 : Nat) (1000000000 : Int64) ∈ TB := cTB4 (i := 219) rfl rfl
theorem t_940 : Jvm.Cond.constantLong "ExactlySaid$Reckoner" (114 : Nat) (999999999 : Int64) ∈ TB := cTB4 (i := 220) rfl rfl
theorem t_941 : Jvm.Cond.methodLink "ExactlySaid$Reckoner" (116 : Nat) ({ cls := "java/lang/Math", name := "min", desc := "(JJ)J" } : Jvm.MethodName) ∈ TB := cTB4 (i := 221) rfl rfl
theorem t_942 : Jvm.Cond.static ({ cls := "java/lang/Math", name := "min", desc := "(JJ)J" } : Jvm.MethodName) ∈ TB := cTB4 (i := 222) rfl rfl
theorem t_943 : Jvm.Cond.code ({ cls := "java/lang/Math", name := "min", desc := "(JJ)J" } : Jvm.MethodName) prog_28_method_70_code (4 : Nat) (Option.some Jvm.ClassFile.FieldType.long) ∈ TB := cTB4 (i := 223) rfl rfl
theorem t_944 : Jvm.Cond.methodLink "ExactlySaid$Reckoner" (122 : Nat) ({ cls := "java/lang/Math", name := "floorMod", desc := "(JJ)J" } : Jvm.MethodName) ∈ TB := cTB4 (i := 224) rfl rfl
theorem t_945 : Jvm.Cond.static ({ cls := "java/lang/Math", name := "floorMod", desc := "(JJ)J" } : Jvm.MethodName) ∈ TB := cTB4 (i := 225) rfl rfl
theorem t_946 : Jvm.Cond.code ({ cls := "java/lang/Math", name := "floorMod", desc := "(JJ)J" } : Jvm.MethodName) prog_28_method_52_code (6 : Nat) (Option.some Jvm.ClassFile.FieldType.long) ∈ TB := cTB4 (i := 226) rfl rfl
theorem t_947 : Jvm.Cond.methodLinkNest "ExactlySaid$Reckoner" (109 : Nat) ({ cls := "ExactlySaid$Nat", name := "trim", desc := "()V" } : Jvm.MethodName) "ExactlySaid" ∈ TN := cTN4 (i := 227) rfl rfl
theorem t_948 : Jvm.Cond.methodLinkNest "ExactlySaid" (326 : Nat) ({ cls := "ExactlySaid$Reckoner", name := "nextDecimals", desc := "(LExactlySaid$Fraction;I)I" } : Jvm.MethodName) "ExactlySaid" ∈ TN := cTN4 (i := 228) rfl rfl
theorem t_950 : Jvm.Cond.instanceMethod ({ cls := "ExactlySaid$Reckoner", name := "nextDecimals", desc := "(LExactlySaid$Fraction;I)I" } : Jvm.MethodName) ∈ TB := cTB4 (i := 230) rfl rfl
theorem t_951 : Jvm.Cond.code ({ cls := "ExactlySaid$Reckoner", name := "nextDecimals", desc := "(LExactlySaid$Fraction;I)I" } : Jvm.MethodName) prog_7_method_27_code (3 : Nat) (Option.some Jvm.ClassFile.FieldType.int) ∈ TB := cTB4 (i := 231) rfl rfl
theorem t_952 : Jvm.Cond.fieldLink "ExactlySaid$Reckoner" (239 : Nat) "ExactlySaid$Reckoner" "TENS" "[I" ∈ TB := cTB4 (i := 232) rfl rfl
theorem t_954 : Jvm.Cond.methodLinkNest "ExactlySaid$Reckoner" (182 : Nat) ({ cls := "ExactlySaid$Nat", name := "limb", desc := "(I)I" } : Jvm.MethodName) "ExactlySaid" ∈ TN := cTN4 (i := 234) rfl rfl
theorem t_955 : Jvm.Cond.methodLink "ExactlySaidLaw" (174 : Nat) ({ cls := "ExactlySaid", name := "names", desc := "()I" } : Jvm.MethodName) ∈ TB := cTB4 (i := 235) rfl rfl
theorem t_956 : Jvm.Cond.instanceMethod ({ cls := "ExactlySaid", name := "names", desc := "()I" } : Jvm.MethodName) ∈ TB := cTB4 (i := 236) rfl rfl
theorem t_957 : Jvm.Cond.selects "ExactlySaid" ({ cls := "ExactlySaid", name := "names", desc := "()I" } : Jvm.MethodName) ({ cls := "ExactlySaid", name := "names", desc := "()I" } : Jvm.MethodName) ∈ TB := cTB4 (i := 237) rfl rfl
theorem t_958 : Jvm.Cond.code ({ cls := "ExactlySaid", name := "names", desc := "()I" } : Jvm.MethodName) prog_1_method_33_code (1 : Nat) (Option.some Jvm.ClassFile.FieldType.int) ∈ TB := cTB4 (i := 238) rfl rfl
theorem t_959 : Jvm.Cond.methodLink "ExactlySaid" (129 : Nat) ({ cls := "ExactlySaid", name := "present", desc := "()LExactlySaid$State;" } : Jvm.MethodName) ∈ TB := cTB4 (i := 239) rfl rfl
theorem t_961 : Jvm.Cond.instanceMethod ({ cls := "ExactlySaid", name := "present", desc := "()LExactlySaid$State;" } : Jvm.MethodName) ∈ TB := cTB5 (i := 1) rfl rfl
theorem t_962 : Jvm.Cond.code ({ cls := "ExactlySaid", name := "present", desc := "()LExactlySaid$State;" } : Jvm.MethodName) prog_1_method_65_code (1 : Nat) (Option.some (Jvm.ClassFile.FieldType.object "ExactlySaid$State")) ∈ TB := cTB5 (i := 2) rfl rfl
theorem t_963 : Jvm.Cond.methodLink "ExactlySaidLaw" (184 : Nat) ({ cls := "ExactlySaid", name := "functions", desc := "()I" } : Jvm.MethodName) ∈ TB := cTB5 (i := 3) rfl rfl
theorem t_964 : Jvm.Cond.instanceMethod ({ cls := "ExactlySaid", name := "functions", desc := "()I" } : Jvm.MethodName) ∈ TB := cTB5 (i := 4) rfl rfl
theorem t_965 : Jvm.Cond.selects "ExactlySaid" ({ cls := "ExactlySaid", name := "functions", desc := "()I" } : Jvm.MethodName) ({ cls := "ExactlySaid", name := "functions", desc := "()I" } : Jvm.MethodName) ∈ TB := cTB5 (i := 5) rfl rfl
theorem t_966 : Jvm.Cond.code ({ cls := "ExactlySaid", name := "functions", desc := "()I" } : Jvm.MethodName) prog_1_method_36_code (1 : Nat) (Option.some Jvm.ClassFile.FieldType.int) ∈ TB := cTB5 (i := 6) rfl rfl
theorem t_967 : Jvm.Cond.methodLink "ExactlySaidLaw" (191 : Nat) ({ cls := "ExactlySaid", name := "uses", desc := "(IZIZ)Z" } : Jvm.MethodName) ∈ TB := cTB5 (i := 7) rfl rfl
theorem t_968 : Jvm.Cond.instanceMethod ({ cls := "ExactlySaid", name := "uses", desc := "(IZIZ)Z" } : Jvm.MethodName) ∈ TB := cTB5 (i := 8) rfl rfl
theorem t_969 : Jvm.Cond.selects "ExactlySaid" ({ cls := "ExactlySaid", name := "uses", desc := "(IZIZ)Z" } : Jvm.MethodName) ({ cls := "ExactlySaid", name := "uses", desc := "(IZIZ)Z" } : Jvm.MethodName) ∈ TB := cTB5 (i := 9) rfl rfl
theorem t_970 : Jvm.Cond.code ({ cls := "ExactlySaid", name := "uses", desc := "(IZIZ)Z" } : Jvm.MethodName) prog_1_method_38_code (8 : Nat) (Option.some Jvm.ClassFile.FieldType.boolean) ∈ TB := cTB5 (i := 10) rfl rfl
theorem t_971 : Jvm.Cond.methodLinkNest "ExactlySaid" (171 : Nat) ({ cls := "ExactlySaid$Book", name := "find", desc := "(IZ)I" } : Jvm.MethodName) "ExactlySaid" ∈ TN := cTN5 (i := 11) rfl rfl
theorem t_973 : Jvm.Cond.instanceMethod ({ cls := "ExactlySaid$Book", name := "find", desc := "(IZ)I" } : Jvm.MethodName) ∈ TB := cTB5 (i := 13) rfl rfl
theorem t_974 : Jvm.Cond.code ({ cls := "ExactlySaid$Book", name := "find", desc := "(IZ)I" } : Jvm.MethodName) prog_2_method_7_code (5 : Nat) (Option.some Jvm.ClassFile.FieldType.int) ∈ TB := cTB5 (i := 14) rfl rfl
theorem t_975 : Jvm.Cond.methodLinkNest "ExactlySaid" (337 : Nat) ({ cls := "ExactlySaid$Book", name := "isUsing", desc := "(II)Z" } : Jvm.MethodName) "ExactlySaid" ∈ TN := cTN5 (i := 15) rfl rfl
theorem t_977 : Jvm.Cond.instanceMethod ({ cls := "ExactlySaid$Book", name := "isUsing", desc := "(II)Z" } : Jvm.MethodName) ∈ TB := cTB5 (i := 17) rfl rfl
theorem t_978 : Jvm.Cond.code ({ cls := "ExactlySaid$Book", name := "isUsing", desc := "(II)Z" } : Jvm.MethodName) prog_2_method_15_code (3 : Nat) (Option.some Jvm.ClassFile.FieldType.boolean) ∈ TB := cTB5 (i := 18) rfl rfl
theorem t_979 : Jvm.Cond.methodLink "ExactlySaidLaw" (196 : Nat) ({ cls := "ExactlySaid", name := "users", desc := "(IZ)I" } : Jvm.MethodName) ∈ TB := cTB5 (i := 19) rfl rfl
theorem t_980 : Jvm.Cond.instanceMethod ({ cls := "ExactlySaid", name := "users", desc := "(IZ)I" } : Jvm.MethodName) ∈ TB := cTB5 (i := 20) rfl rfl
theorem t_981 : Jvm.Cond.selects "ExactlySaid" ({ cls := "ExactlySaid", name := "users", desc := "(IZ)I" } : Jvm.MethodName) ({ cls := "ExactlySaid", name := "users", desc := "(IZ)I" } : Jvm.MethodName) ∈ TB := cTB5 (i := 21) rfl rfl
theorem t_982 : Jvm.Cond.code ({ cls := "ExactlySaid", name := "users", desc := "(IZ)I" } : Jvm.MethodName) prog_1_method_39_code (4 : Nat) (Option.some Jvm.ClassFile.FieldType.int) ∈ TB := cTB5 (i := 22) rfl rfl
theorem t_983 : Jvm.Cond.methodLinkNest "ExactlySaid" (247 : Nat) ({ cls := "ExactlySaid$Book", name := "usersOf", desc := "(I)I" } : Jvm.MethodName) "ExactlySaid" ∈ TN := cTN5 (i := 23) rfl rfl
theorem t_985 : Jvm.Cond.instanceMethod ({ cls := "ExactlySaid$Book", name := "usersOf", desc := "(I)I" } : Jvm.MethodName) ∈ TB := cTB5 (i := 25) rfl rfl
theorem t_986 : Jvm.Cond.code ({ cls := "ExactlySaid$Book", name := "usersOf", desc := "(I)I" } : Jvm.MethodName) prog_2_method_17_code (4 : Nat) (Option.some Jvm.ClassFile.FieldType.int) ∈ TB := cTB5 (i := 26) rfl rfl
theorem t_987 : Jvm.Cond.methodLink "ExactlySaid$Book" (98 : Nat) ({ cls := "ExactlySaid$Book", name := "isUsing", desc := "(II)Z" } : Jvm.MethodName) ∈ TB := cTB5 (i := 27) rfl rfl
theorem t_988 : Jvm.Cond.methodLink "ExactlySaid" (340 : Nat) ({ cls := "java/lang/Integer", name := "bitCount", desc := "(I)I" } : Jvm.MethodName) ∈ TB := cTB5 (i := 28) rfl rfl
theorem t_989 : Jvm.Cond.static ({ cls := "java/lang/Integer", name := "bitCount", desc := "(I)I" } : Jvm.MethodName) ∈ TB := cTB5 (i := 29) rfl rfl
theorem t_990 : Jvm.Cond.code ({ cls := "java/lang/Integer", name := "bitCount", desc := "(I)I" } : Jvm.MethodName) prog_27_method_49_code (1 : Nat) (Option.some Jvm.ClassFile.FieldType.int) ∈ TB := cTB5 (i := 30) rfl rfl
theorem t_991 : Jvm.Cond.constant "java/lang/Integer" (265 : Nat) (1431655765 : Int32) ∈ TB := cTB5 (i := 31) rfl rfl
theorem t_992 : Jvm.Cond.constant "java/lang/Integer" (266 : Nat) (858993459 : Int32) ∈ TB := cTB5 (i := 32) rfl rfl
theorem t_993 : Jvm.Cond.constant "java/lang/Integer" (267 : Nat) (252645135 : Int32) ∈ TB := cTB5 (i := 33) rfl rfl
theorem t_994 : Jvm.Cond.methodLink "ExactlySaidLaw" (204 : Nat) ({ cls := "ExactlySaid", name := "steps", desc := "()I" } : Jvm.MethodName) ∈ TB := cTB5 (i := 34) rfl rfl
theorem t_995 : Jvm.Cond.instanceMethod ({ cls := "ExactlySaid", name := "steps", desc := "()I" } : Jvm.MethodName) ∈ TB := cTB5 (i := 35) rfl rfl
theorem t_996 : Jvm.Cond.selects "ExactlySaid" ({ cls := "ExactlySaid", name := "steps", desc := "()I" } : Jvm.MethodName) ({ cls := "ExactlySaid", name := "steps", desc := "()I" } : Jvm.MethodName) ∈ TB := cTB5 (i := 36) rfl rfl
theorem t_997 : Jvm.Cond.code ({ cls := "ExactlySaid", name := "steps", desc := "()I" } : Jvm.MethodName) prog_1_method_43_code (1 : Nat) (Option.some Jvm.ClassFile.FieldType.int) ∈ TB := cTB5 (i := 37) rfl rfl
theorem t_998 : Jvm.Cond.methodLink "ExactlySaidLaw" (214 : Nat) ({ cls := "ExactlySaid", name := "ends", desc := "()Z" } : Jvm.MethodName) ∈ TB := cTB5 (i := 38) rfl rfl
theorem t_999 : Jvm.Cond.instanceMethod ({ cls := "ExactlySaid", name := "ends", desc := "()Z" } : Jvm.MethodName) ∈ TB := cTB5 (i := 39) rfl rfl
theorem t_1000 : Jvm.Cond.selects "ExactlySaid" ({ cls := "ExactlySaid", name := "ends", desc := "()Z" } : Jvm.MethodName) ({ cls := "ExactlySaid", name := "ends", desc := "()Z" } : Jvm.MethodName) ∈ TB := cTB5 (i := 40) rfl rfl
theorem t_1001 : Jvm.Cond.code ({ cls := "ExactlySaid", name := "ends", desc := "()Z" } : Jvm.MethodName) prog_1_method_46_code (1 : Nat) (Option.some Jvm.ClassFile.FieldType.boolean) ∈ TB := cTB5 (i := 41) rfl rfl
theorem t_1002 : Jvm.Cond.methodLink "ExactlySaidLaw" (219 : Nat) ({ cls := "ExactlySaid", name := "ahead", desc := "()I" } : Jvm.MethodName) ∈ TB := cTB5 (i := 42) rfl rfl
theorem t_1003 : Jvm.Cond.instanceMethod ({ cls := "ExactlySaid", name := "ahead", desc := "()I" } : Jvm.MethodName) ∈ TB := cTB5 (i := 43) rfl rfl
theorem t_1004 : Jvm.Cond.selects "ExactlySaid" ({ cls := "ExactlySaid", name := "ahead", desc := "()I" } : Jvm.MethodName) ({ cls := "ExactlySaid", name := "ahead", desc := "()I" } : Jvm.MethodName) ∈ TB := cTB5 (i := 44) rfl rfl
theorem t_1005 : Jvm.Cond.code ({ cls := "ExactlySaid", name := "ahead", desc := "()I" } : Jvm.MethodName) prog_1_method_47_code (1 : Nat) (Option.some Jvm.ClassFile.FieldType.int) ∈ TB := cTB5 (i := 45) rfl rfl
theorem t_1006 : Jvm.Cond.methodLink "ExactlySaidLaw" (223 : Nat) ({ cls := "ExactlySaid", name := "repeating", desc := "()I" } : Jvm.MethodName) ∈ TB := cTB5 (i := 46) rfl rfl
theorem t_1007 : Jvm.Cond.instanceMethod ({ cls := "ExactlySaid", name := "repeating", desc := "()I" } : Jvm.MethodName) ∈ TB := cTB5 (i := 47) rfl rfl
theorem t_1008 : Jvm.Cond.selects "ExactlySaid" ({ cls := "ExactlySaid", name := "repeating", desc := "()I" } : Jvm.MethodName) ({ cls := "ExactlySaid", name := "repeating", desc := "()I" } : Jvm.MethodName) ∈ TB := cTB5 (i := 48) rfl rfl
theorem t_1009 : Jvm.Cond.code ({ cls := "ExactlySaid", name := "repeating", desc := "()I" } : Jvm.MethodName) prog_1_method_48_code (1 : Nat) (Option.some Jvm.ClassFile.FieldType.int) ∈ TB := cTB5 (i := 49) rfl rfl
theorem t_1010 : Jvm.Cond.methodLink "ExactlySaidLaw" (230 : Nat) ({ cls := "ExactlySaid", name := "continued", desc := "()I" } : Jvm.MethodName) ∈ TB := cTB5 (i := 50) rfl rfl
theorem t_1011 : Jvm.Cond.instanceMethod ({ cls := "ExactlySaid", name := "continued", desc := "()I" } : Jvm.MethodName) ∈ TB := cTB5 (i := 51) rfl rfl
theorem t_1012 : Jvm.Cond.selects "ExactlySaid" ({ cls := "ExactlySaid", name := "continued", desc := "()I" } : Jvm.MethodName) ({ cls := "ExactlySaid", name := "continued", desc := "()I" } : Jvm.MethodName) ∈ TB := cTB5 (i := 52) rfl rfl
theorem t_1013 : Jvm.Cond.code ({ cls := "ExactlySaid", name := "continued", desc := "()I" } : Jvm.MethodName) prog_1_method_50_code (1 : Nat) (Option.some Jvm.ClassFile.FieldType.int) ∈ TB := cTB5 (i := 53) rfl rfl
theorem t_1014 : Jvm.Cond.methodLinkNest "ExactlySaid" (366 : Nat) ({ cls := "ExactlySaid$Reckoner", name := "continuedForm", desc := "(LExactlySaid$Fraction;I)I" } : Jvm.MethodName) "ExactlySaid" ∈ TN := cTN5 (i := 54) rfl rfl
theorem t_1016 : Jvm.Cond.instanceMethod ({ cls := "ExactlySaid$Reckoner", name := "continuedForm", desc := "(LExactlySaid$Fraction;I)I" } : Jvm.MethodName) ∈ TB := cTB5 (i := 56) rfl rfl
theorem t_1017 : Jvm.Cond.code ({ cls := "ExactlySaid$Reckoner", name := "continuedForm", desc := "(LExactlySaid$Fraction;I)I" } : Jvm.MethodName) prog_7_method_29_code (7 : Nat) (Option.some Jvm.ClassFile.FieldType.int) ∈ TB := cTB5 (i := 57) rfl rfl
theorem t_1018 : Jvm.Cond.methodLink "ExactlySaid$Reckoner" (242 : Nat) ({ cls := "ExactlySaid$Reckoner", name := "round", desc := "(LExactlySaid$Fraction;ILExactlySaid$Fraction;)V" } : Jvm.MethodName) ∈ TB := cTB5 (i := 58) rfl rfl
theorem t_1020 : Jvm.Cond.instanceMethod ({ cls := "ExactlySaid$Reckoner", name := "round", desc := "(LExactlySaid$Fraction;ILExactlySaid$Fraction;)V" } : Jvm.MethodName) ∈ TB := cTB5 (i := 60) rfl rfl
theorem t_1021 : Jvm.Cond.code ({ cls := "ExactlySaid$Reckoner", name := "round", desc := "(LExactlySaid$Fraction;ILExactlySaid$Fraction;)V" } : Jvm.MethodName) prog_7_method_15_code (6 : Nat) (Option.none : Option Jvm.ClassFile.FieldType) ∈ TB := cTB5 (i := 61) rfl rfl
theorem t_1022 : Jvm.Cond.methodLinkNest "ExactlySaid$Reckoner" (130 : Nat) ({ cls := "ExactlySaid$Nat", name := "isZero", desc := "()Z" } : Jvm.MethodName) "ExactlySaid" ∈ TN := cTN5 (i := 62) rfl rfl
theorem t_1024 : Jvm.Cond.instanceMethod ({ cls := "ExactlySaid$Nat", name := "isZero", desc := "()Z" } : Jvm.MethodName) ∈ TB := cTB5 (i := 64) rfl rfl
theorem t_1025 : Jvm.Cond.code ({ cls := "ExactlySaid$Nat", name := "isZero", desc := "()Z" } : Jvm.MethodName) prog_5_method_2_code (1 : Nat) (Option.some Jvm.ClassFile.FieldType.boolean) ∈ TB := cTB5 (i := 65) rfl rfl
theorem t_1026 : Jvm.Cond.methodLinkNest "ExactlySaid$Reckoner" (154 : Nat) ({ cls := "ExactlySaid$Fraction", name := "setSign", desc := "(I)V" } : Jvm.MethodName) "ExactlySaid" ∈ TN := cTN5 (i := 66) rfl rfl
theorem t_1028 : Jvm.Cond.instanceMethod ({ cls := "ExactlySaid$Fraction", name := "setSign", desc := "(I)V" } : Jvm.MethodName) ∈ TB := cTB5 (i := 68) rfl rfl
theorem t_1029 : Jvm.Cond.code ({ cls := "ExactlySaid$Fraction", name := "setSign", desc := "(I)V" } : Jvm.MethodName) prog_3_method_4_code (2 : Nat) (Option.none : Option Jvm.ClassFile.FieldType) ∈ TB := cTB5 (i := 69) rfl rfl
theorem t_1030 : Jvm.Cond.methodLinkNest "ExactlySaid$Fraction" (34 : Nat) ({ cls := "ExactlySaid$Nat", name := "isZero", desc := "()Z" } : Jvm.MethodName) "ExactlySaid" ∈ TN := cTN5 (i := 70) rfl rfl
theorem t_1031 : Jvm.Cond.methodLink "ExactlySaid$Reckoner" (246 : Nat) ({ cls := "ExactlySaid$Reckoner", name := "setAboveFloor", desc := "(LExactlySaid$Fraction;)V" } : Jvm.MethodName) ∈ TB := cTB5 (i := 71) rfl rfl
theorem t_1033 : Jvm.Cond.instanceMethod ({ cls := "ExactlySaid$Reckoner", name := "setAboveFloor", desc := "(LExactlySaid$Fraction;)V" } : Jvm.MethodName) ∈ TB := cTB5 (i := 73) rfl rfl
theorem t_1034 : Jvm.Cond.code ({ cls := "ExactlySaid$Reckoner", name := "setAboveFloor", desc := "(LExactlySaid$Fraction;)V" } : Jvm.MethodName) prog_7_method_28_code (2 : Nat) (Option.none : Option Jvm.ClassFile.FieldType) ∈ TB := cTB5 (i := 74) rfl rfl
theorem t_1035 : Jvm.Cond.constant "ExactlySaid$Reckoner" (125 : Nat) (1000000 : Int32) ∈ TB := cTB5 (i := 75) rfl rfl
theorem t_1036 : Jvm.Cond.methodLink "ExactlySaidLaw" (240 : Nat) ({ cls := "ExactlySaid", name := "units", desc := "()I" } : Jvm.MethodName) ∈ TB := cTB5 (i := 76) rfl rfl
theorem t_1037 : Jvm.Cond.instanceMethod ({ cls := "ExactlySaid", name := "units", desc := "()I" } : Jvm.MethodName) ∈ TB := cTB5 (i := 77) rfl rfl
theorem t_1038 : Jvm.Cond.selects "ExactlySaid" ({ cls := "ExactlySaid", name := "units", desc := "()I" } : Jvm.MethodName) ({ cls := "ExactlySaid", name := "units", desc := "()I" } : Jvm.MethodName) ∈ TB := cTB5 (i := 78) rfl rfl
theorem t_1039 : Jvm.Cond.code ({ cls := "ExactlySaid", name := "units", desc := "()I" } : Jvm.MethodName) prog_1_method_53_code (1 : Nat) (Option.some Jvm.ClassFile.FieldType.int) ∈ TB := cTB5 (i := 79) rfl rfl
theorem t_1040 : Jvm.Cond.methodLinkNest "ExactlySaid" (375 : Nat) ({ cls := "ExactlySaid$Reckoner", name := "unitFractions", desc := "(LExactlySaid$Fraction;I)I" } : Jvm.MethodName) "ExactlySaid" ∈ TN := cTN5 (i := 80) rfl rfl
theorem t_1042 : Jvm.Cond.instanceMethod ({ cls := "ExactlySaid$Reckoner", name := "unitFractions", desc := "(LExactlySaid$Fraction;I)I" } : Jvm.MethodName) ∈ TB := cTB5 (i := 82) rfl rfl
theorem t_1043 : Jvm.Cond.code ({ cls := "ExactlySaid$Reckoner", name := "unitFractions", desc := "(LExactlySaid$Fraction;I)I" } : Jvm.MethodName) prog_7_method_32_code (7 : Nat) (Option.some Jvm.ClassFile.FieldType.int) ∈ TB := cTB5 (i := 83) rfl rfl
theorem t_1044 : Jvm.Cond.methodLinkNest "ExactlySaid$Reckoner" (214 : Nat) ({ cls := "ExactlySaid$Fraction", name := "setTo", desc := "(LExactlySaid$Fraction;)V" } : Jvm.MethodName) "ExactlySaid" ∈ TN := cTN5 (i := 84) rfl rfl
theorem t_1046 : Jvm.Cond.instanceMethod ({ cls := "ExactlySaid$Fraction", name := "setTo", desc := "(LExactlySaid$Fraction;)V" } : Jvm.MethodName) ∈ TB := cTB5 (i := 86) rfl rfl
theorem t_1047 : Jvm.Cond.code ({ cls := "ExactlySaid$Fraction", name := "setTo", desc := "(LExactlySaid$Fraction;)V" } : Jvm.MethodName) prog_3_method_3_code (2 : Nat) (Option.none : Option Jvm.ClassFile.FieldType) ∈ TB := cTB5 (i := 87) rfl rfl
theorem t_1048 : Jvm.Cond.methodLinkNest "ExactlySaid$Fraction" (31 : Nat) ({ cls := "ExactlySaid$Nat", name := "setTo", desc := "(LExactlySaid$Nat;)V" } : Jvm.MethodName) "ExactlySaid" ∈ TN := cTN5 (i := 88) rfl rfl
theorem t_1049 : Jvm.Cond.methodLink "ExactlySaid$Reckoner" (206 : Nat) ({ cls := "ExactlySaid$Reckoner", name := "add", desc := "(LExactlySaid$Fraction;LExactlySaid$Fraction;ZLExactlySaid$Fraction;)V" } : Jvm.MethodName) ∈ TB := cTB5 (i := 89) rfl rfl
theorem t_1051 : Jvm.Cond.instanceMethod ({ cls := "ExactlySaid$Reckoner", name := "add", desc := "(LExactlySaid$Fraction;LExactlySaid$Fraction;ZLExactlySaid$Fraction;)V" } : Jvm.MethodName) ∈ TB := cTB5 (i := 91) rfl rfl
theorem t_1052 : Jvm.Cond.code ({ cls := "ExactlySaid$Reckoner", name := "add", desc := "(LExactlySaid$Fraction;LExactlySaid$Fraction;ZLExactlySaid$Fraction;)V" } : Jvm.MethodName) prog_7_method_7_code (5 : Nat) (Option.none : Option Jvm.ClassFile.FieldType) ∈ TB := cTB5 (i := 92) rfl rfl
theorem t_1053 : Jvm.Cond.methodLink "ExactlySaid$Reckoner" (147 : Nat) ({ cls := "ExactlySaid$Reckoner", name := "gcd", desc := "(LExactlySaid$Nat;LExactlySaid$Nat;LExactlySaid$Nat;)V" } : Jvm.MethodName) ∈ TB := cTB5 (i := 93) rfl rfl
theorem t_1055 : Jvm.Cond.instanceMethod ({ cls := "ExactlySaid$Reckoner", name := "gcd", desc := "(LExactlySaid$Nat;LExactlySaid$Nat;LExactlySaid$Nat;)V" } : Jvm.MethodName) ∈ TB := cTB5 (i := 95) rfl rfl
theorem t_1056 : Jvm.Cond.code ({ cls := "ExactlySaid$Reckoner", name := "gcd", desc := "(LExactlySaid$Nat;LExactlySaid$Nat;LExactlySaid$Nat;)V" } : Jvm.MethodName) prog_7_method_4_code (13 : Nat) (Option.none : Option Jvm.ClassFile.FieldType) ∈ TB := cTB5 (i := 96) rfl rfl
theorem t_1057 : Jvm.Cond.methodLinkNest "ExactlySaid$Reckoner" (161 : Nat) ({ cls := "ExactlySaid$Nat", name := "setProduct", desc := "(LExactlySaid$Nat;LExactlySaid$Nat;)V" } : Jvm.MethodName) "ExactlySaid" ∈ TN := cTN5 (i := 97) rfl rfl
theorem t_1059 : Jvm.Cond.instanceMethod ({ cls := "ExactlySaid$Nat", name := "setProduct", desc := "(LExactlySaid$Nat;LExactlySaid$Nat;)V" } : Jvm.MethodName) ∈ TB := cTB5 (i := 99) rfl rfl
theorem t_1060 : Jvm.Cond.code ({ cls := "ExactlySaid$Nat", name := "setProduct", desc := "(LExactlySaid$Nat;LExactlySaid$Nat;)V" } : Jvm.MethodName) prog_5_method_17_code (8 : Nat) (Option.none : Option Jvm.ClassFile.FieldType) ∈ TB := cTB5 (i := 100) rfl rfl
theorem t_1061 : Jvm.Cond.methodLink "ExactlySaid$Reckoner" (168 : Nat) ({ cls := "ExactlySaid$Reckoner", name := "join", desc := "(IILExactlySaid$Fraction;)V" } : Jvm.MethodName) ∈ TB := cTB5 (i := 101) rfl rfl
theorem t_1063 : Jvm.Cond.instanceMethod ({ cls := "ExactlySaid$Reckoner", name := "join", desc := "(IILExactlySaid$Fraction;)V" } : Jvm.MethodName) ∈ TB := cTB5 (i := 103) rfl rfl
theorem t_1064 : Jvm.Cond.code ({ cls := "ExactlySaid$Reckoner", name := "join", desc := "(IILExactlySaid$Fraction;)V" } : Jvm.MethodName) prog_7_method_6_code (5 : Nat) (Option.none : Option Jvm.ClassFile.FieldType) ∈ TB := cTB5 (i := 104) rfl rfl
theorem t_1065 : Jvm.Cond.methodLinkNest "ExactlySaid$Reckoner" (151 : Nat) ({ cls := "ExactlySaid$Nat", name := "plus", desc := "(LExactlySaid$Nat;)V" } : Jvm.MethodName) "ExactlySaid" ∈ TN := cTN5 (i := 105) rfl rfl
theorem t_1067 : Jvm.Cond.instanceMethod ({ cls := "ExactlySaid$Nat", name := "plus", desc := "(LExactlySaid$Nat;)V" } : Jvm.MethodName) ∈ TB := cTB5 (i := 107) rfl rfl
theorem t_1068 : Jvm.Cond.code ({ cls := "ExactlySaid$Nat", name := "plus", desc := "(LExactlySaid$Nat;)V" } : Jvm.MethodName) prog_5_method_13_code (6 : Nat) (Option.none : Option Jvm.ClassFile.FieldType) ∈ TB := cTB5 (i := 108) rfl rfl
theorem t_1069 : Jvm.Cond.methodLink "ExactlySaid$Nat" (19 : Nat) ({ cls := "java/lang/Math", name := "max", desc := "(II)I" } : Jvm.MethodName) ∈ TB := cTB5 (i := 109) rfl rfl
theorem t_1070 : Jvm.Cond.methodLinkNest "ExactlySaid$Reckoner" (252 : Nat) ({ cls := "ExactlySaid$Fraction", name := "fits", desc := "()Z" } : Jvm.MethodName) "ExactlySaid" ∈ TN := cTN5 (i := 110) rfl rfl
theorem t_1072 : Jvm.Cond.instanceMethod ({ cls := "ExactlySaid$Fraction", name := "fits", desc := "()Z" } : Jvm.MethodName) ∈ TB := cTB5 (i := 112) rfl rfl
theorem t_1073 : Jvm.Cond.code ({ cls := "ExactlySaid$Fraction", name := "fits", desc := "()Z" } : Jvm.MethodName) prog_3_method_6_code (1 : Nat) (Option.some Jvm.ClassFile.FieldType.boolean) ∈ TB := cTB5 (i := 113) rfl rfl
theorem t_1074 : Jvm.Cond.methodLinkNest "ExactlySaid$Fraction" (42 : Nat) ({ cls := "ExactlySaid$Nat", name := "fits", desc := "()Z" } : Jvm.MethodName) "ExactlySaid" ∈ TN := cTN5 (i := 114) rfl rfl
theorem t_1076 : Jvm.Cond.instanceMethod ({ cls := "ExactlySaid$Nat", name := "fits", desc := "()Z" } : Jvm.MethodName) ∈ TB := cTB5 (i := 116) rfl rfl
theorem t_1077 : Jvm.Cond.code ({ cls := "ExactlySaid$Nat", name := "fits", desc := "()Z" } : Jvm.MethodName) prog_5_method_4_code (1 : Nat) (Option.some Jvm.ClassFile.FieldType.boolean) ∈ TB := cTB5 (i := 117) rfl rfl
theorem t_1078 : Jvm.Cond.methodLink "ExactlySaidLaw" (268 : Nat) ({ cls := "ExactlySaid", name := "undo", desc := "()I" } : Jvm.MethodName) ∈ TB := cTB5 (i := 118) rfl rfl
theorem t_1079 : Jvm.Cond.instanceMethod ({ cls := "ExactlySaid", name := "undo", desc := "()I" } : Jvm.MethodName) ∈ TB := cTB5 (i := 119) rfl rfl
theorem t_1080 : Jvm.Cond.selects "ExactlySaid" ({ cls := "ExactlySaid", name := "undo", desc := "()I" } : Jvm.MethodName) ({ cls := "ExactlySaid", name := "undo", desc := "()I" } : Jvm.MethodName) ∈ TB := cTB5 (i := 120) rfl rfl
theorem t_1081 : Jvm.Cond.code ({ cls := "ExactlySaid", name := "undo", desc := "()I" } : Jvm.MethodName) prog_1_method_63_code (1 : Nat) (Option.some Jvm.ClassFile.FieldType.int) ∈ TB := cTB5 (i := 121) rfl rfl
theorem t_1082 : Jvm.Cond.methodLink "ExactlySaidLaw" (272 : Nat) ({ cls := "ExactlySaid", name := "redo", desc := "()I" } : Jvm.MethodName) ∈ TB := cTB5 (i := 122) rfl rfl
theorem t_1083 : Jvm.Cond.instanceMethod ({ cls := "ExactlySaid", name := "redo", desc := "()I" } : Jvm.MethodName) ∈ TB := cTB5 (i := 123) rfl rfl
theorem t_1084 : Jvm.Cond.selects "ExactlySaid" ({ cls := "ExactlySaid", name := "redo", desc := "()I" } : Jvm.MethodName) ({ cls := "ExactlySaid", name := "redo", desc := "()I" } : Jvm.MethodName) ∈ TB := cTB5 (i := 124) rfl rfl
theorem t_1085 : Jvm.Cond.code ({ cls := "ExactlySaid", name := "redo", desc := "()I" } : Jvm.MethodName) prog_1_method_64_code (1 : Nat) (Option.some Jvm.ClassFile.FieldType.int) ∈ TB := cTB5 (i := 125) rfl rfl
theorem t_1086 : Jvm.Cond.methodLink "ExactlySaidLaw" (276 : Nat) ({ cls := "ExactlySaid", name := "meanDigits", desc := "()D" } : Jvm.MethodName) ∈ TB := cTB5 (i := 126) rfl rfl
theorem t_1087 : Jvm.Cond.instanceMethod ({ cls := "ExactlySaid", name := "meanDigits", desc := "()D" } : Jvm.MethodName) ∈ TB := cTB5 (i := 127) rfl rfl
theorem t_1088 : Jvm.Cond.selects "ExactlySaid" ({ cls := "ExactlySaid", name := "meanDigits", desc := "()D" } : Jvm.MethodName) ({ cls := "ExactlySaid", name := "meanDigits", desc := "()D" } : Jvm.MethodName) ∈ TB := cTB5 (i := 128) rfl rfl
theorem t_1089 : Jvm.Cond.code ({ cls := "ExactlySaid", name := "meanDigits", desc := "()D" } : Jvm.MethodName) prog_1_method_67_code (4 : Nat) (Option.some Jvm.ClassFile.FieldType.double) ∈ TB := cTB5 (i := 129) rfl rfl
theorem t_1090 : Jvm.Cond.methodLink "ExactlySaidLaw" (281 : Nat) ({ cls := "ExactlySaid", name := "wholes", desc := "()F" } : Jvm.MethodName) ∈ TB := cTB5 (i := 130) rfl rfl
theorem t_1091 : Jvm.Cond.instanceMethod ({ cls := "ExactlySaid", name := "wholes", desc := "()F" } : Jvm.MethodName) ∈ TB := cTB5 (i := 131) rfl rfl
theorem t_1092 : Jvm.Cond.selects "ExactlySaid" ({ cls := "ExactlySaid", name := "wholes", desc := "()F" } : Jvm.MethodName) ({ cls := "ExactlySaid", name := "wholes", desc := "()F" } : Jvm.MethodName) ∈ TB := cTB5 (i := 132) rfl rfl
theorem t_1093 : Jvm.Cond.code ({ cls := "ExactlySaid", name := "wholes", desc := "()F" } : Jvm.MethodName) prog_1_method_68_code (3 : Nat) (Option.some Jvm.ClassFile.FieldType.float) ∈ TB := cTB5 (i := 133) rfl rfl
theorem t_1094 : Jvm.Cond.constantFloat "ExactlySaid" (423 : Nat) (1092616192 : UInt32) ∈ TB := cTB5 (i := 134) rfl rfl
theorem t_1095 : Jvm.Cond.methodLink "ExactlySaidLaw" (286 : Nat) ({ cls := "ExactlySaid", name := "errors", desc := "()I" } : Jvm.MethodName) ∈ TB := cTB5 (i := 135) rfl rfl
theorem t_1096 : Jvm.Cond.instanceMethod ({ cls := "ExactlySaid", name := "errors", desc := "()I" } : Jvm.MethodName) ∈ TB := cTB5 (i := 136) rfl rfl
theorem t_1097 : Jvm.Cond.selects "ExactlySaid" ({ cls := "ExactlySaid", name := "errors", desc := "()I" } : Jvm.MethodName) ({ cls := "ExactlySaid", name := "errors", desc := "()I" } : Jvm.MethodName) ∈ TB := cTB5 (i := 137) rfl rfl
theorem t_1098 : Jvm.Cond.code ({ cls := "ExactlySaid", name := "errors", desc := "()I" } : Jvm.MethodName) prog_1_method_69_code (1 : Nat) (Option.some Jvm.ClassFile.FieldType.int) ∈ TB := cTB5 (i := 138) rfl rfl
theorem t_1099 : Jvm.Cond.methodLink "ExactlySaid" (424 : Nat) ({ cls := "ExactlySaid", name := "wrongNames", desc := "()I" } : Jvm.MethodName) ∈ TB := cTB5 (i := 139) rfl rfl
theorem t_1101 : Jvm.Cond.instanceMethod ({ cls := "ExactlySaid", name := "wrongNames", desc := "()I" } : Jvm.MethodName) ∈ TB := cTB5 (i := 141) rfl rfl
theorem t_1102 : Jvm.Cond.code ({ cls := "ExactlySaid", name := "wrongNames", desc := "()I" } : Jvm.MethodName) prog_1_method_70_code (5 : Nat) (Option.some Jvm.ClassFile.FieldType.int) ∈ TB := cTB5 (i := 142) rfl rfl
theorem t_1103 : Jvm.Cond.methodLinkNest "ExactlySaid" (230 : Nat) ({ cls := "ExactlySaid$Machine", name := "work", desc := "(LExactlySaid$Sum;LExactlySaid$Book;LExactlySaid$Steps;LExactlySaid$Reckoner;)I" } : Jvm.MethodName) "ExactlySaid" ∈ TN := cTN5 (i := 143) rfl rfl
theorem t_1105 : Jvm.Cond.instanceMethod ({ cls := "ExactlySaid$Machine", name := "work", desc := "(LExactlySaid$Sum;LExactlySaid$Book;LExactlySaid$Steps;LExactlySaid$Reckoner;)I" } : Jvm.MethodName) ∈ TB := cTB5 (i := 145) rfl rfl
theorem t_1106 : Jvm.Cond.code ({ cls := "ExactlySaid$Machine", name := "work", desc := "(LExactlySaid$Sum;LExactlySaid$Book;LExactlySaid$Steps;LExactlySaid$Reckoner;)I" } : Jvm.MethodName) prog_4_method_2_code (10 : Nat) (Option.some Jvm.ClassFile.FieldType.int) ∈ TB := cTB5 (i := 146) rfl rfl
theorem t_1107 : Jvm.Cond.methodLink "ExactlySaid$Machine" (45 : Nat) ({ cls := "ExactlySaid$Machine", name := "begin", desc := "(LExactlySaid$Sum;I)V" } : Jvm.MethodName) ∈ TB := cTB5 (i := 147) rfl rfl
theorem t_1109 : Jvm.Cond.instanceMethod ({ cls := "ExactlySaid$Machine", name := "begin", desc := "(LExactlySaid$Sum;I)V" } : Jvm.MethodName) ∈ TB := cTB5 (i := 149) rfl rfl
theorem t_1110 : Jvm.Cond.code ({ cls := "ExactlySaid$Machine", name := "begin", desc := "(LExactlySaid$Sum;I)V" } : Jvm.MethodName) prog_4_method_3_code (3 : Nat) (Option.none : Option Jvm.ClassFile.FieldType) ∈ TB := cTB5 (i := 150) rfl rfl
theorem t_1111 : Jvm.Cond.constant "ExactlySaid$Machine" (49 : Nat) (1000000 : Int32) ∈ TB := cTB5 (i := 151) rfl rfl
theorem t_1112 : Jvm.Cond.methodLink "ExactlySaid$Machine" (53 : Nat) ({ cls := "ExactlySaid$Machine", name := "leave", desc := "(LExactlySaid$Steps;)I" } : Jvm.MethodName) ∈ TB := cTB5 (i := 152) rfl rfl
theorem t_1114 : Jvm.Cond.instanceMethod ({ cls := "ExactlySaid$Machine", name := "leave", desc := "(LExactlySaid$Steps;)I" } : Jvm.MethodName) ∈ TB := cTB5 (i := 154) rfl rfl
theorem t_1115 : Jvm.Cond.code ({ cls := "ExactlySaid$Machine", name := "leave", desc := "(LExactlySaid$Steps;)I" } : Jvm.MethodName) prog_4_method_7_code (3 : Nat) (Option.some Jvm.ClassFile.FieldType.int) ∈ TB := cTB5 (i := 155) rfl rfl
theorem t_1116 : Jvm.Cond.methodLink "ExactlySaid$Machine" (103 : Nat) ({ cls := "ExactlySaid$Machine", name := "finish", desc := "(IILExactlySaid$Steps;)I" } : Jvm.MethodName) ∈ TB := cTB5 (i := 156) rfl rfl
theorem t_1118 : Jvm.Cond.instanceMethod ({ cls := "ExactlySaid$Machine", name := "finish", desc := "(IILExactlySaid$Steps;)I" } : Jvm.MethodName) ∈ TB := cTB5 (i := 158) rfl rfl
theorem t_1119 : Jvm.Cond.code ({ cls := "ExactlySaid$Machine", name := "finish", desc := "(IILExactlySaid$Steps;)I" } : Jvm.MethodName) prog_4_method_8_code (4 : Nat) (Option.some Jvm.ClassFile.FieldType.int) ∈ TB := cTB5 (i := 159) rfl rfl
theorem t_1120 : Jvm.Cond.methodLinkNest "ExactlySaid$Machine" (126 : Nat) ({ cls := "ExactlySaid$Steps", name := "note", desc := "(ILExactlySaid$Fraction;)V" } : Jvm.MethodName) "ExactlySaid" ∈ TN := cTN5 (i := 160) rfl rfl
theorem t_1122 : Jvm.Cond.instanceMethod ({ cls := "ExactlySaid$Steps", name := "note", desc := "(ILExactlySaid$Fraction;)V" } : Jvm.MethodName) ∈ TB := cTB5 (i := 162) rfl rfl
theorem t_1123 : Jvm.Cond.code ({ cls := "ExactlySaid$Steps", name := "note", desc := "(ILExactlySaid$Fraction;)V" } : Jvm.MethodName) prog_10_method_2_code (3 : Nat) (Option.none : Option Jvm.ClassFile.FieldType) ∈ TB := cTB5 (i := 163) rfl rfl
theorem t_1124 : Jvm.Cond.methodLinkNest "ExactlySaid$Steps" (25 : Nat) ({ cls := "ExactlySaid$Fraction", name := "<init>", desc := "()V" } : Jvm.MethodName) "ExactlySaid" ∈ TN := cTN5 (i := 164) rfl rfl
theorem t_1125 : Jvm.Cond.methodLinkNest "ExactlySaid$Steps" (26 : Nat) ({ cls := "ExactlySaid$Fraction", name := "setTo", desc := "(LExactlySaid$Fraction;)V" } : Jvm.MethodName) "ExactlySaid" ∈ TN := cTN5 (i := 165) rfl rfl
theorem t_1126 : Jvm.Cond.methodLink "ExactlySaid$Machine" (84 : Nat) ({ cls := "ExactlySaid$Machine", name := "push", desc := "(LExactlySaid$Fraction;)I" } : Jvm.MethodName) ∈ TB := cTB5 (i := 166) rfl rfl
theorem t_1128 : Jvm.Cond.instanceMethod ({ cls := "ExactlySaid$Machine", name := "push", desc := "(LExactlySaid$Fraction;)I" } : Jvm.MethodName) ∈ TB := cTB5 (i := 168) rfl rfl
theorem t_1129 : Jvm.Cond.code ({ cls := "ExactlySaid$Machine", name := "push", desc := "(LExactlySaid$Fraction;)I" } : Jvm.MethodName) prog_4_method_5_code (2 : Nat) (Option.some Jvm.ClassFile.FieldType.int) ∈ TB := cTB5 (i := 169) rfl rfl
theorem t_1130 : Jvm.Cond.methodLinkNest "ExactlySaid$Machine" (115 : Nat) ({ cls := "ExactlySaid$Fraction", name := "setTo", desc := "(LExactlySaid$Fraction;)V" } : Jvm.MethodName) "ExactlySaid" ∈ TN := cTN5 (i := 170) rfl rfl
theorem t_1131 : Jvm.Cond.methodLinkNest "ExactlySaid$Machine" (66 : Nat) ({ cls := "ExactlySaid$Book", name := "find", desc := "(IZ)I" } : Jvm.MethodName) "ExactlySaid" ∈ TN := cTN5 (i := 171) rfl rfl
theorem t_1132 : Jvm.Cond.methodLinkNest "ExactlySaid$Machine" (72 : Nat) ({ cls := "ExactlySaid$Book", name := "toldAt", desc := "(I)LExactlySaid$Told;" } : Jvm.MethodName) "ExactlySaid" ∈ TN := cTN5 (i := 172) rfl rfl
theorem t_1134 : Jvm.Cond.instanceMethod ({ cls := "ExactlySaid$Book", name := "toldAt", desc := "(I)LExactlySaid$Told;" } : Jvm.MethodName) ∈ TB := cTB5 (i := 174) rfl rfl
theorem t_1135 : Jvm.Cond.code ({ cls := "ExactlySaid$Book", name := "toldAt", desc := "(I)LExactlySaid$Told;" } : Jvm.MethodName) prog_2_method_8_code (2 : Nat) (Option.some (Jvm.ClassFile.FieldType.object "ExactlySaid$Told")) ∈ TB := cTB5 (i := 175) rfl rfl
theorem t_1136 : Jvm.Cond.methodLink "ExactlySaid$Machine" (76 : Nat) ({ cls := "ExactlySaid$Machine", name := "enter", desc := "(LExactlySaid$Told;)I" } : Jvm.MethodName) ∈ TB := cTB5 (i := 176) rfl rfl
theorem t_1138 : Jvm.Cond.instanceMethod ({ cls := "ExactlySaid$Machine", name := "enter", desc := "(LExactlySaid$Told;)I" } : Jvm.MethodName) ∈ TB := cTB5 (i := 178) rfl rfl
theorem t_1139 : Jvm.Cond.code ({ cls := "ExactlySaid$Machine", name := "enter", desc := "(LExactlySaid$Told;)I" } : Jvm.MethodName) prog_4_method_6_code (2 : Nat) (Option.some Jvm.ClassFile.FieldType.int) ∈ TB := cTB5 (i := 179) rfl rfl
theorem t_1140 : Jvm.Cond.methodLink "ExactlySaid$Machine" (80 : Nat) ({ cls := "ExactlySaid$Machine", name := "valueAt", desc := "(LExactlySaid$Sum;ILExactlySaid$Book;)LExactlySaid$Fraction;" } : Jvm.MethodName) ∈ TB := cTB5 (i := 180) rfl rfl
theorem t_1142 : Jvm.Cond.instanceMethod ({ cls := "ExactlySaid$Machine", name := "valueAt", desc := "(LExactlySaid$Sum;ILExactlySaid$Book;)LExactlySaid$Fraction;" } : Jvm.MethodName) ∈ TB := cTB5 (i := 182) rfl rfl
theorem t_1143 : Jvm.Cond.code ({ cls := "ExactlySaid$Machine", name := "valueAt", desc := "(LExactlySaid$Sum;ILExactlySaid$Book;)LExactlySaid$Fraction;" } : Jvm.MethodName) prog_4_method_4_code (6 : Nat) (Option.some (Jvm.ClassFile.FieldType.object "ExactlySaid$Fraction")) ∈ TB := cTB5 (i := 183) rfl rfl
theorem t_1144 : Jvm.Cond.methodLink "ExactlySaid$Machine" (88 : Nat) ({ cls := "ExactlySaid$Machine", name := "objection", desc := "(I)I" } : Jvm.MethodName) ∈ TB := cTB5 (i := 184) rfl rfl
theorem t_1146 : Jvm.Cond.instanceMethod ({ cls := "ExactlySaid$Machine", name := "objection", desc := "(I)I" } : Jvm.MethodName) ∈ TB := cTB5 (i := 186) rfl rfl
theorem t_1147 : Jvm.Cond.code ({ cls := "ExactlySaid$Machine", name := "objection", desc := "(I)I" } : Jvm.MethodName) prog_4_method_9_code (4 : Nat) (Option.some Jvm.ClassFile.FieldType.int) ∈ TB := cTB5 (i := 187) rfl rfl
theorem t_1148 : Jvm.Cond.methodLinkNest "ExactlySaid$Machine" (92 : Nat) ({ cls := "ExactlySaid", name := "valuesOf", desc := "(I)I" } : Jvm.MethodName) "ExactlySaid" ∈ TN := cTN5 (i := 188) rfl rfl
theorem t_1149 : Jvm.Cond.static ({ cls := "ExactlySaid", name := "valuesOf", desc := "(I)I" } : Jvm.MethodName) ∈ TB := cTB5 (i := 189) rfl rfl
theorem t_1150 : Jvm.Cond.code ({ cls := "ExactlySaid", name := "valuesOf", desc := "(I)I" } : Jvm.MethodName) prog_1_method_42_code (1 : Nat) (Option.some Jvm.ClassFile.FieldType.int) ∈ TB := cTB5 (i := 190) rfl rfl
theorem t_1151 : Jvm.Cond.methodLinkNest "ExactlySaid$Machine" (135 : Nat) ({ cls := "ExactlySaid$Fraction", name := "isWhole", desc := "()Z" } : Jvm.MethodName) "ExactlySaid" ∈ TN := cTN5 (i := 191) rfl rfl
theorem t_1152 : Jvm.Cond.methodLinkNest "ExactlySaid$Machine" (147 : Nat) ({ cls := "ExactlySaid$Nat", name := "limb", desc := "(I)I" } : Jvm.MethodName) "ExactlySaid" ∈ TN := cTN5 (i := 192) rfl rfl
theorem t_1153 : Jvm.Cond.methodLink "ExactlySaid$Machine" (95 : Nat) ({ cls := "ExactlySaid$Machine", name := "calculate", desc := "(ILExactlySaid$Fraction;LExactlySaid$Fraction;LExactlySaid$Reckoner;)V" } : Jvm.MethodName) ∈ TB := cTB5 (i := 193) rfl rfl
theorem t_1155 : Jvm.Cond.instanceMethod ({ cls := "ExactlySaid$Machine", name := "calculate", desc := "(ILExactlySaid$Fraction;LExactlySaid$Fraction;LExactlySaid$Reckoner;)V" } : Jvm.MethodName) ∈ TB := cTB5 (i := 195) rfl rfl
theorem t_1156 : Jvm.Cond.code ({ cls := "ExactlySaid$Machine", name := "calculate", desc := "(ILExactlySaid$Fraction;LExactlySaid$Fraction;LExactlySaid$Reckoner;)V" } : Jvm.MethodName) prog_4_method_10_code (5 : Nat) (Option.none : Option Jvm.ClassFile.FieldType) ∈ TB := cTB5 (i := 196) rfl rfl
theorem t_1157 : Jvm.Cond.methodLinkNest "ExactlySaid$Machine" (150 : Nat) ({ cls := "ExactlySaid$Reckoner", name := "add", desc := "(LExactlySaid$Fraction;LExactlySaid$Fraction;ZLExactlySaid$Fraction;)V" } : Jvm.MethodName) "ExactlySaid" ∈ TN := cTN5 (i := 197) rfl rfl
theorem t_1158 : Jvm.Cond.methodLinkNest "ExactlySaid$Machine" (156 : Nat) ({ cls := "ExactlySaid$Reckoner", name := "multiply", desc := "(LExactlySaid$Fraction;LExactlySaid$Fraction;LExactlySaid$Fraction;)V" } : Jvm.MethodName) "ExactlySaid" ∈ TN := cTN5 (i := 198) rfl rfl
theorem t_1160 : Jvm.Cond.instanceMethod ({ cls := "ExactlySaid$Reckoner", name := "multiply", desc := "(LExactlySaid$Fraction;LExactlySaid$Fraction;LExactlySaid$Fraction;)V" } : Jvm.MethodName) ∈ TB := cTB5 (i := 200) rfl rfl
theorem t_1161 : Jvm.Cond.code ({ cls := "ExactlySaid$Reckoner", name := "multiply", desc := "(LExactlySaid$Fraction;LExactlySaid$Fraction;LExactlySaid$Fraction;)V" } : Jvm.MethodName) prog_7_method_8_code (4 : Nat) (Option.none : Option Jvm.ClassFile.FieldType) ∈ TB := cTB5 (i := 201) rfl rfl
theorem t_1162 : Jvm.Cond.methodLinkNest "ExactlySaid$Machine" (160 : Nat) ({ cls := "ExactlySaid$Reckoner", name := "inverse", desc := "(LExactlySaid$Fraction;)LExactlySaid$Fraction;" } : Jvm.MethodName) "ExactlySaid" ∈ TN := cTN5 (i := 202) rfl rfl
theorem t_1164 : Jvm.Cond.instanceMethod ({ cls := "ExactlySaid$Reckoner", name := "inverse", desc := "(LExactlySaid$Fraction;)LExactlySaid$Fraction;" } : Jvm.MethodName) ∈ TB := cTB5 (i := 204) rfl rfl
theorem t_1165 : Jvm.Cond.code ({ cls := "ExactlySaid$Reckoner", name := "inverse", desc := "(LExactlySaid$Fraction;)LExactlySaid$Fraction;" } : Jvm.MethodName) prog_7_method_9_code (2 : Nat) (Option.some (Jvm.ClassFile.FieldType.object "ExactlySaid$Fraction")) ∈ TB := cTB5 (i := 205) rfl rfl
theorem t_1166 : Jvm.Cond.methodLinkNest "ExactlySaid$Machine" (164 : Nat) ({ cls := "ExactlySaid$Reckoner", name := "remain", desc := "(LExactlySaid$Fraction;LExactlySaid$Fraction;LExactlySaid$Fraction;)V" } : Jvm.MethodName) "ExactlySaid" ∈ TN := cTN5 (i := 206) rfl rfl
theorem t_1168 : Jvm.Cond.instanceMethod ({ cls := "ExactlySaid$Reckoner", name := "remain", desc := "(LExactlySaid$Fraction;LExactlySaid$Fraction;LExactlySaid$Fraction;)V" } : Jvm.MethodName) ∈ TB := cTB5 (i := 208) rfl rfl
theorem t_1169 : Jvm.Cond.code ({ cls := "ExactlySaid$Reckoner", name := "remain", desc := "(LExactlySaid$Fraction;LExactlySaid$Fraction;LExactlySaid$Fraction;)V" } : Jvm.MethodName) prog_7_method_10_code (4 : Nat) (Option.none : Option Jvm.ClassFile.FieldType) ∈ TB := cTB5 (i := 209) rfl rfl
theorem t_1170 : Jvm.Cond.methodLinkNest "ExactlySaid$Machine" (167 : Nat) ({ cls := "ExactlySaid$Reckoner", name := "reduce", desc := "(LExactlySaid$Fraction;)V" } : Jvm.MethodName) "ExactlySaid" ∈ TN := cTN5 (i := 210) rfl rfl
theorem t_1172 : Jvm.Cond.instanceMethod ({ cls := "ExactlySaid$Reckoner", name := "reduce", desc := "(LExactlySaid$Fraction;)V" } : Jvm.MethodName) ∈ TB := cTB5 (i := 212) rfl rfl
theorem t_1173 : Jvm.Cond.code ({ cls := "ExactlySaid$Reckoner", name := "reduce", desc := "(LExactlySaid$Fraction;)V" } : Jvm.MethodName) prog_7_method_5_code (2 : Nat) (Option.none : Option Jvm.ClassFile.FieldType) ∈ TB := cTB5 (i := 213) rfl rfl
theorem t_1174 : Jvm.Cond.methodLinkNest "ExactlySaid$Machine" (170 : Nat) ({ cls := "ExactlySaid$Reckoner", name := "power", desc := "(LExactlySaid$Fraction;ILExactlySaid$Fraction;)V" } : Jvm.MethodName) "ExactlySaid" ∈ TN := cTN5 (i := 214) rfl rfl
theorem t_1176 : Jvm.Cond.instanceMethod ({ cls := "ExactlySaid$Reckoner", name := "power", desc := "(LExactlySaid$Fraction;ILExactlySaid$Fraction;)V" } : Jvm.MethodName) ∈ TB := cTB5 (i := 216) rfl rfl
theorem t_1177 : Jvm.Cond.code ({ cls := "ExactlySaid$Reckoner", name := "power", desc := "(LExactlySaid$Fraction;ILExactlySaid$Fraction;)V" } : Jvm.MethodName) prog_7_method_12_code (5 : Nat) (Option.none : Option Jvm.ClassFile.FieldType) ∈ TB := cTB5 (i := 217) rfl rfl
theorem t_1178 : Jvm.Cond.methodLink "ExactlySaid$Reckoner" (172 : Nat) ({ cls := "java/lang/Math", name := "abs", desc := "(I)I" } : Jvm.MethodName) ∈ TB := cTB5 (i := 218) rfl rfl
theorem t_1179 : Jvm.Cond.static ({ cls := "java/lang/Math", name := "abs", desc := "(I)I" } : Jvm.MethodName) ∈ TB := cTB5 (i := 219) rfl rfl
theorem t_1180 : Jvm.Cond.code ({ cls := "java/lang/Math", name := "abs", desc := "(I)I" } : Jvm.MethodName) prog_28_method_59_code (1 : Nat) (Option.some Jvm.ClassFile.FieldType.int) ∈ TB := cTB5 (i := 220) rfl rfl
theorem t_1181 : Jvm.Cond.methodLink "ExactlySaid$Reckoner" (175 : Nat) ({ cls := "ExactlySaid$Reckoner", name := "multiplyOften", desc := "(LExactlySaid$Nat;ILExactlySaid$Nat;)V" } : Jvm.MethodName) ∈ TB := cTB5 (i := 221) rfl rfl
theorem t_1183 : Jvm.Cond.instanceMethod ({ cls := "ExactlySaid$Reckoner", name := "multiplyOften", desc := "(LExactlySaid$Nat;ILExactlySaid$Nat;)V" } : Jvm.MethodName) ∈ TB := cTB5 (i := 223) rfl rfl
theorem t_1184 : Jvm.Cond.code ({ cls := "ExactlySaid$Reckoner", name := "multiplyOften", desc := "(LExactlySaid$Nat;ILExactlySaid$Nat;)V" } : Jvm.MethodName) prog_7_method_13_code (5 : Nat) (Option.none : Option Jvm.ClassFile.FieldType) ∈ TB := cTB5 (i := 224) rfl rfl
theorem t_1185 : Jvm.Cond.methodLinkNest "ExactlySaid$Reckoner" (179 : Nat) ({ cls := "ExactlySaid$Nat", name := "fits", desc := "()Z" } : Jvm.MethodName) "ExactlySaid" ∈ TN := cTN5 (i := 225) rfl rfl
theorem t_1186 : Jvm.Cond.methodLinkNest "ExactlySaid$Machine" (174 : Nat) ({ cls := "ExactlySaid$Reckoner", name := "factorial", desc := "(LExactlySaid$Fraction;LExactlySaid$Fraction;)V" } : Jvm.MethodName) "ExactlySaid" ∈ TN := cTN5 (i := 226) rfl rfl
theorem t_1188 : Jvm.Cond.instanceMethod ({ cls := "ExactlySaid$Reckoner", name := "factorial", desc := "(LExactlySaid$Fraction;LExactlySaid$Fraction;)V" } : Jvm.MethodName) ∈ TB := cTB5 (i := 228) rfl rfl
theorem t_1189 : Jvm.Cond.code ({ cls := "ExactlySaid$Reckoner", name := "factorial", desc := "(LExactlySaid$Fraction;LExactlySaid$Fraction;)V" } : Jvm.MethodName) prog_7_method_14_code (5 : Nat) (Option.none : Option Jvm.ClassFile.FieldType) ∈ TB := cTB5 (i := 229) rfl rfl
theorem t_1190 : Jvm.Cond.methodLink "ExactlySaid$Reckoner" (185 : Nat) ({ cls := "java/lang/Math", name := "min", desc := "(II)I" } : Jvm.MethodName) ∈ TB := cTB5 (i := 230) rfl rfl
theorem t_1191 : Jvm.Cond.methodLink "ExactlySaid$Machine" (178 : Nat) ({ cls := "java/lang/Math", name := "abs", desc := "(I)I" } : Jvm.MethodName) ∈ TB := cTB5 (i := 231) rfl rfl
theorem t_1192 : Jvm.Cond.methodLinkNest "ExactlySaid$Machine" (183 : Nat) ({ cls := "ExactlySaid$Reckoner", name := "commonDivisor", desc := "(LExactlySaid$Fraction;LExactlySaid$Fraction;LExactlySaid$Fraction;)V" } : Jvm.MethodName) "ExactlySaid" ∈ TN := cTN5 (i := 232) rfl rfl
theorem t_1194 : Jvm.Cond.instanceMethod ({ cls := "ExactlySaid$Reckoner", name := "commonDivisor", desc := "(LExactlySaid$Fraction;LExactlySaid$Fraction;LExactlySaid$Fraction;)V" } : Jvm.MethodName) ∈ TB := cTB5 (i := 234) rfl rfl
theorem t_1195 : Jvm.Cond.code ({ cls := "ExactlySaid$Reckoner", name := "commonDivisor", desc := "(LExactlySaid$Fraction;LExactlySaid$Fraction;LExactlySaid$Fraction;)V" } : Jvm.MethodName) prog_7_method_16_code (4 : Nat) (Option.none : Option Jvm.ClassFile.FieldType) ∈ TB := cTB5 (i := 235) rfl rfl
theorem t_1196 : Jvm.Cond.methodLinkNest "ExactlySaid$Machine" (186 : Nat) ({ cls := "ExactlySaid$Reckoner", name := "commonMultiple", desc := "(LExactlySaid$Fraction;LExactlySaid$Fraction;LExactlySaid$Fraction;)V" } : Jvm.MethodName) "ExactlySaid" ∈ TN := cTN5 (i := 236) rfl rfl
theorem t_1198 : Jvm.Cond.instanceMethod ({ cls := "ExactlySaid$Reckoner", name := "commonMultiple", desc := "(LExactlySaid$Fraction;LExactlySaid$Fraction;LExactlySaid$Fraction;)V" } : Jvm.MethodName) ∈ TB := cTB5 (i := 238) rfl rfl
theorem t_1199 : Jvm.Cond.code ({ cls := "ExactlySaid$Reckoner", name := "commonMultiple", desc := "(LExactlySaid$Fraction;LExactlySaid$Fraction;LExactlySaid$Fraction;)V" } : Jvm.MethodName) prog_7_method_17_code (4 : Nat) (Option.none : Option Jvm.ClassFile.FieldType) ∈ TB := cTB5 (i := 239) rfl rfl
theorem t_1200 : Jvm.Cond.methodLinkNest "ExactlySaid$Machine" (189 : Nat) ({ cls := "ExactlySaid$Reckoner", name := "round", desc := "(LExactlySaid$Fraction;ILExactlySaid$Fraction;)V" } : Jvm.MethodName) "ExactlySaid" ∈ TN := cTN6 (i := 0) rfl rfl
theorem t_1201 : Jvm.Cond.methodLinkNest "ExactlySaid$Machine" (192 : Nat) ({ cls := "ExactlySaid$Reckoner", name := "mediate", desc := "(LExactlySaid$Fraction;LExactlySaid$Fraction;LExactlySaid$Fraction;)V" } : Jvm.MethodName) "ExactlySaid" ∈ TN := cTN6 (i := 1) rfl rfl
theorem t_1203 : Jvm.Cond.instanceMethod ({ cls := "ExactlySaid$Reckoner", name := "mediate", desc := "(LExactlySaid$Fraction;LExactlySaid$Fraction;LExactlySaid$Fraction;)V" } : Jvm.MethodName) ∈ TB := cTB6 (i := 3) rfl rfl
theorem t_1204 : Jvm.Cond.code ({ cls := "ExactlySaid$Reckoner", name := "mediate", desc := "(LExactlySaid$Fraction;LExactlySaid$Fraction;LExactlySaid$Fraction;)V" } : Jvm.MethodName) prog_7_method_11_code (4 : Nat) (Option.none : Option Jvm.ClassFile.FieldType) ∈ TB := cTB6 (i := 4) rfl rfl
theorem t_1205 : Jvm.Cond.methodLinkNest "ExactlySaid$Machine" (198 : Nat) ({ cls := "ExactlySaid$Fraction", name := "setWhole", desc := "(LExactlySaid$Nat;I)V" } : Jvm.MethodName) "ExactlySaid" ∈ TN := cTN6 (i := 5) rfl rfl
theorem t_1207 : Jvm.Cond.instanceMethod ({ cls := "ExactlySaid$Fraction", name := "setWhole", desc := "(LExactlySaid$Nat;I)V" } : Jvm.MethodName) ∈ TB := cTB6 (i := 7) rfl rfl
theorem t_1208 : Jvm.Cond.code ({ cls := "ExactlySaid$Fraction", name := "setWhole", desc := "(LExactlySaid$Nat;I)V" } : Jvm.MethodName) prog_3_method_5_code (3 : Nat) (Option.none : Option Jvm.ClassFile.FieldType) ∈ TB := cTB6 (i := 8) rfl rfl
theorem t_1209 : Jvm.Cond.methodLink "ExactlySaid$Fraction" (38 : Nat) ({ cls := "ExactlySaid$Fraction", name := "setSign", desc := "(I)V" } : Jvm.MethodName) ∈ TB := cTB6 (i := 9) rfl rfl
theorem t_1210 : Jvm.Cond.methodLinkNest "ExactlySaid$Machine" (202 : Nat) ({ cls := "ExactlySaid$Reckoner", name := "order", desc := "(LExactlySaid$Fraction;LExactlySaid$Fraction;)I" } : Jvm.MethodName) "ExactlySaid" ∈ TN := cTN6 (i := 10) rfl rfl
theorem t_1212 : Jvm.Cond.instanceMethod ({ cls := "ExactlySaid$Reckoner", name := "order", desc := "(LExactlySaid$Fraction;LExactlySaid$Fraction;)I" } : Jvm.MethodName) ∈ TB := cTB6 (i := 12) rfl rfl
theorem t_1213 : Jvm.Cond.code ({ cls := "ExactlySaid$Reckoner", name := "order", desc := "(LExactlySaid$Fraction;LExactlySaid$Fraction;)I" } : Jvm.MethodName) prog_7_method_18_code (3 : Nat) (Option.some Jvm.ClassFile.FieldType.int) ∈ TB := cTB6 (i := 13) rfl rfl
theorem t_1214 : Jvm.Cond.methodLinkNest "ExactlySaid$Machine" (99 : Nat) ({ cls := "ExactlySaid$Fraction", name := "fits", desc := "()Z" } : Jvm.MethodName) "ExactlySaid" ∈ TN := cTN6 (i := 14) rfl rfl
theorem t_1215 : Jvm.Cond.methodLinkNest "ExactlySaid" (433 : Nat) ({ cls := "ExactlySaid$Fraction", name := "isSame", desc := "(LExactlySaid$Fraction;)Z" } : Jvm.MethodName) "ExactlySaid" ∈ TN := cTN6 (i := 15) rfl rfl
theorem t_1217 : Jvm.Cond.instanceMethod ({ cls := "ExactlySaid$Fraction", name := "isSame", desc := "(LExactlySaid$Fraction;)Z" } : Jvm.MethodName) ∈ TB := cTB6 (i := 17) rfl rfl
theorem t_1218 : Jvm.Cond.code ({ cls := "ExactlySaid$Fraction", name := "isSame", desc := "(LExactlySaid$Fraction;)Z" } : Jvm.MethodName) prog_3_method_8_code (2 : Nat) (Option.some Jvm.ClassFile.FieldType.boolean) ∈ TB := cTB6 (i := 18) rfl rfl
theorem t_1219 : Jvm.Cond.methodLinkNest "ExactlySaid$Fraction" (48 : Nat) ({ cls := "ExactlySaid$Nat", name := "against", desc := "(LExactlySaid$Nat;)I" } : Jvm.MethodName) "ExactlySaid" ∈ TN := cTN6 (i := 19) rfl rfl
theorem t_1220 : Jvm.Cond.methodLink "ExactlySaid" (427 : Nat) ({ cls := "ExactlySaid", name := "wrongPairs", desc := "()I" } : Jvm.MethodName) ∈ TB := cTB6 (i := 20) rfl rfl
theorem t_1222 : Jvm.Cond.instanceMethod ({ cls := "ExactlySaid", name := "wrongPairs", desc := "()I" } : Jvm.MethodName) ∈ TB := cTB6 (i := 22) rfl rfl
theorem t_1223 : Jvm.Cond.code ({ cls := "ExactlySaid", name := "wrongPairs", desc := "()I" } : Jvm.MethodName) prog_1_method_71_code (4 : Nat) (Option.some Jvm.ClassFile.FieldType.int) ∈ TB := cTB6 (i := 23) rfl rfl
theorem t_1224 : Jvm.Cond.methodLinkNest "ExactlySaid" (437 : Nat) ({ cls := "ExactlySaid$Reckoner", name := "isLawful", desc := "(LExactlySaid$Fraction;LExactlySaid$Fraction;)Z" } : Jvm.MethodName) "ExactlySaid" ∈ TN := cTN6 (i := 24) rfl rfl
theorem t_1226 : Jvm.Cond.instanceMethod ({ cls := "ExactlySaid$Reckoner", name := "isLawful", desc := "(LExactlySaid$Fraction;LExactlySaid$Fraction;)Z" } : Jvm.MethodName) ∈ TB := cTB6 (i := 26) rfl rfl
theorem t_1227 : Jvm.Cond.code ({ cls := "ExactlySaid$Reckoner", name := "isLawful", desc := "(LExactlySaid$Fraction;LExactlySaid$Fraction;)Z" } : Jvm.MethodName) prog_7_method_22_code (3 : Nat) (Option.some Jvm.ClassFile.FieldType.boolean) ∈ TB := cTB6 (i := 27) rfl rfl
theorem t_1228 : Jvm.Cond.methodLinkNest "ExactlySaid$Reckoner" (220 : Nat) ({ cls := "ExactlySaid$Fraction", name := "isSame", desc := "(LExactlySaid$Fraction;)Z" } : Jvm.MethodName) "ExactlySaid" ∈ TN := cTN6 (i := 28) rfl rfl
theorem t_1229 : Jvm.Cond.methodLink "ExactlySaid$Reckoner" (202 : Nat) ({ cls := "ExactlySaid$Reckoner", name := "multiply", desc := "(LExactlySaid$Fraction;LExactlySaid$Fraction;LExactlySaid$Fraction;)V" } : Jvm.MethodName) ∈ TB := cTB6 (i := 29) rfl rfl
theorem t_1230 : Jvm.Cond.methodLink "ExactlySaid$Reckoner" (224 : Nat) ({ cls := "ExactlySaid$Reckoner", name := "inverse", desc := "(LExactlySaid$Fraction;)LExactlySaid$Fraction;" } : Jvm.MethodName) ∈ TB := cTB6 (i := 30) rfl rfl
theorem t_1231 : Jvm.Cond.methodLink "ExactlySaid" (430 : Nat) ({ cls := "ExactlySaid", name := "wrongTexts", desc := "()I" } : Jvm.MethodName) ∈ TB := cTB6 (i := 31) rfl rfl
theorem t_1233 : Jvm.Cond.instanceMethod ({ cls := "ExactlySaid", name := "wrongTexts", desc := "()I" } : Jvm.MethodName) ∈ TB := cTB6 (i := 33) rfl rfl
theorem t_1234 : Jvm.Cond.code ({ cls := "ExactlySaid", name := "wrongTexts", desc := "()I" } : Jvm.MethodName) prog_1_method_72_code (5 : Nat) (Option.some Jvm.ClassFile.FieldType.int) ∈ TB := cTB6 (i := 34) rfl rfl
theorem t_1235 : Jvm.Cond.methodLink "ExactlySaid" (441 : Nat) ({ cls := "ExactlySaid", name := "readFraction", desc := "(Ljava/lang/StringBuilder;LExactlySaid$Fraction;)V" } : Jvm.MethodName) ∈ TB := cTB6 (i := 35) rfl rfl
theorem t_1237 : Jvm.Cond.instanceMethod ({ cls := "ExactlySaid", name := "readFraction", desc := "(Ljava/lang/StringBuilder;LExactlySaid$Fraction;)V" } : Jvm.MethodName) ∈ TB := cTB6 (i := 37) rfl rfl
theorem t_1238 : Jvm.Cond.code ({ cls := "ExactlySaid", name := "readFraction", desc := "(Ljava/lang/StringBuilder;LExactlySaid$Fraction;)V" } : Jvm.MethodName) prog_1_method_73_code (7 : Nat) (Option.none : Option Jvm.ClassFile.FieldType) ∈ TB := cTB6 (i := 38) rfl rfl
theorem t_1239 : Jvm.Cond.methodLink "ExactlySaid" (293 : Nat) ({ cls := "java/lang/StringBuilder", name := "charAt", desc := "(I)C" } : Jvm.MethodName) ∈ TB := cTB6 (i := 39) rfl rfl
theorem t_1240 : Jvm.Cond.instanceMethod ({ cls := "java/lang/StringBuilder", name := "charAt", desc := "(I)C" } : Jvm.MethodName) ∈ TB := cTB6 (i := 40) rfl rfl
theorem t_1241 : Jvm.Cond.selects "java/lang/StringBuilder" ({ cls := "java/lang/StringBuilder", name := "charAt", desc := "(I)C" } : Jvm.MethodName) ({ cls := "java/lang/StringBuilder", name := "charAt", desc := "(I)C" } : Jvm.MethodName) ∈ TB := cTB6 (i := 41) rfl rfl
theorem t_1242 : Jvm.Cond.code ({ cls := "java/lang/StringBuilder", name := "charAt", desc := "(I)C" } : Jvm.MethodName) prog_32_method_88_code (2 : Nat) (Option.some Jvm.ClassFile.FieldType.char) ∈ TB := cTB6 (i := 42) rfl rfl
theorem t_1243 : Jvm.Cond.methodLink "java/lang/StringBuilder" (329 : Nat) ({ cls := "java/lang/AbstractStringBuilder", name := "charAt", desc := "(I)C" } : Jvm.MethodName) ∈ TB := cTB6 (i := 43) rfl rfl
theorem t_1244 : Jvm.Cond.instanceMethod ({ cls := "java/lang/AbstractStringBuilder", name := "charAt", desc := "(I)C" } : Jvm.MethodName) ∈ TB := cTB6 (i := 44) rfl rfl
theorem t_1245 : Jvm.Cond.code ({ cls := "java/lang/AbstractStringBuilder", name := "charAt", desc := "(I)C" } : Jvm.MethodName) prog_16_method_14_code (5 : Nat) (Option.some Jvm.ClassFile.FieldType.char) ∈ TB := cTB6 (i := 45) rfl rfl
theorem t_1246 : Jvm.Cond.methodLink "java/lang/AbstractStringBuilder" (138 : Nat) ({ cls := "java/lang/Math", name := "min", desc := "(II)I" } : Jvm.MethodName) ∈ TB := cTB6 (i := 46) rfl rfl
theorem t_1247 : Jvm.Cond.methodLink "java/lang/AbstractStringBuilder" (144 : Nat) ({ cls := "java/lang/String", name := "checkIndex", desc := "(II)V" } : Jvm.MethodName) ∈ TB := cTB6 (i := 47) rfl rfl
theorem t_1249 : Jvm.Cond.methodLinkNest "ExactlySaid" (445 : Nat) ({ cls := "ExactlySaid$Nat", name := "setSmall", desc := "(J)V" } : Jvm.MethodName) "ExactlySaid" ∈ TN := cTN6 (i := 49) rfl rfl
theorem t_1250 : Jvm.Cond.methodLinkNest "ExactlySaid" (449 : Nat) ({ cls := "ExactlySaid$Nat", name := "raise", desc := "(II)V" } : Jvm.MethodName) "ExactlySaid" ∈ TN := cTN6 (i := 50) rfl rfl
theorem t_1251 : Jvm.Cond.methodLinkNest "ExactlySaid" (452 : Nat) ({ cls := "ExactlySaid$Fraction", name := "setSign", desc := "(I)V" } : Jvm.MethodName) "ExactlySaid" ∈ TN := cTN6 (i := 51) rfl rfl
theorem t_1252 : Jvm.Cond.methodLinkNest "ExactlySaid" (455 : Nat) ({ cls := "ExactlySaid$Reckoner", name := "reduce", desc := "(LExactlySaid$Fraction;)V" } : Jvm.MethodName) "ExactlySaid" ∈ TN := cTN6 (i := 52) rfl rfl
theorem t_1253 : Jvm.Cond.methodLink "ExactlySaidLaw" (108 : Nat) ({ cls := "ExactlySaidLaw", name := "append", desc := "(LExactlySaid;IIIII[J)I" } : Jvm.MethodName) ∈ TB := cTB6 (i := 53) rfl rfl
theorem t_1254 : Jvm.Cond.static ({ cls := "ExactlySaidLaw", name := "append", desc := "(LExactlySaid;IIIII[J)I" } : Jvm.MethodName) ∈ TB := cTB6 (i := 54) rfl rfl
theorem t_1255 : Jvm.Cond.codeWith ({ cls := "ExactlySaidLaw", name := "append", desc := "(LExactlySaid;IIIII[J)I" } : Jvm.MethodName) method_3_code (8 : Nat) (Option.some Jvm.ClassFile.FieldType.int) [((0 : Nat), (16 : Nat), (19 : Nat), (13 : Nat))] ∈ TB := cTB6 (i := 55) rfl rfl
theorem t_1256 : Jvm.Cond.classLink "ExactlySaidLaw" (13 : Nat) "java/lang/IllegalStateException" ∈ TB := cTB6 (i := 56) rfl rfl
theorem t_1257 : Jvm.Cond.methodLink "ExactlySaidLaw" (7 : Nat) ({ cls := "ExactlySaid", name := "append", desc := "(IIIII)I" } : Jvm.MethodName) ∈ TB := cTB6 (i := 57) rfl rfl
theorem t_1258 : Jvm.Cond.instanceMethod ({ cls := "ExactlySaid", name := "append", desc := "(IIIII)I" } : Jvm.MethodName) ∈ TB := cTB6 (i := 58) rfl rfl
theorem t_1259 : Jvm.Cond.selects "ExactlySaid" ({ cls := "ExactlySaid", name := "append", desc := "(IIIII)I" } : Jvm.MethodName) ({ cls := "ExactlySaid", name := "append", desc := "(IIIII)I" } : Jvm.MethodName) ∈ TB := cTB6 (i := 59) rfl rfl
theorem t_1260 : Jvm.Cond.code ({ cls := "ExactlySaid", name := "append", desc := "(IIIII)I" } : Jvm.MethodName) prog_1_method_2_code (6 : Nat) (Option.some Jvm.ClassFile.FieldType.int) ∈ TB := cTB6 (i := 60) rfl rfl
theorem t_1261 : Jvm.Cond.methodLink "ExactlySaid" (88 : Nat) ({ cls := "ExactlySaid", name := "bytesIn", desc := "(I)I" } : Jvm.MethodName) ∈ TB := cTB6 (i := 61) rfl rfl
theorem t_1262 : Jvm.Cond.static ({ cls := "ExactlySaid", name := "bytesIn", desc := "(I)I" } : Jvm.MethodName) ∈ TB := cTB6 (i := 62) rfl rfl
theorem t_1263 : Jvm.Cond.code ({ cls := "ExactlySaid", name := "bytesIn", desc := "(I)I" } : Jvm.MethodName) prog_1_method_10_code (3 : Nat) (Option.some Jvm.ClassFile.FieldType.int) ∈ TB := cTB6 (i := 63) rfl rfl
theorem t_1266 : Jvm.Cond.castable "java/lang/IllegalStateException" "java/lang/IllegalStateException" ∈ TN := cTN6 (i := 66) rfl rfl
theorem t_1285 : Jvm.Cond.methodLink "ExactlySaid" (95 : Nat) ({ cls := "ExactlySaid", name := "lay", desc := "(I)V" } : Jvm.MethodName) ∈ TB := cTB6 (i := 85) rfl rfl
theorem t_1287 : Jvm.Cond.instanceMethod ({ cls := "ExactlySaid", name := "lay", desc := "(I)V" } : Jvm.MethodName) ∈ TB := cTB6 (i := 87) rfl rfl
theorem t_1288 : Jvm.Cond.code ({ cls := "ExactlySaid", name := "lay", desc := "(I)V" } : Jvm.MethodName) prog_1_method_11_code (4 : Nat) (Option.none : Option Jvm.ClassFile.FieldType) ∈ TB := cTB6 (i := 88) rfl rfl
theorem t_1289 : Jvm.Cond.methodLink "ExactlySaidLaw" (121 : Nat) ({ cls := "ExactlySaidLaw", name := "run", desc := "(LExactlySaid;[J)I" } : Jvm.MethodName) ∈ TB := cTB6 (i := 89) rfl rfl
theorem t_1290 : Jvm.Cond.static ({ cls := "ExactlySaidLaw", name := "run", desc := "(LExactlySaid;[J)I" } : Jvm.MethodName) ∈ TB := cTB6 (i := 90) rfl rfl
theorem t_1291 : Jvm.Cond.codeWith ({ cls := "ExactlySaidLaw", name := "run", desc := "(LExactlySaid;[J)I" } : Jvm.MethodName) method_4_code (3 : Nat) (Option.some Jvm.ClassFile.FieldType.int) [((0 : Nat), (8 : Nat), (11 : Nat), (19 : Nat)), ((0 : Nat), (8 : Nat), (14 : Nat), (21 : Nat))] ∈ TB := cTB6 (i := 91) rfl rfl
theorem t_1292 : Jvm.Cond.classLink "ExactlySaidLaw" (19 : Nat) "java/lang/IllegalArgumentException" ∈ TB := cTB6 (i := 92) rfl rfl
theorem t_1293 : Jvm.Cond.classLink "ExactlySaidLaw" (21 : Nat) "java/lang/ArithmeticException" ∈ TB := cTB6 (i := 93) rfl rfl
theorem t_1305 : Jvm.Cond.castable "java/lang/ArithmeticException" "java/lang/ArithmeticException" ∈ TN := cTN6 (i := 105) rfl rfl
theorem t_1307 : Jvm.Cond.methodLink "ExactlySaidLaw" (15 : Nat) ({ cls := "ExactlySaid", name := "run", desc := "()I" } : Jvm.MethodName) ∈ TB := cTB6 (i := 107) rfl rfl
theorem t_1308 : Jvm.Cond.instanceMethod ({ cls := "ExactlySaid", name := "run", desc := "()I" } : Jvm.MethodName) ∈ TB := cTB6 (i := 108) rfl rfl
theorem t_1309 : Jvm.Cond.selects "ExactlySaid" ({ cls := "ExactlySaid", name := "run", desc := "()I" } : Jvm.MethodName) ({ cls := "ExactlySaid", name := "run", desc := "()I" } : Jvm.MethodName) ∈ TB := cTB6 (i := 109) rfl rfl
theorem t_1310 : Jvm.Cond.code ({ cls := "ExactlySaid", name := "run", desc := "()I" } : Jvm.MethodName) prog_1_method_4_code (3 : Nat) (Option.some Jvm.ClassFile.FieldType.int) ∈ TB := cTB6 (i := 110) rfl rfl
theorem t_1311 : Jvm.Cond.methodLinkNest "ExactlySaid" (99 : Nat) ({ cls := "ExactlySaid$Reader", name := "read", desc := "([IILExactlySaid$Reckoner;)I" } : Jvm.MethodName) "ExactlySaid" ∈ TN := cTN6 (i := 111) rfl rfl
theorem t_1313 : Jvm.Cond.instanceMethod ({ cls := "ExactlySaid$Reader", name := "read", desc := "([IILExactlySaid$Reckoner;)I" } : Jvm.MethodName) ∈ TB := cTB6 (i := 113) rfl rfl
theorem t_1314 : Jvm.Cond.code ({ cls := "ExactlySaid$Reader", name := "read", desc := "([IILExactlySaid$Reckoner;)I" } : Jvm.MethodName) prog_6_method_2_code (5 : Nat) (Option.some Jvm.ClassFile.FieldType.int) ∈ TB := cTB6 (i := 114) rfl rfl
theorem t_1315 : Jvm.Cond.methodLink "ExactlySaid$Reader" (39 : Nat) ({ cls := "java/lang/Math", name := "min", desc := "(II)I" } : Jvm.MethodName) ∈ TB := cTB6 (i := 115) rfl rfl
theorem t_1316 : Jvm.Cond.methodLink "ExactlySaid$Reader" (49 : Nat) ({ cls := "ExactlySaid$Reader", name := "findTokens", desc := "()V" } : Jvm.MethodName) ∈ TB := cTB6 (i := 116) rfl rfl
theorem t_1318 : Jvm.Cond.instanceMethod ({ cls := "ExactlySaid$Reader", name := "findTokens", desc := "()V" } : Jvm.MethodName) ∈ TB := cTB6 (i := 118) rfl rfl
theorem t_1319 : Jvm.Cond.code ({ cls := "ExactlySaid$Reader", name := "findTokens", desc := "()V" } : Jvm.MethodName) prog_6_method_7_code (3 : Nat) (Option.none : Option Jvm.ClassFile.FieldType) ∈ TB := cTB6 (i := 119) rfl rfl
theorem t_1320 : Jvm.Cond.methodLink "ExactlySaid$Reader" (98 : Nat) ({ cls := "ExactlySaid$Reader", name := "byteAt", desc := "(I)I" } : Jvm.MethodName) ∈ TB := cTB6 (i := 120) rfl rfl
theorem t_1322 : Jvm.Cond.instanceMethod ({ cls := "ExactlySaid$Reader", name := "byteAt", desc := "(I)I" } : Jvm.MethodName) ∈ TB := cTB6 (i := 122) rfl rfl
theorem t_1323 : Jvm.Cond.code ({ cls := "ExactlySaid$Reader", name := "byteAt", desc := "(I)I" } : Jvm.MethodName) prog_6_method_3_code (2 : Nat) (Option.some Jvm.ClassFile.FieldType.int) ∈ TB := cTB6 (i := 123) rfl rfl
theorem t_1324 : Jvm.Cond.methodLink "ExactlySaid$Reader" (107 : Nat) ({ cls := "ExactlySaid$Reader", name := "tokenFrom", desc := "(I)I" } : Jvm.MethodName) ∈ TB := cTB6 (i := 124) rfl rfl
theorem t_1326 : Jvm.Cond.instanceMethod ({ cls := "ExactlySaid$Reader", name := "tokenFrom", desc := "(I)I" } : Jvm.MethodName) ∈ TB := cTB6 (i := 126) rfl rfl
theorem t_1327 : Jvm.Cond.code ({ cls := "ExactlySaid$Reader", name := "tokenFrom", desc := "(I)I" } : Jvm.MethodName) prog_6_method_8_code (2 : Nat) (Option.some Jvm.ClassFile.FieldType.int) ∈ TB := cTB6 (i := 127) rfl rfl
theorem t_1328 : Jvm.Cond.methodLink "ExactlySaid$Reader" (116 : Nat) ({ cls := "ExactlySaid$Reader", name := "isLetter", desc := "(I)Z" } : Jvm.MethodName) ∈ TB := cTB6 (i := 128) rfl rfl
theorem t_1330 : Jvm.Cond.instanceMethod ({ cls := "ExactlySaid$Reader", name := "isLetter", desc := "(I)Z" } : Jvm.MethodName) ∈ TB := cTB6 (i := 130) rfl rfl
theorem t_1331 : Jvm.Cond.code ({ cls := "ExactlySaid$Reader", name := "isLetter", desc := "(I)Z" } : Jvm.MethodName) prog_6_method_5_code (2 : Nat) (Option.some Jvm.ClassFile.FieldType.boolean) ∈ TB := cTB6 (i := 131) rfl rfl
theorem t_1332 : Jvm.Cond.methodLink "ExactlySaid$Reader" (119 : Nat) ({ cls := "ExactlySaid$Reader", name := "endOfWord", desc := "(I)I" } : Jvm.MethodName) ∈ TB := cTB6 (i := 132) rfl rfl
theorem t_1334 : Jvm.Cond.instanceMethod ({ cls := "ExactlySaid$Reader", name := "endOfWord", desc := "(I)I" } : Jvm.MethodName) ∈ TB := cTB6 (i := 134) rfl rfl
theorem t_1335 : Jvm.Cond.code ({ cls := "ExactlySaid$Reader", name := "endOfWord", desc := "(I)I" } : Jvm.MethodName) prog_6_method_10_code (3 : Nat) (Option.some Jvm.ClassFile.FieldType.int) ∈ TB := cTB6 (i := 135) rfl rfl
theorem t_1336 : Jvm.Cond.methodLink "ExactlySaid$Reader" (101 : Nat) ({ cls := "ExactlySaid$Reader", name := "isDigit", desc := "(I)Z" } : Jvm.MethodName) ∈ TB := cTB6 (i := 136) rfl rfl
theorem t_1338 : Jvm.Cond.instanceMethod ({ cls := "ExactlySaid$Reader", name := "isDigit", desc := "(I)Z" } : Jvm.MethodName) ∈ TB := cTB6 (i := 138) rfl rfl
theorem t_1339 : Jvm.Cond.code ({ cls := "ExactlySaid$Reader", name := "isDigit", desc := "(I)Z" } : Jvm.MethodName) prog_6_method_4_code (2 : Nat) (Option.some Jvm.ClassFile.FieldType.boolean) ∈ TB := cTB6 (i := 139) rfl rfl
theorem t_1340 : Jvm.Cond.methodLink "ExactlySaid$Reader" (122 : Nat) ({ cls := "ExactlySaid$Reader", name := "endOfNumber", desc := "(I)I" } : Jvm.MethodName) ∈ TB := cTB6 (i := 140) rfl rfl
theorem t_1342 : Jvm.Cond.instanceMethod ({ cls := "ExactlySaid$Reader", name := "endOfNumber", desc := "(I)I" } : Jvm.MethodName) ∈ TB := cTB6 (i := 142) rfl rfl
theorem t_1343 : Jvm.Cond.code ({ cls := "ExactlySaid$Reader", name := "endOfNumber", desc := "(I)I" } : Jvm.MethodName) prog_6_method_12_code (5 : Nat) (Option.some Jvm.ClassFile.FieldType.int) ∈ TB := cTB6 (i := 143) rfl rfl
theorem t_1344 : Jvm.Cond.methodLink "ExactlySaid$Reader" (125 : Nat) ({ cls := "ExactlySaid$Reader", name := "endOfDigits", desc := "(I)I" } : Jvm.MethodName) ∈ TB := cTB6 (i := 144) rfl rfl
theorem t_1346 : Jvm.Cond.instanceMethod ({ cls := "ExactlySaid$Reader", name := "endOfDigits", desc := "(I)I" } : Jvm.MethodName) ∈ TB := cTB6 (i := 146) rfl rfl
theorem t_1347 : Jvm.Cond.code ({ cls := "ExactlySaid$Reader", name := "endOfDigits", desc := "(I)I" } : Jvm.MethodName) prog_6_method_6_code (3 : Nat) (Option.some Jvm.ClassFile.FieldType.int) ∈ TB := cTB6 (i := 147) rfl rfl
theorem t_1348 : Jvm.Cond.methodLink "ExactlySaid$Reader" (110 : Nat) ({ cls := "ExactlySaid$Reader", name := "wordFrom", desc := "(I)I" } : Jvm.MethodName) ∈ TB := cTB6 (i := 148) rfl rfl
theorem t_1350 : Jvm.Cond.instanceMethod ({ cls := "ExactlySaid$Reader", name := "wordFrom", desc := "(I)I" } : Jvm.MethodName) ∈ TB := cTB6 (i := 150) rfl rfl
theorem t_1351 : Jvm.Cond.code ({ cls := "ExactlySaid$Reader", name := "wordFrom", desc := "(I)I" } : Jvm.MethodName) prog_6_method_11_code (4 : Nat) (Option.some Jvm.ClassFile.FieldType.int) ∈ TB := cTB6 (i := 151) rfl rfl
theorem t_1352 : Jvm.Cond.methodLink "ExactlySaid$Reader" (113 : Nat) ({ cls := "ExactlySaid$Reader", name := "endOfToken", desc := "(II)I" } : Jvm.MethodName) ∈ TB := cTB6 (i := 152) rfl rfl
theorem t_1354 : Jvm.Cond.instanceMethod ({ cls := "ExactlySaid$Reader", name := "endOfToken", desc := "(II)I" } : Jvm.MethodName) ∈ TB := cTB6 (i := 154) rfl rfl
theorem t_1355 : Jvm.Cond.code ({ cls := "ExactlySaid$Reader", name := "endOfToken", desc := "(II)I" } : Jvm.MethodName) prog_6_method_9_code (3 : Nat) (Option.some Jvm.ClassFile.FieldType.int) ∈ TB := cTB6 (i := 155) rfl rfl
theorem t_1356 : Jvm.Cond.methodLink "ExactlySaid$Reader" (64 : Nat) ({ cls := "ExactlySaid$Reader", name := "head", desc := "()Z" } : Jvm.MethodName) ∈ TB := cTB6 (i := 156) rfl rfl
theorem t_1358 : Jvm.Cond.instanceMethod ({ cls := "ExactlySaid$Reader", name := "head", desc := "()Z" } : Jvm.MethodName) ∈ TB := cTB6 (i := 158) rfl rfl
theorem t_1359 : Jvm.Cond.code ({ cls := "ExactlySaid$Reader", name := "head", desc := "()Z" } : Jvm.MethodName) prog_6_method_19_code (3 : Nat) (Option.some Jvm.ClassFile.FieldType.boolean) ∈ TB := cTB6 (i := 159) rfl rfl
theorem t_1360 : Jvm.Cond.methodLink "ExactlySaid$Reader" (167 : Nat) ({ cls := "ExactlySaid$Reader", name := "formAhead", desc := "()I" } : Jvm.MethodName) ∈ TB := cTB6 (i := 160) rfl rfl
theorem t_1362 : Jvm.Cond.instanceMethod ({ cls := "ExactlySaid$Reader", name := "formAhead", desc := "()I" } : Jvm.MethodName) ∈ TB := cTB6 (i := 162) rfl rfl
theorem t_1363 : Jvm.Cond.code ({ cls := "ExactlySaid$Reader", name := "formAhead", desc := "()I" } : Jvm.MethodName) prog_6_method_18_code (3 : Nat) (Option.some Jvm.ClassFile.FieldType.int) ∈ TB := cTB6 (i := 163) rfl rfl
theorem t_1364 : Jvm.Cond.methodLink "ExactlySaid$Reader" (72 : Nat) ({ cls := "ExactlySaid$Reader", name := "tokenAt", desc := "(I)I" } : Jvm.MethodName) ∈ TB := cTB6 (i := 164) rfl rfl
theorem t_1366 : Jvm.Cond.instanceMethod ({ cls := "ExactlySaid$Reader", name := "tokenAt", desc := "(I)I" } : Jvm.MethodName) ∈ TB := cTB6 (i := 166) rfl rfl
theorem t_1367 : Jvm.Cond.code ({ cls := "ExactlySaid$Reader", name := "tokenAt", desc := "(I)I" } : Jvm.MethodName) prog_6_method_15_code (2 : Nat) (Option.some Jvm.ClassFile.FieldType.int) ∈ TB := cTB6 (i := 167) rfl rfl
theorem t_1368 : Jvm.Cond.methodLink "ExactlySaid$Reader" (174 : Nat) ({ cls := "ExactlySaid$Reader", name := "wordAt", desc := "(I)I" } : Jvm.MethodName) ∈ TB := cTB6 (i := 168) rfl rfl
theorem t_1370 : Jvm.Cond.instanceMethod ({ cls := "ExactlySaid$Reader", name := "wordAt", desc := "(I)I" } : Jvm.MethodName) ∈ TB := cTB6 (i := 170) rfl rfl
theorem t_1371 : Jvm.Cond.code ({ cls := "ExactlySaid$Reader", name := "wordAt", desc := "(I)I" } : Jvm.MethodName) prog_6_method_17_code (2 : Nat) (Option.some Jvm.ClassFile.FieldType.int) ∈ TB := cTB6 (i := 171) rfl rfl
theorem t_1372 : Jvm.Cond.methodLink "ExactlySaid$Reader" (76 : Nat) ({ cls := "ExactlySaid$Reader", name := "startAt", desc := "(I)I" } : Jvm.MethodName) ∈ TB := cTB6 (i := 172) rfl rfl
theorem t_1374 : Jvm.Cond.instanceMethod ({ cls := "ExactlySaid$Reader", name := "startAt", desc := "(I)I" } : Jvm.MethodName) ∈ TB := cTB6 (i := 174) rfl rfl
theorem t_1375 : Jvm.Cond.code ({ cls := "ExactlySaid$Reader", name := "startAt", desc := "(I)I" } : Jvm.MethodName) prog_6_method_16_code (2 : Nat) (Option.some Jvm.ClassFile.FieldType.int) ∈ TB := cTB6 (i := 175) rfl rfl
theorem t_1376 : Jvm.Cond.methodLink "ExactlySaid$Reader" (183 : Nat) ({ cls := "ExactlySaid$Reader", name := "parameterOf", desc := "(I)I" } : Jvm.MethodName) ∈ TB := cTB6 (i := 176) rfl rfl
theorem t_1378 : Jvm.Cond.instanceMethod ({ cls := "ExactlySaid$Reader", name := "parameterOf", desc := "(I)I" } : Jvm.MethodName) ∈ TB := cTB6 (i := 178) rfl rfl
theorem t_1379 : Jvm.Cond.code ({ cls := "ExactlySaid$Reader", name := "parameterOf", desc := "(I)I" } : Jvm.MethodName) prog_6_method_20_code (3 : Nat) (Option.some Jvm.ClassFile.FieldType.int) ∈ TB := cTB6 (i := 179) rfl rfl
theorem t_1380 : Jvm.Cond.methodLink "ExactlySaid$Reader" (68 : Nat) ({ cls := "ExactlySaid$Reader", name := "readSum", desc := "(I)Z" } : Jvm.MethodName) ∈ TB := cTB6 (i := 180) rfl rfl
theorem t_1382 : Jvm.Cond.instanceMethod ({ cls := "ExactlySaid$Reader", name := "readSum", desc := "(I)Z" } : Jvm.MethodName) ∈ TB := cTB6 (i := 182) rfl rfl
theorem t_1383 : Jvm.Cond.code ({ cls := "ExactlySaid$Reader", name := "readSum", desc := "(I)Z" } : Jvm.MethodName) prog_6_method_22_code (4 : Nat) (Option.some Jvm.ClassFile.FieldType.boolean) ∈ TB := cTB6 (i := 183) rfl rfl
theorem t_1384 : Jvm.Cond.methodLink "ExactlySaid$Reader" (186 : Nat) ({ cls := "ExactlySaid$Reader", name := "readProduct", desc := "(I)Z" } : Jvm.MethodName) ∈ TB := cTB6 (i := 184) rfl rfl
theorem t_1386 : Jvm.Cond.instanceMethod ({ cls := "ExactlySaid$Reader", name := "readProduct", desc := "(I)Z" } : Jvm.MethodName) ∈ TB := cTB6 (i := 186) rfl rfl
theorem t_1387 : Jvm.Cond.code ({ cls := "ExactlySaid$Reader", name := "readProduct", desc := "(I)Z" } : Jvm.MethodName) prog_6_method_23_code (4 : Nat) (Option.some Jvm.ClassFile.FieldType.boolean) ∈ TB := cTB6 (i := 187) rfl rfl
theorem t_1388 : Jvm.Cond.methodLink "ExactlySaid$Reader" (193 : Nat) ({ cls := "ExactlySaid$Reader", name := "readMinus", desc := "(I)Z" } : Jvm.MethodName) ∈ TB := cTB6 (i := 188) rfl rfl
theorem t_1390 : Jvm.Cond.instanceMethod ({ cls := "ExactlySaid$Reader", name := "readMinus", desc := "(I)Z" } : Jvm.MethodName) ∈ TB := cTB6 (i := 190) rfl rfl
theorem t_1391 : Jvm.Cond.code ({ cls := "ExactlySaid$Reader", name := "readMinus", desc := "(I)Z" } : Jvm.MethodName) prog_6_method_25_code (3 : Nat) (Option.some Jvm.ClassFile.FieldType.boolean) ∈ TB := cTB6 (i := 191) rfl rfl
theorem t_1392 : Jvm.Cond.methodLink "ExactlySaid$Reader" (199 : Nat) ({ cls := "ExactlySaid$Reader", name := "readOpened", desc := "(I)Z" } : Jvm.MethodName) ∈ TB := cTB6 (i := 192) rfl rfl
theorem t_1394 : Jvm.Cond.instanceMethod ({ cls := "ExactlySaid$Reader", name := "readOpened", desc := "(I)Z" } : Jvm.MethodName) ∈ TB := cTB6 (i := 194) rfl rfl
theorem t_1395 : Jvm.Cond.code ({ cls := "ExactlySaid$Reader", name := "readOpened", desc := "(I)Z" } : Jvm.MethodName) prog_6_method_26_code (2 : Nat) (Option.some Jvm.ClassFile.FieldType.boolean) ∈ TB := cTB6 (i := 195) rfl rfl
theorem t_1396 : Jvm.Cond.methodLink "ExactlySaid$Reader" (189 : Nat) ({ cls := "ExactlySaid$Reader", name := "emit", desc := "(IIII)V" } : Jvm.MethodName) ∈ TB := cTB6 (i := 196) rfl rfl
theorem t_1398 : Jvm.Cond.instanceMethod ({ cls := "ExactlySaid$Reader", name := "emit", desc := "(IIII)V" } : Jvm.MethodName) ∈ TB := cTB6 (i := 198) rfl rfl
theorem t_1399 : Jvm.Cond.code ({ cls := "ExactlySaid$Reader", name := "emit", desc := "(IIII)V" } : Jvm.MethodName) prog_6_method_21_code (5 : Nat) (Option.none : Option Jvm.ClassFile.FieldType) ∈ TB := cTB6 (i := 199) rfl rfl
theorem t_1400 : Jvm.Cond.methodLink "ExactlySaid$Reader" (202 : Nat) ({ cls := "ExactlySaid$Reader", name := "readPlain", desc := "(I)Z" } : Jvm.MethodName) ∈ TB := cTB6 (i := 200) rfl rfl
theorem t_1402 : Jvm.Cond.instanceMethod ({ cls := "ExactlySaid$Reader", name := "readPlain", desc := "(I)Z" } : Jvm.MethodName) ∈ TB := cTB6 (i := 202) rfl rfl
theorem t_1403 : Jvm.Cond.code ({ cls := "ExactlySaid$Reader", name := "readPlain", desc := "(I)Z" } : Jvm.MethodName) prog_6_method_27_code (4 : Nat) (Option.some Jvm.ClassFile.FieldType.boolean) ∈ TB := cTB6 (i := 203) rfl rfl
theorem t_1404 : Jvm.Cond.methodLink "ExactlySaid$Reader" (205 : Nat) ({ cls := "ExactlySaid$Reader", name := "readCall", desc := "(III)Z" } : Jvm.MethodName) ∈ TB := cTB6 (i := 204) rfl rfl
theorem t_1406 : Jvm.Cond.instanceMethod ({ cls := "ExactlySaid$Reader", name := "readCall", desc := "(III)Z" } : Jvm.MethodName) ∈ TB := cTB6 (i := 206) rfl rfl
theorem t_1407 : Jvm.Cond.code ({ cls := "ExactlySaid$Reader", name := "readCall", desc := "(III)Z" } : Jvm.MethodName) prog_6_method_29_code (7 : Nat) (Option.some Jvm.ClassFile.FieldType.boolean) ∈ TB := cTB6 (i := 207) rfl rfl
theorem t_1408 : Jvm.Cond.methodLinkNest "ExactlySaid$Reader" (213 : Nat) ({ cls := "ExactlySaid", name := "stepOf", desc := "(I)I" } : Jvm.MethodName) "ExactlySaid" ∈ TN := cTN6 (i := 208) rfl rfl
theorem t_1409 : Jvm.Cond.static ({ cls := "ExactlySaid", name := "stepOf", desc := "(I)I" } : Jvm.MethodName) ∈ TB := cTB6 (i := 209) rfl rfl
theorem t_1410 : Jvm.Cond.code ({ cls := "ExactlySaid", name := "stepOf", desc := "(I)I" } : Jvm.MethodName) prog_1_method_41_code (2 : Nat) (Option.some Jvm.ClassFile.FieldType.int) ∈ TB := cTB6 (i := 210) rfl rfl
theorem t_1411 : Jvm.Cond.fieldLink "ExactlySaid" (349 : Nat) "ExactlySaid" "KNOWN_WORDS" "[I" ∈ TB := cTB6 (i := 211) rfl rfl
theorem t_1413 : Jvm.Cond.methodLink "ExactlySaid$Reader" (209 : Nat) ({ cls := "ExactlySaid$Reader", name := "readWord", desc := "(II)Z" } : Jvm.MethodName) ∈ TB := cTB6 (i := 213) rfl rfl
theorem t_1415 : Jvm.Cond.instanceMethod ({ cls := "ExactlySaid$Reader", name := "readWord", desc := "(II)Z" } : Jvm.MethodName) ∈ TB := cTB6 (i := 215) rfl rfl
theorem t_1416 : Jvm.Cond.code ({ cls := "ExactlySaid$Reader", name := "readWord", desc := "(II)Z" } : Jvm.MethodName) prog_6_method_28_code (4 : Nat) (Option.some Jvm.ClassFile.FieldType.boolean) ∈ TB := cTB6 (i := 216) rfl rfl
theorem t_1417 : Jvm.Cond.methodLink "ExactlySaid$Reader" (196 : Nat) ({ cls := "ExactlySaid$Reader", name := "productStep", desc := "(I)I" } : Jvm.MethodName) ∈ TB := cTB6 (i := 217) rfl rfl
theorem t_1418 : Jvm.Cond.static ({ cls := "ExactlySaid$Reader", name := "productStep", desc := "(I)I" } : Jvm.MethodName) ∈ TB := cTB6 (i := 218) rfl rfl
theorem t_1419 : Jvm.Cond.code ({ cls := "ExactlySaid$Reader", name := "productStep", desc := "(I)I" } : Jvm.MethodName) prog_6_method_24_code (1 : Nat) (Option.some Jvm.ClassFile.FieldType.int) ∈ TB := cTB6 (i := 219) rfl rfl
theorem t_1420 : Jvm.Cond.classLink "ExactlySaid$Reader" (79 : Nat) "ExactlySaid$Sum" ∈ TB := cTB6 (i := 220) rfl rfl
theorem t_1421 : Jvm.Cond.instantiable "ExactlySaid$Sum" (5 : Nat) ∈ TB := cTB6 (i := 221) rfl rfl
theorem t_1422 : Jvm.Cond.methodLink "ExactlySaid$Reader" (81 : Nat) ({ cls := "java/util/Arrays", name := "copyOf", desc := "([II)[I" } : Jvm.MethodName) ∈ TB := cTB6 (i := 222) rfl rfl
theorem t_1423 : Jvm.Cond.methodLink "ExactlySaid$Reader" (87 : Nat) ({ cls := "ExactlySaid$Reader", name := "readNumbers", desc := "(LExactlySaid$Reckoner;)[LExactlySaid$Fraction;" } : Jvm.MethodName) ∈ TB := cTB6 (i := 223) rfl rfl
theorem t_1425 : Jvm.Cond.instanceMethod ({ cls := "ExactlySaid$Reader", name := "readNumbers", desc := "(LExactlySaid$Reckoner;)[LExactlySaid$Fraction;" } : Jvm.MethodName) ∈ TB := cTB6 (i := 225) rfl rfl
theorem t_1426 : Jvm.Cond.code ({ cls := "ExactlySaid$Reader", name := "readNumbers", desc := "(LExactlySaid$Reckoner;)[LExactlySaid$Fraction;" } : Jvm.MethodName) prog_6_method_13_code (4 : Nat) (Option.some (Jvm.ClassFile.FieldType.array (Jvm.ClassFile.FieldType.object "ExactlySaid$Fraction"))) ∈ TB := cTB6 (i := 226) rfl rfl
theorem t_1427 : Jvm.Cond.classLink "ExactlySaid$Reader" (128 : Nat) "ExactlySaid$Fraction" ∈ TB := cTB6 (i := 227) rfl rfl
theorem t_1428 : Jvm.Cond.methodLink "ExactlySaid$Reader" (130 : Nat) ({ cls := "ExactlySaid$Reader", name := "numberFrom", desc := "(ILExactlySaid$Reckoner;)LExactlySaid$Fraction;" } : Jvm.MethodName) ∈ TB := cTB6 (i := 228) rfl rfl
theorem t_1430 : Jvm.Cond.instanceMethod ({ cls := "ExactlySaid$Reader", name := "numberFrom", desc := "(ILExactlySaid$Reckoner;)LExactlySaid$Fraction;" } : Jvm.MethodName) ∈ TB := cTB6 (i := 230) rfl rfl
theorem t_1431 : Jvm.Cond.code ({ cls := "ExactlySaid$Reader", name := "numberFrom", desc := "(ILExactlySaid$Reckoner;)LExactlySaid$Fraction;" } : Jvm.MethodName) prog_6_method_14_code (12 : Nat) (Option.some (Jvm.ClassFile.FieldType.object "ExactlySaid$Fraction")) ∈ TB := cTB6 (i := 231) rfl rfl
theorem t_1432 : Jvm.Cond.constantLong "ExactlySaid$Reader" (134 : Nat) (10 : Int64) ∈ TB := cTB6 (i := 232) rfl rfl
theorem t_1433 : Jvm.Cond.constantLong "ExactlySaid$Reader" (136 : Nat) (48 : Int64) ∈ TB := cTB6 (i := 233) rfl rfl
theorem t_1434 : Jvm.Cond.methodLinkNest "ExactlySaid$Reader" (138 : Nat) ({ cls := "ExactlySaid$Fraction", name := "<init>", desc := "()V" } : Jvm.MethodName) "ExactlySaid" ∈ TN := cTN6 (i := 234) rfl rfl
theorem t_1435 : Jvm.Cond.methodLinkNest "ExactlySaid$Reader" (143 : Nat) ({ cls := "ExactlySaid$Nat", name := "setSmall", desc := "(J)V" } : Jvm.MethodName) "ExactlySaid" ∈ TN := cTN6 (i := 235) rfl rfl
theorem t_1436 : Jvm.Cond.constant "ExactlySaid$Reader" (149 : Nat) (1000000 : Int32) ∈ TB := cTB6 (i := 236) rfl rfl
theorem t_1437 : Jvm.Cond.methodLinkNest "ExactlySaid$Reader" (150 : Nat) ({ cls := "ExactlySaid$Nat", name := "raise", desc := "(II)V" } : Jvm.MethodName) "ExactlySaid" ∈ TN := cTN6 (i := 237) rfl rfl
theorem t_1438 : Jvm.Cond.methodLinkNest "ExactlySaid$Reader" (157 : Nat) ({ cls := "ExactlySaid$Fraction", name := "setSign", desc := "(I)V" } : Jvm.MethodName) "ExactlySaid" ∈ TN := cTN6 (i := 238) rfl rfl
theorem t_1439 : Jvm.Cond.methodLinkNest "ExactlySaid$Reader" (161 : Nat) ({ cls := "ExactlySaid$Reckoner", name := "reduce", desc := "(LExactlySaid$Fraction;)V" } : Jvm.MethodName) "ExactlySaid" ∈ TN := cTN6 (i := 239) rfl rfl
theorem t_1440 : Jvm.Cond.methodLinkNest "ExactlySaid$Reader" (91 : Nat) ({ cls := "ExactlySaid$Sum", name := "<init>", desc := "([I[I[I[I[LExactlySaid$Fraction;)V" } : Jvm.MethodName) "ExactlySaid" ∈ TN := cTN7 (i := 0) rfl rfl
theorem t_1441 : Jvm.Cond.instanceMethod ({ cls := "ExactlySaid$Sum", name := "<init>", desc := "([I[I[I[I[LExactlySaid$Fraction;)V" } : Jvm.MethodName) ∈ TB := cTB7 (i := 1) rfl rfl
theorem t_1442 : Jvm.Cond.code ({ cls := "ExactlySaid$Sum", name := "<init>", desc := "([I[I[I[I[LExactlySaid$Fraction;)V" } : Jvm.MethodName) prog_11_method_1_code (6 : Nat) (Option.none : Option Jvm.ClassFile.FieldType) ∈ TB := cTB7 (i := 2) rfl rfl
theorem t_1443 : Jvm.Cond.methodLink "ExactlySaid$Sum" (1 : Nat) ({ cls := "java/lang/Object", name := "<init>", desc := "()V" } : Jvm.MethodName) ∈ TB := cTB7 (i := 3) rfl rfl
theorem t_1444 : Jvm.Cond.fieldLink "ExactlySaid$Sum" (7 : Nat) "ExactlySaid$Sum" "kinds" "[I" ∈ TB := cTB7 (i := 4) rfl rfl
theorem t_1445 : Jvm.Cond.fieldLinkNest "ExactlySaid$Machine" (50 : Nat) "ExactlySaid$Sum" "kinds" "[I" "ExactlySaid" ∈ TN := cTN7 (i := 5) rfl rfl
theorem t_1446 : Jvm.Cond.fieldLinkNest "ExactlySaid$Book" (69 : Nat) "ExactlySaid$Sum" "kinds" "[I" "ExactlySaid" ∈ TN := cTN7 (i := 6) rfl rfl
theorem t_1447 : Jvm.Cond.fieldLink "ExactlySaid$Sum" (13 : Nat) "ExactlySaid$Sum" "operands" "[I" ∈ TB := cTB7 (i := 7) rfl rfl
theorem t_1448 : Jvm.Cond.fieldLinkNest "ExactlySaid$Machine" (63 : Nat) "ExactlySaid$Sum" "operands" "[I" "ExactlySaid" ∈ TN := cTN7 (i := 8) rfl rfl
theorem t_1449 : Jvm.Cond.fieldLinkNest "ExactlySaid$Book" (81 : Nat) "ExactlySaid$Sum" "operands" "[I" "ExactlySaid" ∈ TN := cTN7 (i := 9) rfl rfl
theorem t_1450 : Jvm.Cond.fieldLink "ExactlySaid$Sum" (16 : Nat) "ExactlySaid$Sum" "places" "[I" ∈ TB := cTB7 (i := 10) rfl rfl
theorem t_1451 : Jvm.Cond.fieldLinkNest "ExactlySaid$Machine" (57 : Nat) "ExactlySaid$Sum" "places" "[I" "ExactlySaid" ∈ TN := cTN7 (i := 11) rfl rfl
theorem t_1452 : Jvm.Cond.fieldLinkNest "ExactlySaid$Book" (78 : Nat) "ExactlySaid$Sum" "places" "[I" "ExactlySaid" ∈ TN := cTN7 (i := 12) rfl rfl
theorem t_1453 : Jvm.Cond.fieldLink "ExactlySaid$Sum" (19 : Nat) "ExactlySaid$Sum" "counts" "[I" ∈ TB := cTB7 (i := 13) rfl rfl
theorem t_1454 : Jvm.Cond.fieldLinkNest "ExactlySaid$Book" (92 : Nat) "ExactlySaid$Sum" "counts" "[I" "ExactlySaid" ∈ TN := cTN7 (i := 14) rfl rfl
theorem t_1455 : Jvm.Cond.fieldLink "ExactlySaid$Sum" (22 : Nat) "ExactlySaid$Sum" "numbers" "[LExactlySaid$Fraction;" ∈ TB := cTB7 (i := 15) rfl rfl
theorem t_1456 : Jvm.Cond.fieldLinkNest "ExactlySaid$Machine" (107 : Nat) "ExactlySaid$Sum" "numbers" "[LExactlySaid$Fraction;" "ExactlySaid" ∈ TN := cTN7 (i := 16) rfl rfl
theorem t_1473 : Jvm.Cond.methodLink "ExactlySaid" (106 : Nat) ({ cls := "ExactlySaid", name := "isRefusedAhead", desc := "()Z" } : Jvm.MethodName) ∈ TB := cTB7 (i := 33) rfl rfl
theorem t_1475 : Jvm.Cond.instanceMethod ({ cls := "ExactlySaid", name := "isRefusedAhead", desc := "()Z" } : Jvm.MethodName) ∈ TB := cTB7 (i := 35) rfl rfl
theorem t_1476 : Jvm.Cond.code ({ cls := "ExactlySaid", name := "isRefusedAhead", desc := "()Z" } : Jvm.MethodName) prog_1_method_13_code (4 : Nat) (Option.some Jvm.ClassFile.FieldType.boolean) ∈ TB := cTB7 (i := 36) rfl rfl
theorem t_1477 : Jvm.Cond.methodLinkNest "ExactlySaid" (158 : Nat) ({ cls := "ExactlySaid$Book", name := "firstUnknown", desc := "(LExactlySaid$Sum;)I" } : Jvm.MethodName) "ExactlySaid" ∈ TN := cTN7 (i := 37) rfl rfl
theorem t_1479 : Jvm.Cond.instanceMethod ({ cls := "ExactlySaid$Book", name := "firstUnknown", desc := "(LExactlySaid$Sum;)I" } : Jvm.MethodName) ∈ TB := cTB7 (i := 39) rfl rfl
theorem t_1480 : Jvm.Cond.code ({ cls := "ExactlySaid$Book", name := "firstUnknown", desc := "(LExactlySaid$Sum;)I" } : Jvm.MethodName) prog_2_method_11_code (4 : Nat) (Option.some Jvm.ClassFile.FieldType.int) ∈ TB := cTB7 (i := 40) rfl rfl
theorem t_1481 : Jvm.Cond.methodLink "ExactlySaid$Book" (74 : Nat) ({ cls := "ExactlySaid$Book", name := "isKnown", desc := "(LExactlySaid$Sum;I)Z" } : Jvm.MethodName) ∈ TB := cTB7 (i := 41) rfl rfl
theorem t_1483 : Jvm.Cond.instanceMethod ({ cls := "ExactlySaid$Book", name := "isKnown", desc := "(LExactlySaid$Sum;I)Z" } : Jvm.MethodName) ∈ TB := cTB7 (i := 43) rfl rfl
theorem t_1484 : Jvm.Cond.code ({ cls := "ExactlySaid$Book", name := "isKnown", desc := "(LExactlySaid$Sum;I)Z" } : Jvm.MethodName) prog_2_method_12_code (5 : Nat) (Option.some Jvm.ClassFile.FieldType.boolean) ∈ TB := cTB7 (i := 44) rfl rfl
theorem t_1485 : Jvm.Cond.methodLink "ExactlySaid$Book" (84 : Nat) ({ cls := "ExactlySaid$Book", name := "find", desc := "(IZ)I" } : Jvm.MethodName) ∈ TB := cTB7 (i := 45) rfl rfl
theorem t_1486 : Jvm.Cond.methodLink "ExactlySaid$Book" (88 : Nat) ({ cls := "ExactlySaid$Book", name := "parametersOf", desc := "(I)I" } : Jvm.MethodName) ∈ TB := cTB7 (i := 46) rfl rfl
theorem t_1488 : Jvm.Cond.instanceMethod ({ cls := "ExactlySaid$Book", name := "parametersOf", desc := "(I)I" } : Jvm.MethodName) ∈ TB := cTB7 (i := 48) rfl rfl
theorem t_1489 : Jvm.Cond.code ({ cls := "ExactlySaid$Book", name := "parametersOf", desc := "(I)I" } : Jvm.MethodName) prog_2_method_9_code (3 : Nat) (Option.some Jvm.ClassFile.FieldType.int) ∈ TB := cTB7 (i := 49) rfl rfl
theorem t_1490 : Jvm.Cond.methodLink "ExactlySaid$Book" (57 : Nat) ({ cls := "ExactlySaid$Book", name := "toldAt", desc := "(I)LExactlySaid$Told;" } : Jvm.MethodName) ∈ TB := cTB7 (i := 50) rfl rfl
theorem t_1491 : Jvm.Cond.methodLinkNest "ExactlySaid$Book" (95 : Nat) ({ cls := "ExactlySaid", name := "valuesOf", desc := "(I)I" } : Jvm.MethodName) "ExactlySaid" ∈ TN := cTN7 (i := 51) rfl rfl
theorem t_1492 : Jvm.Cond.methodLink "ExactlySaid" (164 : Nat) ({ cls := "ExactlySaid", name := "refuse", desc := "(II)V" } : Jvm.MethodName) ∈ TB := cTB7 (i := 52) rfl rfl
theorem t_1494 : Jvm.Cond.instanceMethod ({ cls := "ExactlySaid", name := "refuse", desc := "(II)V" } : Jvm.MethodName) ∈ TB := cTB7 (i := 54) rfl rfl
theorem t_1495 : Jvm.Cond.code ({ cls := "ExactlySaid", name := "refuse", desc := "(II)V" } : Jvm.MethodName) prog_1_method_12_code (3 : Nat) (Option.none : Option Jvm.ClassFile.FieldType) ∈ TB := cTB7 (i := 55) rfl rfl
theorem t_1496 : Jvm.Cond.methodLink "ExactlySaid" (175 : Nat) ({ cls := "ExactlySaid", name := "isTaken", desc := "(LExactlySaid$Book;I)Z" } : Jvm.MethodName) ∈ TB := cTB7 (i := 56) rfl rfl
theorem t_1498 : Jvm.Cond.instanceMethod ({ cls := "ExactlySaid", name := "isTaken", desc := "(LExactlySaid$Book;I)Z" } : Jvm.MethodName) ∈ TB := cTB7 (i := 58) rfl rfl
theorem t_1499 : Jvm.Cond.code ({ cls := "ExactlySaid", name := "isTaken", desc := "(LExactlySaid$Book;I)Z" } : Jvm.MethodName) prog_1_method_14_code (3 : Nat) (Option.some Jvm.ClassFile.FieldType.boolean) ∈ TB := cTB7 (i := 59) rfl rfl
theorem t_1500 : Jvm.Cond.methodLink "ExactlySaid" (197 : Nat) ({ cls := "ExactlySaid", name := "stepOf", desc := "(I)I" } : Jvm.MethodName) ∈ TB := cTB7 (i := 60) rfl rfl
theorem t_1501 : Jvm.Cond.methodLinkNest "ExactlySaid" (200 : Nat) ({ cls := "ExactlySaid$Book", name := "isUsed", desc := "(I)Z" } : Jvm.MethodName) "ExactlySaid" ∈ TN := cTN7 (i := 61) rfl rfl
theorem t_1503 : Jvm.Cond.instanceMethod ({ cls := "ExactlySaid$Book", name := "isUsed", desc := "(I)Z" } : Jvm.MethodName) ∈ TB := cTB7 (i := 63) rfl rfl
theorem t_1504 : Jvm.Cond.code ({ cls := "ExactlySaid$Book", name := "isUsed", desc := "(I)Z" } : Jvm.MethodName) prog_2_method_16_code (3 : Nat) (Option.some Jvm.ClassFile.FieldType.boolean) ∈ TB := cTB7 (i := 64) rfl rfl
theorem t_1505 : Jvm.Cond.methodLinkNest "ExactlySaid" (204 : Nat) ({ cls := "ExactlySaid$Book", name := "parametersOf", desc := "(I)I" } : Jvm.MethodName) "ExactlySaid" ∈ TN := cTN7 (i := 65) rfl rfl
theorem t_1506 : Jvm.Cond.methodLink "ExactlySaid" (182 : Nat) ({ cls := "ExactlySaid", name := "isFull", desc := "(LExactlySaid$Book;)Z" } : Jvm.MethodName) ∈ TB := cTB7 (i := 66) rfl rfl
theorem t_1508 : Jvm.Cond.instanceMethod ({ cls := "ExactlySaid", name := "isFull", desc := "(LExactlySaid$Book;)Z" } : Jvm.MethodName) ∈ TB := cTB7 (i := 68) rfl rfl
theorem t_1509 : Jvm.Cond.code ({ cls := "ExactlySaid", name := "isFull", desc := "(LExactlySaid$Book;)Z" } : Jvm.MethodName) prog_1_method_15_code (2 : Nat) (Option.some Jvm.ClassFile.FieldType.boolean) ∈ TB := cTB7 (i := 69) rfl rfl
theorem t_1510 : Jvm.Cond.methodLinkNest "ExactlySaid" (186 : Nat) ({ cls := "ExactlySaid$Book", name := "usedBy", desc := "(LExactlySaid$Sum;)I" } : Jvm.MethodName) "ExactlySaid" ∈ TN := cTN7 (i := 70) rfl rfl
theorem t_1512 : Jvm.Cond.instanceMethod ({ cls := "ExactlySaid$Book", name := "usedBy", desc := "(LExactlySaid$Sum;)I" } : Jvm.MethodName) ∈ TB := cTB7 (i := 72) rfl rfl
theorem t_1513 : Jvm.Cond.code ({ cls := "ExactlySaid$Book", name := "usedBy", desc := "(LExactlySaid$Sum;)I" } : Jvm.MethodName) prog_2_method_13_code (5 : Nat) (Option.some Jvm.ClassFile.FieldType.int) ∈ TB := cTB7 (i := 73) rfl rfl
theorem t_1514 : Jvm.Cond.methodLinkNest "ExactlySaid" (189 : Nat) ({ cls := "ExactlySaid$Book", name := "leadsTo", desc := "(II)Z" } : Jvm.MethodName) "ExactlySaid" ∈ TN := cTN7 (i := 74) rfl rfl
theorem t_1516 : Jvm.Cond.instanceMethod ({ cls := "ExactlySaid$Book", name := "leadsTo", desc := "(II)Z" } : Jvm.MethodName) ∈ TB := cTB7 (i := 76) rfl rfl
theorem t_1517 : Jvm.Cond.code ({ cls := "ExactlySaid$Book", name := "leadsTo", desc := "(II)Z" } : Jvm.MethodName) prog_2_method_18_code (3 : Nat) (Option.some Jvm.ClassFile.FieldType.boolean) ∈ TB := cTB7 (i := 77) rfl rfl
theorem t_1518 : Jvm.Cond.methodLink "ExactlySaid$Book" (102 : Nat) ({ cls := "ExactlySaid$Book", name := "firstTowards", desc := "(II)I" } : Jvm.MethodName) ∈ TB := cTB7 (i := 78) rfl rfl
theorem t_1520 : Jvm.Cond.instanceMethod ({ cls := "ExactlySaid$Book", name := "firstTowards", desc := "(II)I" } : Jvm.MethodName) ∈ TB := cTB7 (i := 80) rfl rfl
theorem t_1521 : Jvm.Cond.code ({ cls := "ExactlySaid$Book", name := "firstTowards", desc := "(II)I" } : Jvm.MethodName) prog_2_method_19_code (4 : Nat) (Option.some Jvm.ClassFile.FieldType.int) ∈ TB := cTB7 (i := 81) rfl rfl
theorem t_1522 : Jvm.Cond.methodLink "ExactlySaid" (193 : Nat) ({ cls := "ExactlySaid", name := "traceRing", desc := "(LExactlySaid$Book;I)V" } : Jvm.MethodName) ∈ TB := cTB7 (i := 82) rfl rfl
theorem t_1524 : Jvm.Cond.instanceMethod ({ cls := "ExactlySaid", name := "traceRing", desc := "(LExactlySaid$Book;I)V" } : Jvm.MethodName) ∈ TB := cTB7 (i := 84) rfl rfl
theorem t_1525 : Jvm.Cond.code ({ cls := "ExactlySaid", name := "traceRing", desc := "(LExactlySaid$Book;I)V" } : Jvm.MethodName) prog_1_method_16_code (6 : Nat) (Option.none : Option Jvm.ClassFile.FieldType) ∈ TB := cTB7 (i := 85) rfl rfl
theorem t_1526 : Jvm.Cond.methodLinkNest "ExactlySaid" (217 : Nat) ({ cls := "ExactlySaid$Book", name := "signedWordOf", desc := "(I)I" } : Jvm.MethodName) "ExactlySaid" ∈ TN := cTN7 (i := 86) rfl rfl
theorem t_1528 : Jvm.Cond.instanceMethod ({ cls := "ExactlySaid$Book", name := "signedWordOf", desc := "(I)I" } : Jvm.MethodName) ∈ TB := cTB7 (i := 88) rfl rfl
theorem t_1529 : Jvm.Cond.code ({ cls := "ExactlySaid$Book", name := "signedWordOf", desc := "(I)I" } : Jvm.MethodName) prog_2_method_10_code (3 : Nat) (Option.some Jvm.ClassFile.FieldType.int) ∈ TB := cTB7 (i := 89) rfl rfl
theorem t_1530 : Jvm.Cond.methodLinkNest "ExactlySaid" (220 : Nat) ({ cls := "ExactlySaid$Book", name := "firstTowards", desc := "(II)I" } : Jvm.MethodName) "ExactlySaid" ∈ TN := cTN7 (i := 90) rfl rfl
theorem t_1531 : Jvm.Cond.methodLinkNest "ExactlySaid" (224 : Nat) ({ cls := "ExactlySaid$Book", name := "directFrom", desc := "(I)I" } : Jvm.MethodName) "ExactlySaid" ∈ TN := cTN7 (i := 91) rfl rfl
theorem t_1533 : Jvm.Cond.instanceMethod ({ cls := "ExactlySaid$Book", name := "directFrom", desc := "(I)I" } : Jvm.MethodName) ∈ TB := cTB7 (i := 93) rfl rfl
theorem t_1534 : Jvm.Cond.code ({ cls := "ExactlySaid$Book", name := "directFrom", desc := "(I)I" } : Jvm.MethodName) prog_2_method_14_code (2 : Nat) (Option.some Jvm.ClassFile.FieldType.int) ∈ TB := cTB7 (i := 94) rfl rfl
theorem t_1535 : Jvm.Cond.methodLink "ExactlySaid" (110 : Nat) ({ cls := "ExactlySaid", name := "isRefusedAtWork", desc := "()Z" } : Jvm.MethodName) ∈ TB := cTB7 (i := 95) rfl rfl
theorem t_1537 : Jvm.Cond.instanceMethod ({ cls := "ExactlySaid", name := "isRefusedAtWork", desc := "()Z" } : Jvm.MethodName) ∈ TB := cTB7 (i := 97) rfl rfl
theorem t_1538 : Jvm.Cond.code ({ cls := "ExactlySaid", name := "isRefusedAtWork", desc := "()Z" } : Jvm.MethodName) prog_1_method_17_code (2 : Nat) (Option.some Jvm.ClassFile.FieldType.boolean) ∈ TB := cTB7 (i := 98) rfl rfl
theorem t_1544 : Jvm.Cond.methodLinkNest "ExactlySaid" (122 : Nat) ({ cls := "ExactlySaid$Fraction", name := "<init>", desc := "(LExactlySaid$Fraction;)V" } : Jvm.MethodName) "ExactlySaid" ∈ TN := cTN7 (i := 104) rfl rfl
theorem t_1545 : Jvm.Cond.instanceMethod ({ cls := "ExactlySaid$Fraction", name := "<init>", desc := "(LExactlySaid$Fraction;)V" } : Jvm.MethodName) ∈ TB := cTB7 (i := 105) rfl rfl
theorem t_1546 : Jvm.Cond.code ({ cls := "ExactlySaid$Fraction", name := "<init>", desc := "(LExactlySaid$Fraction;)V" } : Jvm.MethodName) prog_3_method_2_code (2 : Nat) (Option.none : Option Jvm.ClassFile.FieldType) ∈ TB := cTB7 (i := 106) rfl rfl
theorem t_1547 : Jvm.Cond.methodLink "ExactlySaid$Fraction" (23 : Nat) ({ cls := "ExactlySaid$Fraction", name := "setTo", desc := "(LExactlySaid$Fraction;)V" } : Jvm.MethodName) ∈ TB := cTB7 (i := 107) rfl rfl
theorem t_1548 : Jvm.Cond.methodLink "ExactlySaid" (125 : Nat) ({ cls := "ExactlySaid", name := "bookWith", desc := "(LExactlySaid$Fraction;)LExactlySaid$Book;" } : Jvm.MethodName) ∈ TB := cTB7 (i := 108) rfl rfl
theorem t_1550 : Jvm.Cond.instanceMethod ({ cls := "ExactlySaid", name := "bookWith", desc := "(LExactlySaid$Fraction;)LExactlySaid$Book;" } : Jvm.MethodName) ∈ TB := cTB7 (i := 110) rfl rfl
theorem t_1551 : Jvm.Cond.code ({ cls := "ExactlySaid", name := "bookWith", desc := "(LExactlySaid$Fraction;)LExactlySaid$Book;" } : Jvm.MethodName) prog_1_method_18_code (8 : Nat) (Option.some (Jvm.ClassFile.FieldType.object "ExactlySaid$Book")) ∈ TB := cTB7 (i := 111) rfl rfl
theorem t_1552 : Jvm.Cond.classLink "ExactlySaid" (237 : Nat) "ExactlySaid$Told" ∈ TB := cTB7 (i := 112) rfl rfl
theorem t_1553 : Jvm.Cond.instantiable "ExactlySaid$Told" (4 : Nat) ∈ TB := cTB7 (i := 113) rfl rfl
theorem t_1554 : Jvm.Cond.methodLinkNest "ExactlySaid" (239 : Nat) ({ cls := "ExactlySaid$Told", name := "<init>", desc := "(IILExactlySaid$Sum;LExactlySaid$Fraction;)V" } : Jvm.MethodName) "ExactlySaid" ∈ TN := cTN7 (i := 114) rfl rfl
theorem t_1555 : Jvm.Cond.instanceMethod ({ cls := "ExactlySaid$Told", name := "<init>", desc := "(IILExactlySaid$Sum;LExactlySaid$Fraction;)V" } : Jvm.MethodName) ∈ TB := cTB7 (i := 115) rfl rfl
theorem t_1556 : Jvm.Cond.code ({ cls := "ExactlySaid$Told", name := "<init>", desc := "(IILExactlySaid$Sum;LExactlySaid$Fraction;)V" } : Jvm.MethodName) prog_12_method_1_code (5 : Nat) (Option.none : Option Jvm.ClassFile.FieldType) ∈ TB := cTB7 (i := 116) rfl rfl
theorem t_1557 : Jvm.Cond.methodLink "ExactlySaid$Told" (1 : Nat) ({ cls := "java/lang/Object", name := "<init>", desc := "()V" } : Jvm.MethodName) ∈ TB := cTB7 (i := 117) rfl rfl
theorem t_1558 : Jvm.Cond.fieldLink "ExactlySaid$Told" (7 : Nat) "ExactlySaid$Told" "word" "I" ∈ TB := cTB7 (i := 118) rfl rfl
theorem t_1559 : Jvm.Cond.fieldLinkNest "ExactlySaid$Book" (54 : Nat) "ExactlySaid$Told" "word" "I" "ExactlySaid" ∈ TN := cTN7 (i := 119) rfl rfl
theorem t_1560 : Jvm.Cond.fieldLinkNest "ExactlySaid" (246 : Nat) "ExactlySaid$Told" "word" "I" "ExactlySaid" ∈ TN := cTN7 (i := 120) rfl rfl
theorem t_1561 : Jvm.Cond.fieldLink "ExactlySaid$Told" (13 : Nat) "ExactlySaid$Told" "parameterCount" "I" ∈ TB := cTB7 (i := 121) rfl rfl
theorem t_1562 : Jvm.Cond.fieldLinkNest "ExactlySaid$Book" (25 : Nat) "ExactlySaid$Told" "parameterCount" "I" "ExactlySaid" ∈ TN := cTN7 (i := 122) rfl rfl
theorem t_1563 : Jvm.Cond.fieldLinkNest "ExactlySaid$Machine" (119 : Nat) "ExactlySaid$Told" "parameterCount" "I" "ExactlySaid" ∈ TN := cTN7 (i := 123) rfl rfl
theorem t_1564 : Jvm.Cond.fieldLinkNest "ExactlySaid" (336 : Nat) "ExactlySaid$Told" "parameterCount" "I" "ExactlySaid" ∈ TN := cTN7 (i := 124) rfl rfl
theorem t_1565 : Jvm.Cond.fieldLink "ExactlySaid$Told" (16 : Nat) "ExactlySaid$Told" "sum" "LExactlySaid$Sum;" ∈ TB := cTB7 (i := 125) rfl rfl
theorem t_1566 : Jvm.Cond.fieldLinkNest "ExactlySaid$Book" (61 : Nat) "ExactlySaid$Told" "sum" "LExactlySaid$Sum;" "ExactlySaid" ∈ TN := cTN7 (i := 126) rfl rfl
theorem t_1567 : Jvm.Cond.fieldLinkNest "ExactlySaid$Machine" (122 : Nat) "ExactlySaid$Told" "sum" "LExactlySaid$Sum;" "ExactlySaid" ∈ TN := cTN7 (i := 127) rfl rfl
theorem t_1568 : Jvm.Cond.fieldLinkNest "ExactlySaid" (257 : Nat) "ExactlySaid$Told" "sum" "LExactlySaid$Sum;" "ExactlySaid" ∈ TN := cTN7 (i := 128) rfl rfl
theorem t_1569 : Jvm.Cond.fieldLink "ExactlySaid$Told" (20 : Nat) "ExactlySaid$Told" "value" "LExactlySaid$Fraction;" ∈ TB := cTB7 (i := 129) rfl rfl
theorem t_1570 : Jvm.Cond.fieldLinkNest "ExactlySaid$Machine" (110 : Nat) "ExactlySaid$Told" "value" "LExactlySaid$Fraction;" "ExactlySaid" ∈ TN := cTN7 (i := 130) rfl rfl
theorem t_1571 : Jvm.Cond.fieldLinkNest "ExactlySaid" (330 : Nat) "ExactlySaid$Told" "value" "LExactlySaid$Fraction;" "ExactlySaid" ∈ TN := cTN7 (i := 131) rfl rfl
theorem t_1581 : Jvm.Cond.methodLinkNest "ExactlySaid" (242 : Nat) ({ cls := "ExactlySaid$Book", name := "with", desc := "(LExactlySaid$Told;)LExactlySaid$Book;" } : Jvm.MethodName) "ExactlySaid" ∈ TN := cTN7 (i := 141) rfl rfl
theorem t_1583 : Jvm.Cond.instanceMethod ({ cls := "ExactlySaid$Book", name := "with", desc := "(LExactlySaid$Told;)LExactlySaid$Book;" } : Jvm.MethodName) ∈ TB := cTB7 (i := 143) rfl rfl
theorem t_1584 : Jvm.Cond.code ({ cls := "ExactlySaid$Book", name := "with", desc := "(LExactlySaid$Told;)LExactlySaid$Book;" } : Jvm.MethodName) prog_2_method_2_code (4 : Nat) (Option.some (Jvm.ClassFile.FieldType.object "ExactlySaid$Book")) ∈ TB := cTB7 (i := 144) rfl rfl
theorem t_1585 : Jvm.Cond.classLink "ExactlySaid$Book" (10 : Nat) "ExactlySaid$Book" ∈ TB := cTB7 (i := 145) rfl rfl
theorem t_1586 : Jvm.Cond.methodLink "ExactlySaid$Book" (31 : Nat) ({ cls := "[LExactlySaid$Told;", name := "clone", desc := "()Ljava/lang/Object;" } : Jvm.MethodName) ∈ TB := cTB7 (i := 146) rfl rfl
theorem t_1587 : Jvm.Cond.sameMethod "[LExactlySaid$Told;" "java/lang/Object" "clone" "()Ljava/lang/Object;" ∈ TB := cTB7 (i := 147) rfl rfl
theorem t_1588 : Jvm.Cond.selects "[LExactlySaid$Told;" ({ cls := "[LExactlySaid$Told;", name := "clone", desc := "()Ljava/lang/Object;" } : Jvm.MethodName) ({ cls := "java/lang/Object", name := "clone", desc := "()Ljava/lang/Object;" } : Jvm.MethodName) ∈ TB := cTB7 (i := 148) rfl rfl
theorem t_1589 : Jvm.Cond.castable "[LExactlySaid$Told;" "java/lang/Cloneable" ∈ TN := cTN7 (i := 149) rfl rfl
theorem t_1590 : Jvm.Cond.classLink "ExactlySaid$Book" (32 : Nat) "[LExactlySaid$Told;" ∈ TB := cTB7 (i := 150) rfl rfl
theorem t_1591 : Jvm.Cond.methodLink "ExactlySaid$Book" (36 : Nat) ({ cls := "ExactlySaid$Book", name := "placed", desc := "([LExactlySaid$Told;LExactlySaid$Told;)[LExactlySaid$Told;" } : Jvm.MethodName) ∈ TB := cTB7 (i := 151) rfl rfl
theorem t_1592 : Jvm.Cond.static ({ cls := "ExactlySaid$Book", name := "placed", desc := "([LExactlySaid$Told;LExactlySaid$Told;)[LExactlySaid$Told;" } : Jvm.MethodName) ∈ TB := cTB7 (i := 152) rfl rfl
theorem t_1593 : Jvm.Cond.code ({ cls := "ExactlySaid$Book", name := "placed", desc := "([LExactlySaid$Told;LExactlySaid$Told;)[LExactlySaid$Told;" } : Jvm.MethodName) prog_2_method_4_code (7 : Nat) (Option.some (Jvm.ClassFile.FieldType.array (Jvm.ClassFile.FieldType.object "ExactlySaid$Told"))) ∈ TB := cTB7 (i := 153) rfl rfl
theorem t_1594 : Jvm.Cond.methodLinkNest "ExactlySaid$Book" (50 : Nat) ({ cls := "ExactlySaid$Told", name := "key", desc := "()I" } : Jvm.MethodName) "ExactlySaid" ∈ TN := cTN7 (i := 154) rfl rfl
theorem t_1596 : Jvm.Cond.instanceMethod ({ cls := "ExactlySaid$Told", name := "key", desc := "()I" } : Jvm.MethodName) ∈ TB := cTB7 (i := 156) rfl rfl
theorem t_1597 : Jvm.Cond.code ({ cls := "ExactlySaid$Told", name := "key", desc := "()I" } : Jvm.MethodName) prog_12_method_2_code (3 : Nat) (Option.some Jvm.ClassFile.FieldType.int) ∈ TB := cTB7 (i := 157) rfl rfl
theorem t_1598 : Jvm.Cond.constant "ExactlySaid$Told" (24 : Nat) (14348907 : Int32) ∈ TB := cTB7 (i := 158) rfl rfl
theorem t_1599 : Jvm.Cond.classLink "ExactlySaid$Book" (26 : Nat) "ExactlySaid$Told" ∈ TB := cTB7 (i := 159) rfl rfl
theorem t_1600 : Jvm.Cond.methodLink "ExactlySaid$Book" (40 : Nat) ({ cls := "ExactlySaid$Book", name := "<init>", desc := "([LExactlySaid$Told;[LExactlySaid$Told;)V" } : Jvm.MethodName) ∈ TB := cTB7 (i := 160) rfl rfl
theorem t_1601 : Jvm.Cond.methodLink "ExactlySaid$Book" (43 : Nat) ({ cls := "ExactlySaid$Book", name := "weave", desc := "()V" } : Jvm.MethodName) ∈ TB := cTB7 (i := 161) rfl rfl
theorem t_1603 : Jvm.Cond.instanceMethod ({ cls := "ExactlySaid$Book", name := "weave", desc := "()V" } : Jvm.MethodName) ∈ TB := cTB7 (i := 163) rfl rfl
theorem t_1604 : Jvm.Cond.code ({ cls := "ExactlySaid$Book", name := "weave", desc := "()V" } : Jvm.MethodName) prog_2_method_6_code (3 : Nat) (Option.none : Option Jvm.ClassFile.FieldType) ∈ TB := cTB7 (i := 164) rfl rfl
theorem t_1605 : Jvm.Cond.methodLink "ExactlySaid$Book" (65 : Nat) ({ cls := "ExactlySaid$Book", name := "usedBy", desc := "(LExactlySaid$Sum;)I" } : Jvm.MethodName) ∈ TB := cTB7 (i := 165) rfl rfl
theorem t_1606 : Jvm.Cond.methodLinkNest "ExactlySaid" (250 : Nat) ({ cls := "ExactlySaid$Book", name := "firstReady", desc := "(I)I" } : Jvm.MethodName) "ExactlySaid" ∈ TN := cTN7 (i := 166) rfl rfl
theorem t_1608 : Jvm.Cond.instanceMethod ({ cls := "ExactlySaid$Book", name := "firstReady", desc := "(I)I" } : Jvm.MethodName) ∈ TB := cTB7 (i := 168) rfl rfl
theorem t_1609 : Jvm.Cond.code ({ cls := "ExactlySaid$Book", name := "firstReady", desc := "(I)I" } : Jvm.MethodName) prog_2_method_20_code (3 : Nat) (Option.some Jvm.ClassFile.FieldType.int) ∈ TB := cTB7 (i := 169) rfl rfl
theorem t_1610 : Jvm.Cond.methodLinkNest "ExactlySaid" (253 : Nat) ({ cls := "ExactlySaid$Book", name := "toldAt", desc := "(I)LExactlySaid$Told;" } : Jvm.MethodName) "ExactlySaid" ∈ TN := cTN7 (i := 170) rfl rfl
theorem t_1611 : Jvm.Cond.methodLinkNest "ExactlySaid" (137 : Nat) ({ cls := "ExactlySaid$State", name := "<init>", desc := "(LExactlySaid$Book;[LExactlySaid$Row;)V" } : Jvm.MethodName) "ExactlySaid" ∈ TN := cTN7 (i := 171) rfl rfl
theorem t_1612 : Jvm.Cond.instanceMethod ({ cls := "ExactlySaid$State", name := "<init>", desc := "(LExactlySaid$Book;[LExactlySaid$Row;)V" } : Jvm.MethodName) ∈ TB := cTB7 (i := 172) rfl rfl
theorem t_1613 : Jvm.Cond.code ({ cls := "ExactlySaid$State", name := "<init>", desc := "(LExactlySaid$Book;[LExactlySaid$Row;)V" } : Jvm.MethodName) prog_9_method_2_code (3 : Nat) (Option.none : Option Jvm.ClassFile.FieldType) ∈ TB := cTB7 (i := 173) rfl rfl
theorem t_1614 : Jvm.Cond.methodLink "ExactlySaid" (140 : Nat) ({ cls := "ExactlySaid", name := "change", desc := "(LExactlySaid$State;)V" } : Jvm.MethodName) ∈ TB := cTB7 (i := 174) rfl rfl
theorem t_1616 : Jvm.Cond.instanceMethod ({ cls := "ExactlySaid", name := "change", desc := "(LExactlySaid$State;)V" } : Jvm.MethodName) ∈ TB := cTB7 (i := 176) rfl rfl
theorem t_1617 : Jvm.Cond.code ({ cls := "ExactlySaid", name := "change", desc := "(LExactlySaid$State;)V" } : Jvm.MethodName) prog_1_method_66_code (3 : Nat) (Option.none : Option Jvm.ClassFile.FieldType) ∈ TB := cTB7 (i := 177) rfl rfl
theorem t_1618 : Jvm.Cond.methodLink "ExactlySaidLaw" (129 : Nat) ({ cls := "ExactlySaidLaw", name := "refused", desc := "(LExactlySaid;I[J)I" } : Jvm.MethodName) ∈ TB := cTB7 (i := 178) rfl rfl
theorem t_1619 : Jvm.Cond.static ({ cls := "ExactlySaidLaw", name := "refused", desc := "(LExactlySaid;I[J)I" } : Jvm.MethodName) ∈ TB := cTB7 (i := 179) rfl rfl
theorem t_1620 : Jvm.Cond.codeWith ({ cls := "ExactlySaidLaw", name := "refused", desc := "(LExactlySaid;I[J)I" } : Jvm.MethodName) method_5_code (4 : Nat) (Option.some Jvm.ClassFile.FieldType.int) [((0 : Nat), (9 : Nat), (12 : Nat), (19 : Nat))] ∈ TB := cTB7 (i := 180) rfl rfl
theorem t_1621 : Jvm.Cond.methodLink "ExactlySaidLaw" (23 : Nat) ({ cls := "ExactlySaid", name := "refused", desc := "(I)I" } : Jvm.MethodName) ∈ TB := cTB7 (i := 181) rfl rfl
theorem t_1622 : Jvm.Cond.instanceMethod ({ cls := "ExactlySaid", name := "refused", desc := "(I)I" } : Jvm.MethodName) ∈ TB := cTB7 (i := 182) rfl rfl
theorem t_1623 : Jvm.Cond.selects "ExactlySaid" ({ cls := "ExactlySaid", name := "refused", desc := "(I)I" } : Jvm.MethodName) ({ cls := "ExactlySaid", name := "refused", desc := "(I)I" } : Jvm.MethodName) ∈ TB := cTB7 (i := 183) rfl rfl
theorem t_1624 : Jvm.Cond.code ({ cls := "ExactlySaid", name := "refused", desc := "(I)I" } : Jvm.MethodName) prog_1_method_6_code (2 : Nat) (Option.some Jvm.ClassFile.FieldType.int) ∈ TB := cTB7 (i := 184) rfl rfl
theorem t_1625 : Jvm.Cond.methodLink "ExactlySaidLaw" (141 : Nat) ({ cls := "ExactlySaidLaw", name := "ringAt", desc := "(LExactlySaid;I[J)I" } : Jvm.MethodName) ∈ TB := cTB7 (i := 185) rfl rfl
theorem t_1626 : Jvm.Cond.static ({ cls := "ExactlySaidLaw", name := "ringAt", desc := "(LExactlySaid;I[J)I" } : Jvm.MethodName) ∈ TB := cTB7 (i := 186) rfl rfl
theorem t_1627 : Jvm.Cond.codeWith ({ cls := "ExactlySaidLaw", name := "ringAt", desc := "(LExactlySaid;I[J)I" } : Jvm.MethodName) method_6_code (4 : Nat) (Option.some Jvm.ClassFile.FieldType.int) [((0 : Nat), (9 : Nat), (12 : Nat), (30 : Nat))] ∈ TB := cTB7 (i := 187) rfl rfl
theorem t_1628 : Jvm.Cond.classLink "ExactlySaidLaw" (30 : Nat) "java/lang/IndexOutOfBoundsException" ∈ TB := cTB7 (i := 188) rfl rfl
theorem t_1631 : Jvm.Cond.methodLink "ExactlySaidLaw" (27 : Nat) ({ cls := "ExactlySaid", name := "ringAt", desc := "(I)I" } : Jvm.MethodName) ∈ TB := cTB7 (i := 191) rfl rfl
theorem t_1632 : Jvm.Cond.instanceMethod ({ cls := "ExactlySaid", name := "ringAt", desc := "(I)I" } : Jvm.MethodName) ∈ TB := cTB7 (i := 192) rfl rfl
theorem t_1633 : Jvm.Cond.selects "ExactlySaid" ({ cls := "ExactlySaid", name := "ringAt", desc := "(I)I" } : Jvm.MethodName) ({ cls := "ExactlySaid", name := "ringAt", desc := "(I)I" } : Jvm.MethodName) ∈ TB := cTB7 (i := 193) rfl rfl
theorem t_1634 : Jvm.Cond.code ({ cls := "ExactlySaid", name := "ringAt", desc := "(I)I" } : Jvm.MethodName) prog_1_method_9_code (2 : Nat) (Option.some Jvm.ClassFile.FieldType.int) ∈ TB := cTB7 (i := 194) rfl rfl
theorem t_1637 : Jvm.Cond.castable "java/lang/IndexOutOfBoundsException" "java/lang/IndexOutOfBoundsException" ∈ TN := cTN7 (i := 197) rfl rfl
theorem t_1650 : Jvm.Cond.methodLink "ExactlySaidLaw" (153 : Nat) ({ cls := "ExactlySaidLaw", name := "digit", desc := "(LExactlySaid;ZI[J)I" } : Jvm.MethodName) ∈ TB := cTB7 (i := 210) rfl rfl
theorem t_1651 : Jvm.Cond.static ({ cls := "ExactlySaidLaw", name := "digit", desc := "(LExactlySaid;ZI[J)I" } : Jvm.MethodName) ∈ TB := cTB7 (i := 211) rfl rfl
theorem t_1652 : Jvm.Cond.codeWith ({ cls := "ExactlySaidLaw", name := "digit", desc := "(LExactlySaid;ZI[J)I" } : Jvm.MethodName) method_7_code (5 : Nat) (Option.some Jvm.ClassFile.FieldType.int) [((0 : Nat), (10 : Nat), (13 : Nat), (30 : Nat))] ∈ TB := cTB7 (i := 212) rfl rfl
theorem t_1653 : Jvm.Cond.methodLink "ExactlySaidLaw" (32 : Nat) ({ cls := "ExactlySaid", name := "digit", desc := "(ZI)I" } : Jvm.MethodName) ∈ TB := cTB7 (i := 213) rfl rfl
theorem t_1654 : Jvm.Cond.instanceMethod ({ cls := "ExactlySaid", name := "digit", desc := "(ZI)I" } : Jvm.MethodName) ∈ TB := cTB7 (i := 214) rfl rfl
theorem t_1655 : Jvm.Cond.selects "ExactlySaid" ({ cls := "ExactlySaid", name := "digit", desc := "(ZI)I" } : Jvm.MethodName) ({ cls := "ExactlySaid", name := "digit", desc := "(ZI)I" } : Jvm.MethodName) ∈ TB := cTB7 (i := 215) rfl rfl
theorem t_1656 : Jvm.Cond.code ({ cls := "ExactlySaid", name := "digit", desc := "(ZI)I" } : Jvm.MethodName) prog_1_method_21_code (4 : Nat) (Option.some Jvm.ClassFile.FieldType.int) ∈ TB := cTB7 (i := 216) rfl rfl
theorem t_1657 : Jvm.Cond.methodLink "ExactlySaidLaw" (161 : Nat) ({ cls := "ExactlySaidLaw", name := "writtenAt", desc := "(LExactlySaid;I[J)I" } : Jvm.MethodName) ∈ TB := cTB7 (i := 217) rfl rfl
theorem t_1658 : Jvm.Cond.static ({ cls := "ExactlySaidLaw", name := "writtenAt", desc := "(LExactlySaid;I[J)I" } : Jvm.MethodName) ∈ TB := cTB7 (i := 218) rfl rfl
theorem t_1659 : Jvm.Cond.codeWith ({ cls := "ExactlySaidLaw", name := "writtenAt", desc := "(LExactlySaid;I[J)I" } : Jvm.MethodName) method_8_code (4 : Nat) (Option.some Jvm.ClassFile.FieldType.int) [((0 : Nat), (9 : Nat), (12 : Nat), (30 : Nat))] ∈ TB := cTB7 (i := 219) rfl rfl
theorem t_1660 : Jvm.Cond.methodLink "ExactlySaidLaw" (36 : Nat) ({ cls := "ExactlySaid", name := "writtenAt", desc := "(I)C" } : Jvm.MethodName) ∈ TB := cTB7 (i := 220) rfl rfl
theorem t_1661 : Jvm.Cond.instanceMethod ({ cls := "ExactlySaid", name := "writtenAt", desc := "(I)C" } : Jvm.MethodName) ∈ TB := cTB7 (i := 221) rfl rfl
theorem t_1662 : Jvm.Cond.selects "ExactlySaid" ({ cls := "ExactlySaid", name := "writtenAt", desc := "(I)C" } : Jvm.MethodName) ({ cls := "ExactlySaid", name := "writtenAt", desc := "(I)C" } : Jvm.MethodName) ∈ TB := cTB7 (i := 222) rfl rfl
theorem t_1663 : Jvm.Cond.code ({ cls := "ExactlySaid", name := "writtenAt", desc := "(I)C" } : Jvm.MethodName) prog_1_method_23_code (2 : Nat) (Option.some Jvm.ClassFile.FieldType.char) ∈ TB := cTB7 (i := 223) rfl rfl
theorem t_1664 : Jvm.Cond.methodLink "ExactlySaidLaw" (164 : Nat) ({ cls := "ExactlySaidLaw", name := "keep", desc := "(LExactlySaid;I[J)I" } : Jvm.MethodName) ∈ TB := cTB7 (i := 224) rfl rfl
theorem t_1665 : Jvm.Cond.static ({ cls := "ExactlySaidLaw", name := "keep", desc := "(LExactlySaid;I[J)I" } : Jvm.MethodName) ∈ TB := cTB7 (i := 225) rfl rfl
theorem t_1666 : Jvm.Cond.codeWith ({ cls := "ExactlySaidLaw", name := "keep", desc := "(LExactlySaid;I[J)I" } : Jvm.MethodName) method_9_code (4 : Nat) (Option.some Jvm.ClassFile.FieldType.int) [((0 : Nat), (9 : Nat), (12 : Nat), (19 : Nat))] ∈ TB := cTB7 (i := 226) rfl rfl
theorem t_1667 : Jvm.Cond.methodLink "ExactlySaidLaw" (40 : Nat) ({ cls := "ExactlySaid", name := "keep", desc := "(I)I" } : Jvm.MethodName) ∈ TB := cTB7 (i := 227) rfl rfl
theorem t_1668 : Jvm.Cond.instanceMethod ({ cls := "ExactlySaid", name := "keep", desc := "(I)I" } : Jvm.MethodName) ∈ TB := cTB7 (i := 228) rfl rfl
theorem t_1669 : Jvm.Cond.selects "ExactlySaid" ({ cls := "ExactlySaid", name := "keep", desc := "(I)I" } : Jvm.MethodName) ({ cls := "ExactlySaid", name := "keep", desc := "(I)I" } : Jvm.MethodName) ∈ TB := cTB7 (i := 229) rfl rfl
theorem t_1670 : Jvm.Cond.code ({ cls := "ExactlySaid", name := "keep", desc := "(I)I" } : Jvm.MethodName) prog_1_method_24_code (3 : Nat) (Option.some Jvm.ClassFile.FieldType.int) ∈ TB := cTB7 (i := 230) rfl rfl
theorem t_1671 : Jvm.Cond.methodLink "ExactlySaid" (297 : Nat) ({ cls := "ExactlySaid", name := "isSlot", desc := "(I)Z" } : Jvm.MethodName) ∈ TB := cTB7 (i := 231) rfl rfl
theorem t_1673 : Jvm.Cond.instanceMethod ({ cls := "ExactlySaid", name := "isSlot", desc := "(I)Z" } : Jvm.MethodName) ∈ TB := cTB7 (i := 233) rfl rfl
theorem t_1674 : Jvm.Cond.code ({ cls := "ExactlySaid", name := "isSlot", desc := "(I)Z" } : Jvm.MethodName) prog_1_method_27_code (2 : Nat) (Option.some Jvm.ClassFile.FieldType.boolean) ∈ TB := cTB7 (i := 234) rfl rfl
theorem t_1675 : Jvm.Cond.methodLink "ExactlySaidLaw" (167 : Nat) ({ cls := "ExactlySaidLaw", name := "take", desc := "(LExactlySaid;I[J)I" } : Jvm.MethodName) ∈ TB := cTB7 (i := 235) rfl rfl
theorem t_1676 : Jvm.Cond.static ({ cls := "ExactlySaidLaw", name := "take", desc := "(LExactlySaid;I[J)I" } : Jvm.MethodName) ∈ TB := cTB7 (i := 236) rfl rfl
theorem t_1677 : Jvm.Cond.codeWith ({ cls := "ExactlySaidLaw", name := "take", desc := "(LExactlySaid;I[J)I" } : Jvm.MethodName) method_10_code (4 : Nat) (Option.some Jvm.ClassFile.FieldType.int) [((0 : Nat), (9 : Nat), (12 : Nat), (19 : Nat))] ∈ TB := cTB7 (i := 237) rfl rfl
theorem t_1678 : Jvm.Cond.methodLink "ExactlySaidLaw" (43 : Nat) ({ cls := "ExactlySaid", name := "take", desc := "(I)I" } : Jvm.MethodName) ∈ TB := cTB7 (i := 238) rfl rfl
theorem t_1679 : Jvm.Cond.instanceMethod ({ cls := "ExactlySaid", name := "take", desc := "(I)I" } : Jvm.MethodName) ∈ TB := cTB7 (i := 239) rfl rfl
theorem t_1680 : Jvm.Cond.selects "ExactlySaid" ({ cls := "ExactlySaid", name := "take", desc := "(I)I" } : Jvm.MethodName) ({ cls := "ExactlySaid", name := "take", desc := "(I)I" } : Jvm.MethodName) ∈ TB := cTB8 (i := 0) rfl rfl
theorem t_1681 : Jvm.Cond.code ({ cls := "ExactlySaid", name := "take", desc := "(I)I" } : Jvm.MethodName) prog_1_method_25_code (2 : Nat) (Option.some Jvm.ClassFile.FieldType.int) ∈ TB := cTB8 (i := 1) rfl rfl
theorem t_1682 : Jvm.Cond.methodLink "ExactlySaidLaw" (170 : Nat) ({ cls := "ExactlySaidLaw", name := "compare", desc := "(LExactlySaid;II[J)I" } : Jvm.MethodName) ∈ TB := cTB8 (i := 2) rfl rfl
theorem t_1683 : Jvm.Cond.static ({ cls := "ExactlySaidLaw", name := "compare", desc := "(LExactlySaid;II[J)I" } : Jvm.MethodName) ∈ TB := cTB8 (i := 3) rfl rfl
theorem t_1684 : Jvm.Cond.codeWith ({ cls := "ExactlySaidLaw", name := "compare", desc := "(LExactlySaid;II[J)I" } : Jvm.MethodName) method_11_code (5 : Nat) (Option.some Jvm.ClassFile.FieldType.int) [((0 : Nat), (10 : Nat), (13 : Nat), (19 : Nat))] ∈ TB := cTB8 (i := 4) rfl rfl
theorem t_1685 : Jvm.Cond.methodLink "ExactlySaidLaw" (46 : Nat) ({ cls := "ExactlySaid", name := "compare", desc := "(II)I" } : Jvm.MethodName) ∈ TB := cTB8 (i := 5) rfl rfl
theorem t_1686 : Jvm.Cond.instanceMethod ({ cls := "ExactlySaid", name := "compare", desc := "(II)I" } : Jvm.MethodName) ∈ TB := cTB8 (i := 6) rfl rfl
theorem t_1687 : Jvm.Cond.selects "ExactlySaid" ({ cls := "ExactlySaid", name := "compare", desc := "(II)I" } : Jvm.MethodName) ({ cls := "ExactlySaid", name := "compare", desc := "(II)I" } : Jvm.MethodName) ∈ TB := cTB8 (i := 7) rfl rfl
theorem t_1688 : Jvm.Cond.code ({ cls := "ExactlySaid", name := "compare", desc := "(II)I" } : Jvm.MethodName) prog_1_method_26_code (3 : Nat) (Option.some Jvm.ClassFile.FieldType.int) ∈ TB := cTB8 (i := 8) rfl rfl
theorem t_1689 : Jvm.Cond.methodLinkNest "ExactlySaid" (300 : Nat) ({ cls := "ExactlySaid$Reckoner", name := "order", desc := "(LExactlySaid$Fraction;LExactlySaid$Fraction;)I" } : Jvm.MethodName) "ExactlySaid" ∈ TN := cTN8 (i := 9) rfl rfl
theorem t_1690 : Jvm.Cond.methodLink "ExactlySaidLaw" (178 : Nat) ({ cls := "ExactlySaidLaw", name := "nameAt", desc := "(LExactlySaid;I[J)I" } : Jvm.MethodName) ∈ TB := cTB8 (i := 10) rfl rfl
theorem t_1691 : Jvm.Cond.static ({ cls := "ExactlySaidLaw", name := "nameAt", desc := "(LExactlySaid;I[J)I" } : Jvm.MethodName) ∈ TB := cTB8 (i := 11) rfl rfl
theorem t_1692 : Jvm.Cond.codeWith ({ cls := "ExactlySaidLaw", name := "nameAt", desc := "(LExactlySaid;I[J)I" } : Jvm.MethodName) method_12_code (4 : Nat) (Option.some Jvm.ClassFile.FieldType.int) [((0 : Nat), (9 : Nat), (12 : Nat), (30 : Nat))] ∈ TB := cTB8 (i := 12) rfl rfl
theorem t_1693 : Jvm.Cond.methodLink "ExactlySaidLaw" (50 : Nat) ({ cls := "ExactlySaid", name := "nameAt", desc := "(I)I" } : Jvm.MethodName) ∈ TB := cTB8 (i := 13) rfl rfl
theorem t_1694 : Jvm.Cond.instanceMethod ({ cls := "ExactlySaid", name := "nameAt", desc := "(I)I" } : Jvm.MethodName) ∈ TB := cTB8 (i := 14) rfl rfl
theorem t_1695 : Jvm.Cond.selects "ExactlySaid" ({ cls := "ExactlySaid", name := "nameAt", desc := "(I)I" } : Jvm.MethodName) ({ cls := "ExactlySaid", name := "nameAt", desc := "(I)I" } : Jvm.MethodName) ∈ TB := cTB8 (i := 15) rfl rfl
theorem t_1696 : Jvm.Cond.code ({ cls := "ExactlySaid", name := "nameAt", desc := "(I)I" } : Jvm.MethodName) prog_1_method_34_code (3 : Nat) (Option.some Jvm.ClassFile.FieldType.int) ∈ TB := cTB8 (i := 16) rfl rfl
theorem t_1697 : Jvm.Cond.methodLink "ExactlySaidLaw" (181 : Nat) ({ cls := "ExactlySaidLaw", name := "takeName", desc := "(LExactlySaid;I[J)I" } : Jvm.MethodName) ∈ TB := cTB8 (i := 17) rfl rfl
theorem t_1698 : Jvm.Cond.static ({ cls := "ExactlySaidLaw", name := "takeName", desc := "(LExactlySaid;I[J)I" } : Jvm.MethodName) ∈ TB := cTB8 (i := 18) rfl rfl
theorem t_1699 : Jvm.Cond.codeWith ({ cls := "ExactlySaidLaw", name := "takeName", desc := "(LExactlySaid;I[J)I" } : Jvm.MethodName) method_13_code (4 : Nat) (Option.some Jvm.ClassFile.FieldType.int) [((0 : Nat), (9 : Nat), (12 : Nat), (56 : Nat))] ∈ TB := cTB8 (i := 19) rfl rfl
theorem t_1700 : Jvm.Cond.classLink "ExactlySaidLaw" (56 : Nat) "java/util/NoSuchElementException" ∈ TB := cTB8 (i := 20) rfl rfl
theorem t_1701 : Jvm.Cond.methodLink "ExactlySaidLaw" (53 : Nat) ({ cls := "ExactlySaid", name := "takeName", desc := "(I)I" } : Jvm.MethodName) ∈ TB := cTB8 (i := 21) rfl rfl
theorem t_1702 : Jvm.Cond.instanceMethod ({ cls := "ExactlySaid", name := "takeName", desc := "(I)I" } : Jvm.MethodName) ∈ TB := cTB8 (i := 22) rfl rfl
theorem t_1703 : Jvm.Cond.selects "ExactlySaid" ({ cls := "ExactlySaid", name := "takeName", desc := "(I)I" } : Jvm.MethodName) ({ cls := "ExactlySaid", name := "takeName", desc := "(I)I" } : Jvm.MethodName) ∈ TB := cTB8 (i := 23) rfl rfl
theorem t_1704 : Jvm.Cond.code ({ cls := "ExactlySaid", name := "takeName", desc := "(I)I" } : Jvm.MethodName) prog_1_method_35_code (3 : Nat) (Option.some Jvm.ClassFile.FieldType.int) ∈ TB := cTB8 (i := 24) rfl rfl
theorem t_1707 : Jvm.Cond.castable "java/util/NoSuchElementException" "java/util/NoSuchElementException" ∈ TN := cTN8 (i := 27) rfl rfl
theorem t_1720 : Jvm.Cond.methodLink "ExactlySaidLaw" (188 : Nat) ({ cls := "ExactlySaidLaw", name := "parameters", desc := "(LExactlySaid;I[J)I" } : Jvm.MethodName) ∈ TB := cTB8 (i := 40) rfl rfl
theorem t_1721 : Jvm.Cond.static ({ cls := "ExactlySaidLaw", name := "parameters", desc := "(LExactlySaid;I[J)I" } : Jvm.MethodName) ∈ TB := cTB8 (i := 41) rfl rfl
theorem t_1722 : Jvm.Cond.codeWith ({ cls := "ExactlySaidLaw", name := "parameters", desc := "(LExactlySaid;I[J)I" } : Jvm.MethodName) method_14_code (4 : Nat) (Option.some Jvm.ClassFile.FieldType.int) [((0 : Nat), (9 : Nat), (12 : Nat), (56 : Nat))] ∈ TB := cTB8 (i := 42) rfl rfl
theorem t_1723 : Jvm.Cond.methodLink "ExactlySaidLaw" (58 : Nat) ({ cls := "ExactlySaid", name := "parameters", desc := "(I)I" } : Jvm.MethodName) ∈ TB := cTB8 (i := 43) rfl rfl
theorem t_1724 : Jvm.Cond.instanceMethod ({ cls := "ExactlySaid", name := "parameters", desc := "(I)I" } : Jvm.MethodName) ∈ TB := cTB8 (i := 44) rfl rfl
theorem t_1725 : Jvm.Cond.selects "ExactlySaid" ({ cls := "ExactlySaid", name := "parameters", desc := "(I)I" } : Jvm.MethodName) ({ cls := "ExactlySaid", name := "parameters", desc := "(I)I" } : Jvm.MethodName) ∈ TB := cTB8 (i := 45) rfl rfl
theorem t_1726 : Jvm.Cond.code ({ cls := "ExactlySaid", name := "parameters", desc := "(I)I" } : Jvm.MethodName) prog_1_method_37_code (3 : Nat) (Option.some Jvm.ClassFile.FieldType.int) ∈ TB := cTB8 (i := 46) rfl rfl
theorem t_1727 : Jvm.Cond.methodLink "ExactlySaidLaw" (200 : Nat) ({ cls := "ExactlySaidLaw", name := "drop", desc := "(LExactlySaid;IZ[J)I" } : Jvm.MethodName) ∈ TB := cTB8 (i := 47) rfl rfl
theorem t_1728 : Jvm.Cond.static ({ cls := "ExactlySaidLaw", name := "drop", desc := "(LExactlySaid;IZ[J)I" } : Jvm.MethodName) ∈ TB := cTB8 (i := 48) rfl rfl
theorem t_1729 : Jvm.Cond.codeWith ({ cls := "ExactlySaidLaw", name := "drop", desc := "(LExactlySaid;IZ[J)I" } : Jvm.MethodName) method_15_code (5 : Nat) (Option.some Jvm.ClassFile.FieldType.int) [((0 : Nat), (10 : Nat), (13 : Nat), (56 : Nat)), ((0 : Nat), (10 : Nat), (17 : Nat), (13 : Nat))] ∈ TB := cTB8 (i := 49) rfl rfl
theorem t_1730 : Jvm.Cond.methodLink "ExactlySaidLaw" (61 : Nat) ({ cls := "ExactlySaid", name := "drop", desc := "(IZ)I" } : Jvm.MethodName) ∈ TB := cTB8 (i := 50) rfl rfl
theorem t_1731 : Jvm.Cond.instanceMethod ({ cls := "ExactlySaid", name := "drop", desc := "(IZ)I" } : Jvm.MethodName) ∈ TB := cTB8 (i := 51) rfl rfl
theorem t_1732 : Jvm.Cond.selects "ExactlySaid" ({ cls := "ExactlySaid", name := "drop", desc := "(IZ)I" } : Jvm.MethodName) ({ cls := "ExactlySaid", name := "drop", desc := "(IZ)I" } : Jvm.MethodName) ∈ TB := cTB8 (i := 52) rfl rfl
theorem t_1733 : Jvm.Cond.code ({ cls := "ExactlySaid", name := "drop", desc := "(IZ)I" } : Jvm.MethodName) prog_1_method_40_code (6 : Nat) (Option.some Jvm.ClassFile.FieldType.int) ∈ TB := cTB8 (i := 53) rfl rfl
theorem t_1734 : Jvm.Cond.methodLinkNest "ExactlySaid" (345 : Nat) ({ cls := "ExactlySaid$Book", name := "without", desc := "(I)LExactlySaid$Book;" } : Jvm.MethodName) "ExactlySaid" ∈ TN := cTN8 (i := 54) rfl rfl
theorem t_1736 : Jvm.Cond.instanceMethod ({ cls := "ExactlySaid$Book", name := "without", desc := "(I)LExactlySaid$Book;" } : Jvm.MethodName) ∈ TB := cTB8 (i := 56) rfl rfl
theorem t_1737 : Jvm.Cond.code ({ cls := "ExactlySaid$Book", name := "without", desc := "(I)LExactlySaid$Book;" } : Jvm.MethodName) prog_2_method_3_code (3 : Nat) (Option.some (Jvm.ClassFile.FieldType.object "ExactlySaid$Book")) ∈ TB := cTB8 (i := 57) rfl rfl
theorem t_1738 : Jvm.Cond.methodLink "ExactlySaid$Book" (46 : Nat) ({ cls := "ExactlySaid$Book", name := "left", desc := "([LExactlySaid$Told;I)[LExactlySaid$Told;" } : Jvm.MethodName) ∈ TB := cTB8 (i := 58) rfl rfl
theorem t_1739 : Jvm.Cond.static ({ cls := "ExactlySaid$Book", name := "left", desc := "([LExactlySaid$Told;I)[LExactlySaid$Told;" } : Jvm.MethodName) ∈ TB := cTB8 (i := 59) rfl rfl
theorem t_1740 : Jvm.Cond.code ({ cls := "ExactlySaid$Book", name := "left", desc := "([LExactlySaid$Told;I)[LExactlySaid$Told;" } : Jvm.MethodName) prog_2_method_5_code (4 : Nat) (Option.some (Jvm.ClassFile.FieldType.array (Jvm.ClassFile.FieldType.object "ExactlySaid$Told"))) ∈ TB := cTB8 (i := 60) rfl rfl
theorem t_1741 : Jvm.Cond.methodLink "ExactlySaidLaw" (208 : Nat) ({ cls := "ExactlySaidLaw", name := "stepAt", desc := "(LExactlySaid;I[J)I" } : Jvm.MethodName) ∈ TB := cTB8 (i := 61) rfl rfl
theorem t_1742 : Jvm.Cond.static ({ cls := "ExactlySaidLaw", name := "stepAt", desc := "(LExactlySaid;I[J)I" } : Jvm.MethodName) ∈ TB := cTB8 (i := 62) rfl rfl
theorem t_1743 : Jvm.Cond.codeWith ({ cls := "ExactlySaidLaw", name := "stepAt", desc := "(LExactlySaid;I[J)I" } : Jvm.MethodName) method_16_code (4 : Nat) (Option.some Jvm.ClassFile.FieldType.int) [((0 : Nat), (9 : Nat), (12 : Nat), (30 : Nat))] ∈ TB := cTB8 (i := 63) rfl rfl
theorem t_1744 : Jvm.Cond.methodLink "ExactlySaidLaw" (65 : Nat) ({ cls := "ExactlySaid", name := "stepAt", desc := "(I)I" } : Jvm.MethodName) ∈ TB := cTB8 (i := 64) rfl rfl
theorem t_1745 : Jvm.Cond.instanceMethod ({ cls := "ExactlySaid", name := "stepAt", desc := "(I)I" } : Jvm.MethodName) ∈ TB := cTB8 (i := 65) rfl rfl
theorem t_1746 : Jvm.Cond.selects "ExactlySaid" ({ cls := "ExactlySaid", name := "stepAt", desc := "(I)I" } : Jvm.MethodName) ({ cls := "ExactlySaid", name := "stepAt", desc := "(I)I" } : Jvm.MethodName) ∈ TB := cTB8 (i := 66) rfl rfl
theorem t_1747 : Jvm.Cond.code ({ cls := "ExactlySaid", name := "stepAt", desc := "(I)I" } : Jvm.MethodName) prog_1_method_44_code (2 : Nat) (Option.some Jvm.ClassFile.FieldType.int) ∈ TB := cTB8 (i := 67) rfl rfl
theorem t_1748 : Jvm.Cond.methodLink "ExactlySaidLaw" (211 : Nat) ({ cls := "ExactlySaidLaw", name := "takeStep", desc := "(LExactlySaid;I[J)I" } : Jvm.MethodName) ∈ TB := cTB8 (i := 68) rfl rfl
theorem t_1749 : Jvm.Cond.static ({ cls := "ExactlySaidLaw", name := "takeStep", desc := "(LExactlySaid;I[J)I" } : Jvm.MethodName) ∈ TB := cTB8 (i := 69) rfl rfl
theorem t_1750 : Jvm.Cond.codeWith ({ cls := "ExactlySaidLaw", name := "takeStep", desc := "(LExactlySaid;I[J)I" } : Jvm.MethodName) method_17_code (4 : Nat) (Option.some Jvm.ClassFile.FieldType.int) [((0 : Nat), (9 : Nat), (12 : Nat), (30 : Nat))] ∈ TB := cTB8 (i := 70) rfl rfl
theorem t_1751 : Jvm.Cond.methodLink "ExactlySaidLaw" (68 : Nat) ({ cls := "ExactlySaid", name := "takeStep", desc := "(I)I" } : Jvm.MethodName) ∈ TB := cTB8 (i := 71) rfl rfl
theorem t_1752 : Jvm.Cond.instanceMethod ({ cls := "ExactlySaid", name := "takeStep", desc := "(I)I" } : Jvm.MethodName) ∈ TB := cTB8 (i := 72) rfl rfl
theorem t_1753 : Jvm.Cond.selects "ExactlySaid" ({ cls := "ExactlySaid", name := "takeStep", desc := "(I)I" } : Jvm.MethodName) ({ cls := "ExactlySaid", name := "takeStep", desc := "(I)I" } : Jvm.MethodName) ∈ TB := cTB8 (i := 73) rfl rfl
theorem t_1754 : Jvm.Cond.code ({ cls := "ExactlySaid", name := "takeStep", desc := "(I)I" } : Jvm.MethodName) prog_1_method_45_code (2 : Nat) (Option.some Jvm.ClassFile.FieldType.int) ∈ TB := cTB8 (i := 74) rfl rfl
theorem t_1755 : Jvm.Cond.methodLink "ExactlySaid" (358 : Nat) ({ cls := "ExactlySaid", name := "takeCopy", desc := "(LExactlySaid$Fraction;)I" } : Jvm.MethodName) ∈ TB := cTB8 (i := 75) rfl rfl
theorem t_1757 : Jvm.Cond.instanceMethod ({ cls := "ExactlySaid", name := "takeCopy", desc := "(LExactlySaid$Fraction;)I" } : Jvm.MethodName) ∈ TB := cTB8 (i := 77) rfl rfl
theorem t_1758 : Jvm.Cond.code ({ cls := "ExactlySaid", name := "takeCopy", desc := "(LExactlySaid$Fraction;)I" } : Jvm.MethodName) prog_1_method_29_code (2 : Nat) (Option.some Jvm.ClassFile.FieldType.int) ∈ TB := cTB8 (i := 78) rfl rfl
theorem t_1759 : Jvm.Cond.methodLink "ExactlySaidLaw" (227 : Nat) ({ cls := "ExactlySaidLaw", name := "decimal", desc := "(LExactlySaid;I[J)I" } : Jvm.MethodName) ∈ TB := cTB8 (i := 79) rfl rfl
theorem t_1760 : Jvm.Cond.static ({ cls := "ExactlySaidLaw", name := "decimal", desc := "(LExactlySaid;I[J)I" } : Jvm.MethodName) ∈ TB := cTB8 (i := 80) rfl rfl
theorem t_1761 : Jvm.Cond.codeWith ({ cls := "ExactlySaidLaw", name := "decimal", desc := "(LExactlySaid;I[J)I" } : Jvm.MethodName) method_18_code (4 : Nat) (Option.some Jvm.ClassFile.FieldType.int) [((0 : Nat), (9 : Nat), (12 : Nat), (19 : Nat))] ∈ TB := cTB8 (i := 81) rfl rfl
theorem t_1762 : Jvm.Cond.methodLink "ExactlySaidLaw" (71 : Nat) ({ cls := "ExactlySaid", name := "decimal", desc := "(I)I" } : Jvm.MethodName) ∈ TB := cTB8 (i := 82) rfl rfl
theorem t_1763 : Jvm.Cond.instanceMethod ({ cls := "ExactlySaid", name := "decimal", desc := "(I)I" } : Jvm.MethodName) ∈ TB := cTB8 (i := 83) rfl rfl
theorem t_1764 : Jvm.Cond.selects "ExactlySaid" ({ cls := "ExactlySaid", name := "decimal", desc := "(I)I" } : Jvm.MethodName) ({ cls := "ExactlySaid", name := "decimal", desc := "(I)I" } : Jvm.MethodName) ∈ TB := cTB8 (i := 84) rfl rfl
theorem t_1765 : Jvm.Cond.code ({ cls := "ExactlySaid", name := "decimal", desc := "(I)I" } : Jvm.MethodName) prog_1_method_49_code (4 : Nat) (Option.some Jvm.ClassFile.FieldType.int) ∈ TB := cTB8 (i := 85) rfl rfl
theorem t_1766 : Jvm.Cond.methodLink "ExactlySaid" (361 : Nat) ({ cls := "java/lang/Math", name := "min", desc := "(II)I" } : Jvm.MethodName) ∈ TB := cTB8 (i := 86) rfl rfl
theorem t_1767 : Jvm.Cond.methodLink "ExactlySaidLaw" (234 : Nat) ({ cls := "ExactlySaidLaw", name := "takeContinued", desc := "(LExactlySaid;I[J)I" } : Jvm.MethodName) ∈ TB := cTB8 (i := 87) rfl rfl
theorem t_1768 : Jvm.Cond.static ({ cls := "ExactlySaidLaw", name := "takeContinued", desc := "(LExactlySaid;I[J)I" } : Jvm.MethodName) ∈ TB := cTB8 (i := 88) rfl rfl
theorem t_1769 : Jvm.Cond.codeWith ({ cls := "ExactlySaidLaw", name := "takeContinued", desc := "(LExactlySaid;I[J)I" } : Jvm.MethodName) method_19_code (4 : Nat) (Option.some Jvm.ClassFile.FieldType.int) [((0 : Nat), (9 : Nat), (12 : Nat), (30 : Nat))] ∈ TB := cTB8 (i := 89) rfl rfl
theorem t_1770 : Jvm.Cond.methodLink "ExactlySaidLaw" (74 : Nat) ({ cls := "ExactlySaid", name := "takeContinued", desc := "(I)I" } : Jvm.MethodName) ∈ TB := cTB8 (i := 90) rfl rfl
theorem t_1771 : Jvm.Cond.instanceMethod ({ cls := "ExactlySaid", name := "takeContinued", desc := "(I)I" } : Jvm.MethodName) ∈ TB := cTB8 (i := 91) rfl rfl
theorem t_1772 : Jvm.Cond.selects "ExactlySaid" ({ cls := "ExactlySaid", name := "takeContinued", desc := "(I)I" } : Jvm.MethodName) ({ cls := "ExactlySaid", name := "takeContinued", desc := "(I)I" } : Jvm.MethodName) ∈ TB := cTB8 (i := 92) rfl rfl
theorem t_1773 : Jvm.Cond.code ({ cls := "ExactlySaid", name := "takeContinued", desc := "(I)I" } : Jvm.MethodName) prog_1_method_51_code (2 : Nat) (Option.some Jvm.ClassFile.FieldType.int) ∈ TB := cTB8 (i := 93) rfl rfl
theorem t_1774 : Jvm.Cond.methodLink "ExactlySaidLaw" (237 : Nat) ({ cls := "ExactlySaidLaw", name := "takeBest", desc := "(LExactlySaid;I[J)I" } : Jvm.MethodName) ∈ TB := cTB8 (i := 94) rfl rfl
theorem t_1775 : Jvm.Cond.static ({ cls := "ExactlySaidLaw", name := "takeBest", desc := "(LExactlySaid;I[J)I" } : Jvm.MethodName) ∈ TB := cTB8 (i := 95) rfl rfl
theorem t_1776 : Jvm.Cond.codeWith ({ cls := "ExactlySaidLaw", name := "takeBest", desc := "(LExactlySaid;I[J)I" } : Jvm.MethodName) method_20_code (4 : Nat) (Option.some Jvm.ClassFile.FieldType.int) [((0 : Nat), (9 : Nat), (12 : Nat), (19 : Nat))] ∈ TB := cTB8 (i := 96) rfl rfl
theorem t_1777 : Jvm.Cond.methodLink "ExactlySaidLaw" (77 : Nat) ({ cls := "ExactlySaid", name := "takeBest", desc := "(I)I" } : Jvm.MethodName) ∈ TB := cTB8 (i := 97) rfl rfl
theorem t_1778 : Jvm.Cond.instanceMethod ({ cls := "ExactlySaid", name := "takeBest", desc := "(I)I" } : Jvm.MethodName) ∈ TB := cTB8 (i := 98) rfl rfl
theorem t_1779 : Jvm.Cond.selects "ExactlySaid" ({ cls := "ExactlySaid", name := "takeBest", desc := "(I)I" } : Jvm.MethodName) ({ cls := "ExactlySaid", name := "takeBest", desc := "(I)I" } : Jvm.MethodName) ∈ TB := cTB8 (i := 99) rfl rfl
theorem t_1780 : Jvm.Cond.code ({ cls := "ExactlySaid", name := "takeBest", desc := "(I)I" } : Jvm.MethodName) prog_1_method_52_code (3 : Nat) (Option.some Jvm.ClassFile.FieldType.int) ∈ TB := cTB8 (i := 100) rfl rfl
theorem t_1781 : Jvm.Cond.methodLinkNest "ExactlySaid" (372 : Nat) ({ cls := "ExactlySaid$Reckoner", name := "bestWithin", desc := "(LExactlySaid$Fraction;I)I" } : Jvm.MethodName) "ExactlySaid" ∈ TN := cTN8 (i := 101) rfl rfl
theorem t_1783 : Jvm.Cond.instanceMethod ({ cls := "ExactlySaid$Reckoner", name := "bestWithin", desc := "(LExactlySaid$Fraction;I)I" } : Jvm.MethodName) ∈ TB := cTB8 (i := 103) rfl rfl
theorem t_1784 : Jvm.Cond.code ({ cls := "ExactlySaid$Reckoner", name := "bestWithin", desc := "(LExactlySaid$Fraction;I)I" } : Jvm.MethodName) prog_7_method_30_code (10 : Nat) (Option.some Jvm.ClassFile.FieldType.int) ∈ TB := cTB8 (i := 104) rfl rfl
theorem t_1785 : Jvm.Cond.methodLink "ExactlySaid$Reckoner" (249 : Nat) ({ cls := "ExactlySaid$Reckoner", name := "addSmall", desc := "(II)V" } : Jvm.MethodName) ∈ TB := cTB8 (i := 105) rfl rfl
theorem t_1787 : Jvm.Cond.instanceMethod ({ cls := "ExactlySaid$Reckoner", name := "addSmall", desc := "(II)V" } : Jvm.MethodName) ∈ TB := cTB8 (i := 107) rfl rfl
theorem t_1788 : Jvm.Cond.code ({ cls := "ExactlySaid$Reckoner", name := "addSmall", desc := "(II)V" } : Jvm.MethodName) prog_7_method_31_code (3 : Nat) (Option.none : Option Jvm.ClassFile.FieldType) ∈ TB := cTB8 (i := 108) rfl rfl
theorem t_1789 : Jvm.Cond.methodLink "ExactlySaidLaw" (244 : Nat) ({ cls := "ExactlySaidLaw", name := "takeUnit", desc := "(LExactlySaid;I[J)I" } : Jvm.MethodName) ∈ TB := cTB8 (i := 109) rfl rfl
theorem t_1790 : Jvm.Cond.static ({ cls := "ExactlySaidLaw", name := "takeUnit", desc := "(LExactlySaid;I[J)I" } : Jvm.MethodName) ∈ TB := cTB8 (i := 110) rfl rfl
theorem t_1791 : Jvm.Cond.codeWith ({ cls := "ExactlySaidLaw", name := "takeUnit", desc := "(LExactlySaid;I[J)I" } : Jvm.MethodName) method_21_code (4 : Nat) (Option.some Jvm.ClassFile.FieldType.int) [((0 : Nat), (9 : Nat), (12 : Nat), (30 : Nat))] ∈ TB := cTB8 (i := 111) rfl rfl
theorem t_1792 : Jvm.Cond.methodLink "ExactlySaidLaw" (80 : Nat) ({ cls := "ExactlySaid", name := "takeUnit", desc := "(I)I" } : Jvm.MethodName) ∈ TB := cTB8 (i := 112) rfl rfl
theorem t_1793 : Jvm.Cond.instanceMethod ({ cls := "ExactlySaid", name := "takeUnit", desc := "(I)I" } : Jvm.MethodName) ∈ TB := cTB8 (i := 113) rfl rfl
theorem t_1794 : Jvm.Cond.selects "ExactlySaid" ({ cls := "ExactlySaid", name := "takeUnit", desc := "(I)I" } : Jvm.MethodName) ({ cls := "ExactlySaid", name := "takeUnit", desc := "(I)I" } : Jvm.MethodName) ∈ TB := cTB8 (i := 114) rfl rfl
theorem t_1795 : Jvm.Cond.code ({ cls := "ExactlySaid", name := "takeUnit", desc := "(I)I" } : Jvm.MethodName) prog_1_method_54_code (2 : Nat) (Option.some Jvm.ClassFile.FieldType.int) ∈ TB := cTB8 (i := 115) rfl rfl
theorem t_1796 : Jvm.Cond.methodLink "ExactlySaidLaw" (247 : Nat) ({ cls := "ExactlySaidLaw", name := "put", desc := "(LExactlySaid;I[J)I" } : Jvm.MethodName) ∈ TB := cTB8 (i := 116) rfl rfl
theorem t_1797 : Jvm.Cond.static ({ cls := "ExactlySaidLaw", name := "put", desc := "(LExactlySaid;I[J)I" } : Jvm.MethodName) ∈ TB := cTB8 (i := 117) rfl rfl
theorem t_1798 : Jvm.Cond.codeWith ({ cls := "ExactlySaidLaw", name := "put", desc := "(LExactlySaid;I[J)I" } : Jvm.MethodName) method_22_code (4 : Nat) (Option.some Jvm.ClassFile.FieldType.int) [((0 : Nat), (9 : Nat), (12 : Nat), (19 : Nat)), ((0 : Nat), (9 : Nat), (15 : Nat), (13 : Nat))] ∈ TB := cTB8 (i := 118) rfl rfl
theorem t_1799 : Jvm.Cond.methodLink "ExactlySaidLaw" (83 : Nat) ({ cls := "ExactlySaid", name := "put", desc := "(I)I" } : Jvm.MethodName) ∈ TB := cTB8 (i := 119) rfl rfl
theorem t_1800 : Jvm.Cond.instanceMethod ({ cls := "ExactlySaid", name := "put", desc := "(I)I" } : Jvm.MethodName) ∈ TB := cTB8 (i := 120) rfl rfl
theorem t_1801 : Jvm.Cond.selects "ExactlySaid" ({ cls := "ExactlySaid", name := "put", desc := "(I)I" } : Jvm.MethodName) ({ cls := "ExactlySaid", name := "put", desc := "(I)I" } : Jvm.MethodName) ∈ TB := cTB8 (i := 121) rfl rfl
theorem t_1802 : Jvm.Cond.code ({ cls := "ExactlySaid", name := "put", desc := "(I)I" } : Jvm.MethodName) prog_1_method_55_code (4 : Nat) (Option.some Jvm.ClassFile.FieldType.int) ∈ TB := cTB8 (i := 122) rfl rfl
theorem t_1803 : Jvm.Cond.methodLink "ExactlySaid" (378 : Nat) ({ cls := "ExactlySaid", name := "isRow", desc := "(I)Z" } : Jvm.MethodName) ∈ TB := cTB8 (i := 123) rfl rfl
theorem t_1805 : Jvm.Cond.instanceMethod ({ cls := "ExactlySaid", name := "isRow", desc := "(I)Z" } : Jvm.MethodName) ∈ TB := cTB8 (i := 125) rfl rfl
theorem t_1806 : Jvm.Cond.code ({ cls := "ExactlySaid", name := "isRow", desc := "(I)Z" } : Jvm.MethodName) prog_1_method_62_code (2 : Nat) (Option.some Jvm.ClassFile.FieldType.boolean) ∈ TB := cTB8 (i := 126) rfl rfl
theorem t_1807 : Jvm.Cond.methodLinkNest "ExactlySaid" (386 : Nat) ({ cls := "ExactlySaid$Reckoner", name := "countBelow", desc := "(LExactlySaid$Row;LExactlySaid$Fraction;)I" } : Jvm.MethodName) "ExactlySaid" ∈ TN := cTN8 (i := 127) rfl rfl
theorem t_1809 : Jvm.Cond.instanceMethod ({ cls := "ExactlySaid$Reckoner", name := "countBelow", desc := "(LExactlySaid$Row;LExactlySaid$Fraction;)I" } : Jvm.MethodName) ∈ TB := cTB8 (i := 129) rfl rfl
theorem t_1810 : Jvm.Cond.code ({ cls := "ExactlySaid$Reckoner", name := "countBelow", desc := "(LExactlySaid$Row;LExactlySaid$Fraction;)I" } : Jvm.MethodName) prog_7_method_19_code (4 : Nat) (Option.some Jvm.ClassFile.FieldType.int) ∈ TB := cTB8 (i := 130) rfl rfl
theorem t_1811 : Jvm.Cond.methodLink "ExactlySaid$Reckoner" (198 : Nat) ({ cls := "ExactlySaid$Reckoner", name := "order", desc := "(LExactlySaid$Fraction;LExactlySaid$Fraction;)I" } : Jvm.MethodName) ∈ TB := cTB8 (i := 131) rfl rfl
theorem t_1812 : Jvm.Cond.methodLinkNest "ExactlySaid" (390 : Nat) ({ cls := "ExactlySaid$Row", name := "with", desc := "(LExactlySaid$Fraction;I)LExactlySaid$Row;" } : Jvm.MethodName) "ExactlySaid" ∈ TN := cTN8 (i := 132) rfl rfl
theorem t_1814 : Jvm.Cond.instanceMethod ({ cls := "ExactlySaid$Row", name := "with", desc := "(LExactlySaid$Fraction;I)LExactlySaid$Row;" } : Jvm.MethodName) ∈ TB := cTB8 (i := 134) rfl rfl
theorem t_1815 : Jvm.Cond.code ({ cls := "ExactlySaid$Row", name := "with", desc := "(LExactlySaid$Fraction;I)LExactlySaid$Row;" } : Jvm.MethodName) prog_8_method_2_code (6 : Nat) (Option.some (Jvm.ClassFile.FieldType.object "ExactlySaid$Row")) ∈ TB := cTB8 (i := 135) rfl rfl
theorem t_1816 : Jvm.Cond.classLink "ExactlySaid$Row" (16 : Nat) "ExactlySaid$Row" ∈ TB := cTB8 (i := 136) rfl rfl
theorem t_1817 : Jvm.Cond.methodLink "ExactlySaid$Row" (21 : Nat) ({ cls := "ExactlySaid$Row", name := "<init>", desc := "(I)V" } : Jvm.MethodName) ∈ TB := cTB8 (i := 137) rfl rfl
theorem t_1818 : Jvm.Cond.methodLinkNest "ExactlySaid" (393 : Nat) ({ cls := "ExactlySaid$State", name := "withRow", desc := "(ILExactlySaid$Row;)LExactlySaid$State;" } : Jvm.MethodName) "ExactlySaid" ∈ TN := cTN8 (i := 138) rfl rfl
theorem t_1820 : Jvm.Cond.instanceMethod ({ cls := "ExactlySaid$State", name := "withRow", desc := "(ILExactlySaid$Row;)LExactlySaid$State;" } : Jvm.MethodName) ∈ TB := cTB8 (i := 140) rfl rfl
theorem t_1821 : Jvm.Cond.code ({ cls := "ExactlySaid$State", name := "withRow", desc := "(ILExactlySaid$Row;)LExactlySaid$State;" } : Jvm.MethodName) prog_9_method_3_code (4 : Nat) (Option.some (Jvm.ClassFile.FieldType.object "ExactlySaid$State")) ∈ TB := cTB8 (i := 141) rfl rfl
theorem t_1822 : Jvm.Cond.methodLink "ExactlySaid$State" (31 : Nat) ({ cls := "[LExactlySaid$Row;", name := "clone", desc := "()Ljava/lang/Object;" } : Jvm.MethodName) ∈ TB := cTB8 (i := 142) rfl rfl
theorem t_1823 : Jvm.Cond.sameMethod "[LExactlySaid$Row;" "java/lang/Object" "clone" "()Ljava/lang/Object;" ∈ TB := cTB8 (i := 143) rfl rfl
theorem t_1824 : Jvm.Cond.selects "[LExactlySaid$Row;" ({ cls := "[LExactlySaid$Row;", name := "clone", desc := "()Ljava/lang/Object;" } : Jvm.MethodName) ({ cls := "java/lang/Object", name := "clone", desc := "()Ljava/lang/Object;" } : Jvm.MethodName) ∈ TB := cTB8 (i := 144) rfl rfl
theorem t_1825 : Jvm.Cond.castable "[LExactlySaid$Row;" "java/lang/Cloneable" ∈ TN := cTN8 (i := 145) rfl rfl
theorem t_1826 : Jvm.Cond.classLink "ExactlySaid$State" (32 : Nat) "[LExactlySaid$Row;" ∈ TB := cTB8 (i := 146) rfl rfl
theorem t_1827 : Jvm.Cond.classLink "ExactlySaid$State" (17 : Nat) "ExactlySaid$State" ∈ TB := cTB8 (i := 147) rfl rfl
theorem t_1828 : Jvm.Cond.methodLink "ExactlySaid$State" (36 : Nat) ({ cls := "ExactlySaid$State", name := "<init>", desc := "(LExactlySaid$Book;[LExactlySaid$Row;)V" } : Jvm.MethodName) ∈ TB := cTB8 (i := 148) rfl rfl
theorem t_1829 : Jvm.Cond.methodLink "ExactlySaidLaw" (250 : Nat) ({ cls := "ExactlySaidLaw", name := "out", desc := "(LExactlySaid;I[J)I" } : Jvm.MethodName) ∈ TB := cTB8 (i := 149) rfl rfl
theorem t_1830 : Jvm.Cond.static ({ cls := "ExactlySaidLaw", name := "out", desc := "(LExactlySaid;I[J)I" } : Jvm.MethodName) ∈ TB := cTB8 (i := 150) rfl rfl
theorem t_1831 : Jvm.Cond.codeWith ({ cls := "ExactlySaidLaw", name := "out", desc := "(LExactlySaid;I[J)I" } : Jvm.MethodName) method_23_code (4 : Nat) (Option.some Jvm.ClassFile.FieldType.int) [((0 : Nat), (9 : Nat), (12 : Nat), (19 : Nat)), ((0 : Nat), (9 : Nat), (15 : Nat), (56 : Nat))] ∈ TB := cTB8 (i := 151) rfl rfl
theorem t_1832 : Jvm.Cond.methodLink "ExactlySaidLaw" (86 : Nat) ({ cls := "ExactlySaid", name := "out", desc := "(I)I" } : Jvm.MethodName) ∈ TB := cTB8 (i := 152) rfl rfl
theorem t_1833 : Jvm.Cond.instanceMethod ({ cls := "ExactlySaid", name := "out", desc := "(I)I" } : Jvm.MethodName) ∈ TB := cTB8 (i := 153) rfl rfl
theorem t_1834 : Jvm.Cond.selects "ExactlySaid" ({ cls := "ExactlySaid", name := "out", desc := "(I)I" } : Jvm.MethodName) ({ cls := "ExactlySaid", name := "out", desc := "(I)I" } : Jvm.MethodName) ∈ TB := cTB8 (i := 154) rfl rfl
theorem t_1835 : Jvm.Cond.code ({ cls := "ExactlySaid", name := "out", desc := "(I)I" } : Jvm.MethodName) prog_1_method_56_code (5 : Nat) (Option.some Jvm.ClassFile.FieldType.int) ∈ TB := cTB8 (i := 155) rfl rfl
theorem t_1836 : Jvm.Cond.methodLinkNest "ExactlySaid" (397 : Nat) ({ cls := "ExactlySaid$Row", name := "countSame", desc := "(ILExactlySaid$Fraction;)I" } : Jvm.MethodName) "ExactlySaid" ∈ TN := cTN8 (i := 156) rfl rfl
theorem t_1838 : Jvm.Cond.instanceMethod ({ cls := "ExactlySaid$Row", name := "countSame", desc := "(ILExactlySaid$Fraction;)I" } : Jvm.MethodName) ∈ TB := cTB8 (i := 158) rfl rfl
theorem t_1839 : Jvm.Cond.code ({ cls := "ExactlySaid$Row", name := "countSame", desc := "(ILExactlySaid$Fraction;)I" } : Jvm.MethodName) prog_8_method_4_code (4 : Nat) (Option.some Jvm.ClassFile.FieldType.int) ∈ TB := cTB8 (i := 159) rfl rfl
theorem t_1840 : Jvm.Cond.methodLinkNest "ExactlySaid$Row" (24 : Nat) ({ cls := "ExactlySaid$Fraction", name := "isSame", desc := "(LExactlySaid$Fraction;)Z" } : Jvm.MethodName) "ExactlySaid" ∈ TN := cTN8 (i := 160) rfl rfl
theorem t_1841 : Jvm.Cond.methodLinkNest "ExactlySaid" (401 : Nat) ({ cls := "ExactlySaid$Row", name := "without", desc := "(I)LExactlySaid$Row;" } : Jvm.MethodName) "ExactlySaid" ∈ TN := cTN8 (i := 161) rfl rfl
theorem t_1843 : Jvm.Cond.instanceMethod ({ cls := "ExactlySaid$Row", name := "without", desc := "(I)LExactlySaid$Row;" } : Jvm.MethodName) ∈ TB := cTB8 (i := 163) rfl rfl
theorem t_1844 : Jvm.Cond.code ({ cls := "ExactlySaid$Row", name := "without", desc := "(I)LExactlySaid$Row;" } : Jvm.MethodName) prog_8_method_3_code (4 : Nat) (Option.some (Jvm.ClassFile.FieldType.object "ExactlySaid$Row")) ∈ TB := cTB8 (i := 164) rfl rfl
theorem t_1845 : Jvm.Cond.methodLink "ExactlySaidLaw" (253 : Nat) ({ cls := "ExactlySaidLaw", name := "empty", desc := "(LExactlySaid;I[J)I" } : Jvm.MethodName) ∈ TB := cTB8 (i := 165) rfl rfl
theorem t_1846 : Jvm.Cond.static ({ cls := "ExactlySaidLaw", name := "empty", desc := "(LExactlySaid;I[J)I" } : Jvm.MethodName) ∈ TB := cTB8 (i := 166) rfl rfl
theorem t_1847 : Jvm.Cond.codeWith ({ cls := "ExactlySaidLaw", name := "empty", desc := "(LExactlySaid;I[J)I" } : Jvm.MethodName) method_24_code (4 : Nat) (Option.some Jvm.ClassFile.FieldType.int) [((0 : Nat), (9 : Nat), (12 : Nat), (19 : Nat))] ∈ TB := cTB8 (i := 167) rfl rfl
theorem t_1848 : Jvm.Cond.methodLink "ExactlySaidLaw" (89 : Nat) ({ cls := "ExactlySaid", name := "empty", desc := "(I)I" } : Jvm.MethodName) ∈ TB := cTB8 (i := 168) rfl rfl
theorem t_1849 : Jvm.Cond.instanceMethod ({ cls := "ExactlySaid", name := "empty", desc := "(I)I" } : Jvm.MethodName) ∈ TB := cTB8 (i := 169) rfl rfl
theorem t_1850 : Jvm.Cond.selects "ExactlySaid" ({ cls := "ExactlySaid", name := "empty", desc := "(I)I" } : Jvm.MethodName) ({ cls := "ExactlySaid", name := "empty", desc := "(I)I" } : Jvm.MethodName) ∈ TB := cTB8 (i := 170) rfl rfl
theorem t_1851 : Jvm.Cond.code ({ cls := "ExactlySaid", name := "empty", desc := "(I)I" } : Jvm.MethodName) prog_1_method_57_code (3 : Nat) (Option.some Jvm.ClassFile.FieldType.int) ∈ TB := cTB8 (i := 171) rfl rfl
theorem t_1852 : Jvm.Cond.classLink "ExactlySaid" (382 : Nat) "ExactlySaid$Row" ∈ TB := cTB8 (i := 172) rfl rfl
theorem t_1853 : Jvm.Cond.methodLinkNest "ExactlySaid" (404 : Nat) ({ cls := "ExactlySaid$Row", name := "<init>", desc := "(I)V" } : Jvm.MethodName) "ExactlySaid" ∈ TN := cTN8 (i := 173) rfl rfl
theorem t_1854 : Jvm.Cond.methodLink "ExactlySaidLaw" (256 : Nat) ({ cls := "ExactlySaidLaw", name := "count", desc := "(LExactlySaid;IZ[J)I" } : Jvm.MethodName) ∈ TB := cTB8 (i := 174) rfl rfl
theorem t_1855 : Jvm.Cond.static ({ cls := "ExactlySaidLaw", name := "count", desc := "(LExactlySaid;IZ[J)I" } : Jvm.MethodName) ∈ TB := cTB8 (i := 175) rfl rfl
theorem t_1856 : Jvm.Cond.codeWith ({ cls := "ExactlySaidLaw", name := "count", desc := "(LExactlySaid;IZ[J)I" } : Jvm.MethodName) method_25_code (5 : Nat) (Option.some Jvm.ClassFile.FieldType.int) [((0 : Nat), (10 : Nat), (13 : Nat), (19 : Nat))] ∈ TB := cTB8 (i := 176) rfl rfl
theorem t_1857 : Jvm.Cond.methodLink "ExactlySaidLaw" (92 : Nat) ({ cls := "ExactlySaid", name := "count", desc := "(IZ)I" } : Jvm.MethodName) ∈ TB := cTB8 (i := 177) rfl rfl
theorem t_1858 : Jvm.Cond.instanceMethod ({ cls := "ExactlySaid", name := "count", desc := "(IZ)I" } : Jvm.MethodName) ∈ TB := cTB8 (i := 178) rfl rfl
theorem t_1859 : Jvm.Cond.selects "ExactlySaid" ({ cls := "ExactlySaid", name := "count", desc := "(IZ)I" } : Jvm.MethodName) ({ cls := "ExactlySaid", name := "count", desc := "(IZ)I" } : Jvm.MethodName) ∈ TB := cTB8 (i := 179) rfl rfl
theorem t_1860 : Jvm.Cond.code ({ cls := "ExactlySaid", name := "count", desc := "(IZ)I" } : Jvm.MethodName) prog_1_method_58_code (4 : Nat) (Option.some Jvm.ClassFile.FieldType.int) ∈ TB := cTB8 (i := 180) rfl rfl
theorem t_1861 : Jvm.Cond.methodLink "ExactlySaidLaw" (259 : Nat) ({ cls := "ExactlySaidLaw", name := "takeLeast", desc := "(LExactlySaid;II[J)I" } : Jvm.MethodName) ∈ TB := cTB8 (i := 181) rfl rfl
theorem t_1862 : Jvm.Cond.static ({ cls := "ExactlySaidLaw", name := "takeLeast", desc := "(LExactlySaid;II[J)I" } : Jvm.MethodName) ∈ TB := cTB8 (i := 182) rfl rfl
theorem t_1863 : Jvm.Cond.codeWith ({ cls := "ExactlySaidLaw", name := "takeLeast", desc := "(LExactlySaid;II[J)I" } : Jvm.MethodName) method_26_code (5 : Nat) (Option.some Jvm.ClassFile.FieldType.int) [((0 : Nat), (10 : Nat), (13 : Nat), (19 : Nat)), ((0 : Nat), (10 : Nat), (17 : Nat), (30 : Nat))] ∈ TB := cTB8 (i := 183) rfl rfl
theorem t_1864 : Jvm.Cond.methodLink "ExactlySaidLaw" (95 : Nat) ({ cls := "ExactlySaid", name := "takeLeast", desc := "(II)I" } : Jvm.MethodName) ∈ TB := cTB8 (i := 184) rfl rfl
theorem t_1865 : Jvm.Cond.instanceMethod ({ cls := "ExactlySaid", name := "takeLeast", desc := "(II)I" } : Jvm.MethodName) ∈ TB := cTB8 (i := 185) rfl rfl
theorem t_1866 : Jvm.Cond.selects "ExactlySaid" ({ cls := "ExactlySaid", name := "takeLeast", desc := "(II)I" } : Jvm.MethodName) ({ cls := "ExactlySaid", name := "takeLeast", desc := "(II)I" } : Jvm.MethodName) ∈ TB := cTB8 (i := 186) rfl rfl
theorem t_1867 : Jvm.Cond.code ({ cls := "ExactlySaid", name := "takeLeast", desc := "(II)I" } : Jvm.MethodName) prog_1_method_59_code (4 : Nat) (Option.some Jvm.ClassFile.FieldType.int) ∈ TB := cTB8 (i := 187) rfl rfl
theorem t_1868 : Jvm.Cond.methodLink "ExactlySaidLaw" (262 : Nat) ({ cls := "ExactlySaidLaw", name := "takeNext", desc := "(LExactlySaid;I[J)I" } : Jvm.MethodName) ∈ TB := cTB8 (i := 188) rfl rfl
theorem t_1869 : Jvm.Cond.static ({ cls := "ExactlySaidLaw", name := "takeNext", desc := "(LExactlySaid;I[J)I" } : Jvm.MethodName) ∈ TB := cTB8 (i := 189) rfl rfl
theorem t_1870 : Jvm.Cond.codeWith ({ cls := "ExactlySaidLaw", name := "takeNext", desc := "(LExactlySaid;I[J)I" } : Jvm.MethodName) method_27_code (4 : Nat) (Option.some Jvm.ClassFile.FieldType.int) [((0 : Nat), (9 : Nat), (12 : Nat), (19 : Nat)), ((0 : Nat), (9 : Nat), (15 : Nat), (56 : Nat))] ∈ TB := cTB8 (i := 190) rfl rfl
theorem t_1871 : Jvm.Cond.methodLink "ExactlySaidLaw" (98 : Nat) ({ cls := "ExactlySaid", name := "takeNext", desc := "(I)I" } : Jvm.MethodName) ∈ TB := cTB8 (i := 191) rfl rfl
theorem t_1872 : Jvm.Cond.instanceMethod ({ cls := "ExactlySaid", name := "takeNext", desc := "(I)I" } : Jvm.MethodName) ∈ TB := cTB8 (i := 192) rfl rfl
theorem t_1873 : Jvm.Cond.selects "ExactlySaid" ({ cls := "ExactlySaid", name := "takeNext", desc := "(I)I" } : Jvm.MethodName) ({ cls := "ExactlySaid", name := "takeNext", desc := "(I)I" } : Jvm.MethodName) ∈ TB := cTB8 (i := 193) rfl rfl
theorem t_1874 : Jvm.Cond.code ({ cls := "ExactlySaid", name := "takeNext", desc := "(I)I" } : Jvm.MethodName) prog_1_method_60_code (5 : Nat) (Option.some Jvm.ClassFile.FieldType.int) ∈ TB := cTB8 (i := 194) rfl rfl
theorem t_1875 : Jvm.Cond.methodLink "ExactlySaidLaw" (265 : Nat) ({ cls := "ExactlySaidLaw", name := "takeAll", desc := "(LExactlySaid;II[J)I" } : Jvm.MethodName) ∈ TB := cTB8 (i := 195) rfl rfl
theorem t_1876 : Jvm.Cond.static ({ cls := "ExactlySaidLaw", name := "takeAll", desc := "(LExactlySaid;II[J)I" } : Jvm.MethodName) ∈ TB := cTB8 (i := 196) rfl rfl
theorem t_1877 : Jvm.Cond.codeWith ({ cls := "ExactlySaidLaw", name := "takeAll", desc := "(LExactlySaid;II[J)I" } : Jvm.MethodName) method_28_code (5 : Nat) (Option.some Jvm.ClassFile.FieldType.int) [((0 : Nat), (10 : Nat), (13 : Nat), (19 : Nat)), ((0 : Nat), (10 : Nat), (17 : Nat), (56 : Nat)), ((0 : Nat), (10 : Nat), (21 : Nat), (21 : Nat))] ∈ TB := cTB8 (i := 197) rfl rfl
theorem t_1878 : Jvm.Cond.methodLink "ExactlySaidLaw" (101 : Nat) ({ cls := "ExactlySaid", name := "takeAll", desc := "(II)I" } : Jvm.MethodName) ∈ TB := cTB8 (i := 198) rfl rfl
theorem t_1879 : Jvm.Cond.instanceMethod ({ cls := "ExactlySaid", name := "takeAll", desc := "(II)I" } : Jvm.MethodName) ∈ TB := cTB8 (i := 199) rfl rfl
theorem t_1880 : Jvm.Cond.selects "ExactlySaid" ({ cls := "ExactlySaid", name := "takeAll", desc := "(II)I" } : Jvm.MethodName) ({ cls := "ExactlySaid", name := "takeAll", desc := "(II)I" } : Jvm.MethodName) ∈ TB := cTB8 (i := 200) rfl rfl
theorem t_1881 : Jvm.Cond.code ({ cls := "ExactlySaid", name := "takeAll", desc := "(II)I" } : Jvm.MethodName) prog_1_method_61_code (5 : Nat) (Option.some Jvm.ClassFile.FieldType.int) ∈ TB := cTB8 (i := 201) rfl rfl
theorem t_1882 : Jvm.Cond.methodLinkNest "ExactlySaid" (406 : Nat) ({ cls := "ExactlySaid$Reckoner", name := "meanOf", desc := "([LExactlySaid$Fraction;)LExactlySaid$Fraction;" } : Jvm.MethodName) "ExactlySaid" ∈ TN := cTN8 (i := 202) rfl rfl
theorem t_1884 : Jvm.Cond.instanceMethod ({ cls := "ExactlySaid$Reckoner", name := "meanOf", desc := "([LExactlySaid$Fraction;)LExactlySaid$Fraction;" } : Jvm.MethodName) ∈ TB := cTB8 (i := 204) rfl rfl
theorem t_1885 : Jvm.Cond.code ({ cls := "ExactlySaid$Reckoner", name := "meanOf", desc := "([LExactlySaid$Fraction;)LExactlySaid$Fraction;" } : Jvm.MethodName) prog_7_method_21_code (2 : Nat) (Option.some (Jvm.ClassFile.FieldType.object "ExactlySaid$Fraction")) ∈ TB := cTB8 (i := 205) rfl rfl
theorem t_1886 : Jvm.Cond.methodLink "ExactlySaid$Reckoner" (210 : Nat) ({ cls := "ExactlySaid$Reckoner", name := "totalOf", desc := "([LExactlySaid$Fraction;Z)LExactlySaid$Fraction;" } : Jvm.MethodName) ∈ TB := cTB8 (i := 206) rfl rfl
theorem t_1888 : Jvm.Cond.instanceMethod ({ cls := "ExactlySaid$Reckoner", name := "totalOf", desc := "([LExactlySaid$Fraction;Z)LExactlySaid$Fraction;" } : Jvm.MethodName) ∈ TB := cTB8 (i := 208) rfl rfl
theorem t_1889 : Jvm.Cond.code ({ cls := "ExactlySaid$Reckoner", name := "totalOf", desc := "([LExactlySaid$Fraction;Z)LExactlySaid$Fraction;" } : Jvm.MethodName) prog_7_method_20_code (7 : Nat) (Option.some (Jvm.ClassFile.FieldType.object "ExactlySaid$Fraction")) ∈ TB := cTB8 (i := 209) rfl rfl
theorem t_1890 : Jvm.Cond.methodLinkNest "ExactlySaid" (410 : Nat) ({ cls := "ExactlySaid$Reckoner", name := "totalOf", desc := "([LExactlySaid$Fraction;Z)LExactlySaid$Fraction;" } : Jvm.MethodName) "ExactlySaid" ∈ TN := cTN8 (i := 210) rfl rfl
theorem t_1891 : Jvm.Cond.methodLinkNest "ExactlySaid" (414 : Nat) ({ cls := "ExactlySaid$Fraction", name := "fits", desc := "()Z" } : Jvm.MethodName) "ExactlySaid" ∈ TN := cTN8 (i := 211) rfl rfl
theorem t_1892 : Jvm.Cond.methodLink "ExactlySaidLaw" (114 : Nat) ({ cls := "ExactlySaidModel", name := "thrown", desc := "()I" } : Jvm.MethodName) ∈ TB := cTB8 (i := 212) rfl rfl
theorem t_1893 : Jvm.Cond.instanceMethod ({ cls := "ExactlySaidModel", name := "thrown", desc := "()I" } : Jvm.MethodName) ∈ TB := cTB8 (i := 213) rfl rfl
theorem t_1894 : Jvm.Cond.selects "ExactlySaidModel" ({ cls := "ExactlySaidModel", name := "thrown", desc := "()I" } : Jvm.MethodName) ({ cls := "ExactlySaidModel", name := "thrown", desc := "()I" } : Jvm.MethodName) ∈ TB := cTB8 (i := 214) rfl rfl
theorem t_1895 : Jvm.Cond.code ({ cls := "ExactlySaidModel", name := "thrown", desc := "()I" } : Jvm.MethodName) prog_14_method_1_code (1 : Nat) (Option.some Jvm.ClassFile.FieldType.int) ∈ TB := cTB8 (i := 215) rfl rfl
theorem t_1896 : Jvm.Cond.classLink "ExactlySaidLaw" (105 : Nat) "ExactlySaidModel" ∈ TB := cTB8 (i := 216) rfl rfl
theorem t_1897 : Jvm.Cond.instantiable "ExactlySaidModel" (83 : Nat) ∈ TB := cTB8 (i := 217) rfl rfl
theorem t_1898 : Jvm.Cond.methodLink "ExactlySaidLaw" (107 : Nat) ({ cls := "ExactlySaidModel", name := "<init>", desc := "()V" } : Jvm.MethodName) ∈ TB := cTB8 (i := 218) rfl rfl
theorem t_1899 : Jvm.Cond.instanceMethod ({ cls := "ExactlySaidModel", name := "<init>", desc := "()V" } : Jvm.MethodName) ∈ TB := cTB8 (i := 219) rfl rfl
theorem t_1900 : Jvm.Cond.code ({ cls := "ExactlySaidModel", name := "<init>", desc := "()V" } : Jvm.MethodName) prog_14_method_4_code (2 : Nat) (Option.none : Option Jvm.ClassFile.FieldType) ∈ TB := cTB8 (i := 220) rfl rfl
theorem t_1901 : Jvm.Cond.methodLink "ExactlySaidModel" (7 : Nat) ({ cls := "java/lang/Object", name := "<init>", desc := "()V" } : Jvm.MethodName) ∈ TB := cTB8 (i := 221) rfl rfl
theorem t_1902 : Jvm.Cond.constant "ExactlySaidModel" (23 : Nat) (201600 : Int32) ∈ TB := cTB8 (i := 222) rfl rfl
theorem t_1903 : Jvm.Cond.methodLink "ExactlySaidModel" (163 : Nat) ({ cls := "ExactlySaidModel", name := "keepsWhole", desc := "(I)I" } : Jvm.MethodName) ∈ TB := cTB8 (i := 223) rfl rfl
theorem t_1905 : Jvm.Cond.instanceMethod ({ cls := "ExactlySaidModel", name := "keepsWhole", desc := "(I)I" } : Jvm.MethodName) ∈ TB := cTB8 (i := 225) rfl rfl
theorem t_1906 : Jvm.Cond.code ({ cls := "ExactlySaidModel", name := "keepsWhole", desc := "(I)I" } : Jvm.MethodName) prog_14_method_26_code (4 : Nat) (Option.some Jvm.ClassFile.FieldType.int) ∈ TB := cTB8 (i := 226) rfl rfl
theorem t_1907 : Jvm.Cond.methodLink "ExactlySaidModel" (217 : Nat) ({ cls := "ExactlySaidModel", name := "newValue", desc := "()I" } : Jvm.MethodName) ∈ TB := cTB8 (i := 227) rfl rfl
theorem t_1909 : Jvm.Cond.instanceMethod ({ cls := "ExactlySaidModel", name := "newValue", desc := "()I" } : Jvm.MethodName) ∈ TB := cTB8 (i := 229) rfl rfl
theorem t_1910 : Jvm.Cond.code ({ cls := "ExactlySaidModel", name := "newValue", desc := "()I" } : Jvm.MethodName) prog_14_method_23_code (1 : Nat) (Option.some Jvm.ClassFile.FieldType.int) ∈ TB := cTB8 (i := 230) rfl rfl
theorem t_1911 : Jvm.Cond.methodLink "ExactlySaidModel" (191 : Nat) ({ cls := "ExactlySaidModel", name := "puts", desc := "(II)V" } : Jvm.MethodName) ∈ TB := cTB8 (i := 231) rfl rfl
theorem t_1913 : Jvm.Cond.instanceMethod ({ cls := "ExactlySaidModel", name := "puts", desc := "(II)V" } : Jvm.MethodName) ∈ TB := cTB8 (i := 233) rfl rfl
theorem t_1914 : Jvm.Cond.code ({ cls := "ExactlySaidModel", name := "puts", desc := "(II)V" } : Jvm.MethodName) prog_14_method_5_code (4 : Nat) (Option.none : Option Jvm.ClassFile.FieldType) ∈ TB := cTB8 (i := 234) rfl rfl
theorem t_1915 : Jvm.Cond.methodLink "ExactlySaidModel" (224 : Nat) ({ cls := "ExactlySaidModel", name := "lays", desc := "(II)Z" } : Jvm.MethodName) ∈ TB := cTB8 (i := 235) rfl rfl
theorem t_1917 : Jvm.Cond.instanceMethod ({ cls := "ExactlySaidModel", name := "lays", desc := "(II)Z" } : Jvm.MethodName) ∈ TB := cTB8 (i := 237) rfl rfl
theorem t_1918 : Jvm.Cond.code ({ cls := "ExactlySaidModel", name := "lays", desc := "(II)Z" } : Jvm.MethodName) prog_14_method_22_code (4 : Nat) (Option.some Jvm.ClassFile.FieldType.boolean) ∈ TB := cTB8 (i := 238) rfl rfl
theorem t_1919 : Jvm.Cond.methodLink "ExactlySaidModel" (210 : Nat) ({ cls := "ExactlySaidModel", name := "lowers", desc := "()V" } : Jvm.MethodName) ∈ TB := cTB8 (i := 239) rfl rfl
theorem t_1921 : Jvm.Cond.instanceMethod ({ cls := "ExactlySaidModel", name := "lowers", desc := "()V" } : Jvm.MethodName) ∈ TB := cTB9 (i := 1) rfl rfl
theorem t_1922 : Jvm.Cond.code ({ cls := "ExactlySaidModel", name := "lowers", desc := "()V" } : Jvm.MethodName) prog_14_method_21_code (1 : Nat) (Option.none : Option Jvm.ClassFile.FieldType) ∈ TB := cTB9 (i := 2) rfl rfl
theorem t_1923 : Jvm.Cond.methodLink "ExactlySaidModel" (207 : Nat) ({ cls := "ExactlySaidModel", name := "finds", desc := "(II)V" } : Jvm.MethodName) ∈ TB := cTB9 (i := 3) rfl rfl
theorem t_1925 : Jvm.Cond.instanceMethod ({ cls := "ExactlySaidModel", name := "finds", desc := "(II)V" } : Jvm.MethodName) ∈ TB := cTB9 (i := 5) rfl rfl
theorem t_1926 : Jvm.Cond.code ({ cls := "ExactlySaidModel", name := "finds", desc := "(II)V" } : Jvm.MethodName) prog_14_method_18_code (3 : Nat) (Option.none : Option Jvm.ClassFile.FieldType) ∈ TB := cTB9 (i := 6) rfl rfl
theorem t_1927 : Jvm.Cond.methodLink "ExactlySaidModel" (181 : Nat) ({ cls := "ExactlySaidModel", name := "copies", desc := "(II)V" } : Jvm.MethodName) ∈ TB := cTB9 (i := 7) rfl rfl
theorem t_1929 : Jvm.Cond.instanceMethod ({ cls := "ExactlySaidModel", name := "copies", desc := "(II)V" } : Jvm.MethodName) ∈ TB := cTB9 (i := 9) rfl rfl
theorem t_1930 : Jvm.Cond.code ({ cls := "ExactlySaidModel", name := "copies", desc := "(II)V" } : Jvm.MethodName) prog_14_method_6_code (4 : Nat) (Option.none : Option Jvm.ClassFile.FieldType) ∈ TB := cTB9 (i := 10) rfl rfl
theorem t_1931 : Jvm.Cond.methodLink "ExactlySaidModel" (204 : Nat) ({ cls := "ExactlySaidModel", name := "divides", desc := "(II)V" } : Jvm.MethodName) ∈ TB := cTB9 (i := 11) rfl rfl
theorem t_1933 : Jvm.Cond.instanceMethod ({ cls := "ExactlySaidModel", name := "divides", desc := "(II)V" } : Jvm.MethodName) ∈ TB := cTB9 (i := 13) rfl rfl
theorem t_1934 : Jvm.Cond.code ({ cls := "ExactlySaidModel", name := "divides", desc := "(II)V" } : Jvm.MethodName) prog_14_method_15_code (7 : Nat) (Option.none : Option Jvm.ClassFile.FieldType) ∈ TB := cTB9 (i := 14) rfl rfl
theorem t_1935 : Jvm.Cond.methodLink "ExactlySaidModel" (185 : Nat) ({ cls := "ExactlySaidModel", name := "compares", desc := "(II)I" } : Jvm.MethodName) ∈ TB := cTB9 (i := 15) rfl rfl
theorem t_1937 : Jvm.Cond.instanceMethod ({ cls := "ExactlySaidModel", name := "compares", desc := "(II)I" } : Jvm.MethodName) ∈ TB := cTB9 (i := 17) rfl rfl
theorem t_1938 : Jvm.Cond.code ({ cls := "ExactlySaidModel", name := "compares", desc := "(II)I" } : Jvm.MethodName) prog_14_method_8_code (4 : Nat) (Option.some Jvm.ClassFile.FieldType.int) ∈ TB := cTB9 (i := 18) rfl rfl
theorem t_1939 : Jvm.Cond.methodLink "ExactlySaidModel" (188 : Nat) ({ cls := "ExactlySaidModel", name := "shortens", desc := "(II)I" } : Jvm.MethodName) ∈ TB := cTB9 (i := 19) rfl rfl
theorem t_1941 : Jvm.Cond.instanceMethod ({ cls := "ExactlySaidModel", name := "shortens", desc := "(II)I" } : Jvm.MethodName) ∈ TB := cTB9 (i := 21) rfl rfl
theorem t_1942 : Jvm.Cond.code ({ cls := "ExactlySaidModel", name := "shortens", desc := "(II)I" } : Jvm.MethodName) prog_14_method_14_code (6 : Nat) (Option.some Jvm.ClassFile.FieldType.int) ∈ TB := cTB9 (i := 22) rfl rfl
theorem t_1943 : Jvm.Cond.methodLink "ExactlySaidModel" (177 : Nat) ({ cls := "ExactlySaidModel", name := "trims", desc := "(I)V" } : Jvm.MethodName) ∈ TB := cTB9 (i := 23) rfl rfl
theorem t_1945 : Jvm.Cond.instanceMethod ({ cls := "ExactlySaidModel", name := "trims", desc := "(I)V" } : Jvm.MethodName) ∈ TB := cTB9 (i := 25) rfl rfl
theorem t_1946 : Jvm.Cond.code ({ cls := "ExactlySaidModel", name := "trims", desc := "(I)V" } : Jvm.MethodName) prog_14_method_7_code (2 : Nat) (Option.none : Option Jvm.ClassFile.FieldType) ∈ TB := cTB9 (i := 26) rfl rfl
theorem t_1947 : Jvm.Cond.methodLink "ExactlySaidModel" (194 : Nat) ({ cls := "ExactlySaidModel", name := "times", desc := "(II)V" } : Jvm.MethodName) ∈ TB := cTB9 (i := 27) rfl rfl
theorem t_1949 : Jvm.Cond.instanceMethod ({ cls := "ExactlySaidModel", name := "times", desc := "(II)V" } : Jvm.MethodName) ∈ TB := cTB9 (i := 29) rfl rfl
theorem t_1950 : Jvm.Cond.code ({ cls := "ExactlySaidModel", name := "times", desc := "(II)V" } : Jvm.MethodName) prog_14_method_13_code (6 : Nat) (Option.none : Option Jvm.ClassFile.FieldType) ∈ TB := cTB9 (i := 30) rfl rfl
theorem t_1951 : Jvm.Cond.methodLink "ExactlySaidModel" (197 : Nat) ({ cls := "ExactlySaidModel", name := "digitAt", desc := "(II)I" } : Jvm.MethodName) ∈ TB := cTB9 (i := 31) rfl rfl
theorem t_1953 : Jvm.Cond.instanceMethod ({ cls := "ExactlySaidModel", name := "digitAt", desc := "(II)I" } : Jvm.MethodName) ∈ TB := cTB9 (i := 33) rfl rfl
theorem t_1954 : Jvm.Cond.code ({ cls := "ExactlySaidModel", name := "digitAt", desc := "(II)I" } : Jvm.MethodName) prog_14_method_16_code (11 : Nat) (Option.some Jvm.ClassFile.FieldType.int) ∈ TB := cTB9 (i := 34) rfl rfl
theorem t_1955 : Jvm.Cond.methodLink "ExactlySaidModel" (200 : Nat) ({ cls := "ExactlySaidModel", name := "takes", desc := "(III)I" } : Jvm.MethodName) ∈ TB := cTB9 (i := 35) rfl rfl
theorem t_1957 : Jvm.Cond.instanceMethod ({ cls := "ExactlySaidModel", name := "takes", desc := "(III)I" } : Jvm.MethodName) ∈ TB := cTB9 (i := 37) rfl rfl
theorem t_1958 : Jvm.Cond.code ({ cls := "ExactlySaidModel", name := "takes", desc := "(III)I" } : Jvm.MethodName) prog_14_method_17_code (9 : Nat) (Option.some Jvm.ClassFile.FieldType.int) ∈ TB := cTB9 (i := 38) rfl rfl
theorem t_1959 : Jvm.Cond.methodLink "ExactlySaidModel" (213 : Nat) ({ cls := "ExactlySaidModel", name := "isSmall", desc := "(I)Z" } : Jvm.MethodName) ∈ TB := cTB9 (i := 39) rfl rfl
theorem t_1961 : Jvm.Cond.instanceMethod ({ cls := "ExactlySaidModel", name := "isSmall", desc := "(I)Z" } : Jvm.MethodName) ∈ TB := cTB9 (i := 41) rfl rfl
theorem t_1962 : Jvm.Cond.code ({ cls := "ExactlySaidModel", name := "isSmall", desc := "(I)Z" } : Jvm.MethodName) prog_14_method_20_code (2 : Nat) (Option.some Jvm.ClassFile.FieldType.boolean) ∈ TB := cTB9 (i := 42) rfl rfl
theorem t_1963 : Jvm.Cond.methodLink "ExactlySaidModel" (173 : Nat) ({ cls := "ExactlySaidModel", name := "limb", desc := "(II)I" } : Jvm.MethodName) ∈ TB := cTB9 (i := 43) rfl rfl
theorem t_1965 : Jvm.Cond.instanceMethod ({ cls := "ExactlySaidModel", name := "limb", desc := "(II)I" } : Jvm.MethodName) ∈ TB := cTB9 (i := 45) rfl rfl
theorem t_1966 : Jvm.Cond.code ({ cls := "ExactlySaidModel", name := "limb", desc := "(II)I" } : Jvm.MethodName) prog_14_method_9_code (3 : Nat) (Option.some Jvm.ClassFile.FieldType.int) ∈ TB := cTB9 (i := 46) rfl rfl
theorem t_1967 : Jvm.Cond.fieldLink "ExactlySaidModel" (1 : Nat) "ExactlySaidModel" "thrown" "I" ∈ TB := cTB9 (i := 47) rfl rfl
theorem t_1968 : Jvm.Cond.fieldLink "ExactlySaidModel" (13 : Nat) "ExactlySaidModel" "big" "[I" ∈ TB := cTB9 (i := 48) rfl rfl
theorem t_1969 : Jvm.Cond.fieldLink "ExactlySaidModel" (17 : Nat) "ExactlySaidModel" "wide" "[I" ∈ TB := cTB9 (i := 49) rfl rfl
theorem t_1970 : Jvm.Cond.fieldLink "ExactlySaidModel" (20 : Nat) "ExactlySaidModel" "sign" "[I" ∈ TB := cTB9 (i := 50) rfl rfl
theorem t_1971 : Jvm.Cond.fieldLink "ExactlySaidModel" (24 : Nat) "ExactlySaidModel" "part" "[I" ∈ TB := cTB9 (i := 51) rfl rfl
theorem t_1972 : Jvm.Cond.fieldLink "ExactlySaidModel" (160 : Nat) "ExactlySaidModel" "valuesMany" "I" ∈ TB := cTB9 (i := 52) rfl rfl
theorem t_1973 : Jvm.Cond.fieldLink "ExactlySaidModel" (167 : Nat) "ExactlySaidModel" "zero" "I" ∈ TB := cTB9 (i := 53) rfl rfl
theorem t_1974 : Jvm.Cond.fieldLink "ExactlySaidModel" (27 : Nat) "ExactlySaidModel" "tape" "[I" ∈ TB := cTB9 (i := 54) rfl rfl
theorem t_1975 : Jvm.Cond.fieldLink "ExactlySaidModel" (285 : Nat) "ExactlySaidModel" "tapeMany" "I" ∈ TB := cTB9 (i := 55) rfl rfl
theorem t_1976 : Jvm.Cond.fieldLink "ExactlySaidModel" (30 : Nat) "ExactlySaidModel" "errorAt" "I" ∈ TB := cTB9 (i := 56) rfl rfl
theorem t_1977 : Jvm.Cond.fieldLink "ExactlySaidModel" (322 : Nat) "ExactlySaidModel" "token" "I" ∈ TB := cTB9 (i := 57) rfl rfl
theorem t_1978 : Jvm.Cond.fieldLink "ExactlySaidModel" (328 : Nat) "ExactlySaidModel" "tokenAt" "I" ∈ TB := cTB9 (i := 58) rfl rfl
theorem t_1979 : Jvm.Cond.fieldLink "ExactlySaidModel" (325 : Nat) "ExactlySaidModel" "value" "I" ∈ TB := cTB9 (i := 59) rfl rfl
theorem t_1980 : Jvm.Cond.fieldLink "ExactlySaidModel" (304 : Nat) "ExactlySaidModel" "at" "I" ∈ TB := cTB9 (i := 60) rfl rfl
theorem t_1981 : Jvm.Cond.fieldLink "ExactlySaidModel" (310 : Nat) "ExactlySaidModel" "pointAt" "I" ∈ TB := cTB9 (i := 61) rfl rfl
theorem t_1982 : Jvm.Cond.fieldLink "ExactlySaidModel" (313 : Nat) "ExactlySaidModel" "repeatAt" "I" ∈ TB := cTB9 (i := 62) rfl rfl
theorem t_1983 : Jvm.Cond.fieldLink "ExactlySaidModel" (319 : Nat) "ExactlySaidModel" "numberEnd" "I" ∈ TB := cTB9 (i := 63) rfl rfl
theorem t_1984 : Jvm.Cond.fieldLink "ExactlySaidModel" (33 : Nat) "ExactlySaidModel" "item" "[I" ∈ TB := cTB9 (i := 64) rfl rfl
theorem t_1985 : Jvm.Cond.fieldLink "ExactlySaidModel" (36 : Nat) "ExactlySaidModel" "which" "[I" ∈ TB := cTB9 (i := 65) rfl rfl
theorem t_1986 : Jvm.Cond.fieldLink "ExactlySaidModel" (39 : Nat) "ExactlySaidModel" "with" "[I" ∈ TB := cTB9 (i := 66) rfl rfl
theorem t_1987 : Jvm.Cond.fieldLink "ExactlySaidModel" (42 : Nat) "ExactlySaidModel" "where" "[I" ∈ TB := cTB9 (i := 67) rfl rfl
theorem t_1988 : Jvm.Cond.fieldLink "ExactlySaidModel" (343 : Nat) "ExactlySaidModel" "items" "I" ∈ TB := cTB9 (i := 68) rfl rfl
theorem t_1989 : Jvm.Cond.fieldLink "ExactlySaidModel" (45 : Nat) "ExactlySaidModel" "defStart" "[I" ∈ TB := cTB9 (i := 69) rfl rfl
theorem t_1990 : Jvm.Cond.fieldLink "ExactlySaidModel" (48 : Nat) "ExactlySaidModel" "defEnd" "[I" ∈ TB := cTB9 (i := 70) rfl rfl
theorem t_1991 : Jvm.Cond.fieldLink "ExactlySaidModel" (51 : Nat) "ExactlySaidModel" "defParameters" "[I" ∈ TB := cTB9 (i := 71) rfl rfl
theorem t_1992 : Jvm.Cond.fieldLink "ExactlySaidModel" (518 : Nat) "ExactlySaidModel" "defs" "I" ∈ TB := cTB9 (i := 72) rfl rfl
theorem t_1993 : Jvm.Cond.fieldLink "ExactlySaidModel" (54 : Nat) "ExactlySaidModel" "waits" "[I" ∈ TB := cTB9 (i := 73) rfl rfl
theorem t_1994 : Jvm.Cond.fieldLink "ExactlySaidModel" (57 : Nat) "ExactlySaidModel" "waitsAt" "[I" ∈ TB := cTB9 (i := 74) rfl rfl
theorem t_1995 : Jvm.Cond.fieldLink "ExactlySaidModel" (60 : Nat) "ExactlySaidModel" "waitsWord" "[I" ∈ TB := cTB9 (i := 75) rfl rfl
theorem t_1996 : Jvm.Cond.fieldLink "ExactlySaidModel" (63 : Nat) "ExactlySaidModel" "waitsMany" "[I" ∈ TB := cTB9 (i := 76) rfl rfl
theorem t_1997 : Jvm.Cond.fieldLink "ExactlySaidModel" (346 : Nat) "ExactlySaidModel" "waiting" "I" ∈ TB := cTB9 (i := 77) rfl rfl
theorem t_1998 : Jvm.Cond.fieldLink "ExactlySaidModel" (349 : Nat) "ExactlySaidModel" "open" "I" ∈ TB := cTB9 (i := 78) rfl rfl
theorem t_1999 : Jvm.Cond.fieldLink "ExactlySaidModel" (371 : Nat) "ExactlySaidModel" "form" "I" ∈ TB := cTB9 (i := 79) rfl rfl
theorem t_2000 : Jvm.Cond.fieldLink "ExactlySaidModel" (362 : Nat) "ExactlySaidModel" "told" "I" ∈ TB := cTB9 (i := 80) rfl rfl
theorem t_2001 : Jvm.Cond.fieldLink "ExactlySaidModel" (365 : Nat) "ExactlySaidModel" "toldAt" "I" ∈ TB := cTB9 (i := 81) rfl rfl
theorem t_2002 : Jvm.Cond.fieldLink "ExactlySaidModel" (368 : Nat) "ExactlySaidModel" "parameters" "I" ∈ TB := cTB9 (i := 82) rfl rfl
theorem t_2003 : Jvm.Cond.fieldLink "ExactlySaidModel" (66 : Nat) "ExactlySaidModel" "parameter" "[I" ∈ TB := cTB9 (i := 83) rfl rfl
theorem t_2004 : Jvm.Cond.fieldLink "ExactlySaidModel" (69 : Nat) "ExactlySaidModel" "word" "[I" ∈ TB := cTB9 (i := 84) rfl rfl
theorem t_2005 : Jvm.Cond.fieldLink "ExactlySaidModel" (72 : Nat) "ExactlySaidModel" "def" "[I" ∈ TB := cTB9 (i := 85) rfl rfl
theorem t_2006 : Jvm.Cond.fieldLink "ExactlySaidModel" (75 : Nat) "ExactlySaidModel" "valueOf" "[I" ∈ TB := cTB9 (i := 86) rfl rfl
theorem t_2007 : Jvm.Cond.fieldLink "ExactlySaidModel" (411 : Nat) "ExactlySaidModel" "names" "I" ∈ TB := cTB9 (i := 87) rfl rfl
theorem t_2008 : Jvm.Cond.fieldLink "ExactlySaidModel" (408 : Nat) "ExactlySaidModel" "functions" "I" ∈ TB := cTB9 (i := 88) rfl rfl
theorem t_2009 : Jvm.Cond.fieldLink "ExactlySaidModel" (78 : Nat) "ExactlySaidModel" "isUsed" "[Z" ∈ TB := cTB9 (i := 89) rfl rfl
theorem t_2010 : Jvm.Cond.fieldLink "ExactlySaidModel" (82 : Nat) "ExactlySaidModel" "cause" "I" ∈ TB := cTB9 (i := 90) rfl rfl
theorem t_2011 : Jvm.Cond.fieldLink "ExactlySaidModel" (85 : Nat) "ExactlySaidModel" "causeAt" "I" ∈ TB := cTB9 (i := 91) rfl rfl
theorem t_2012 : Jvm.Cond.fieldLink "ExactlySaidModel" (88 : Nat) "ExactlySaidModel" "failed" "I" ∈ TB := cTB9 (i := 92) rfl rfl
theorem t_2013 : Jvm.Cond.fieldLink "ExactlySaidModel" (437 : Nat) "ExactlySaidModel" "ringMany" "I" ∈ TB := cTB9 (i := 93) rfl rfl
theorem t_2014 : Jvm.Cond.fieldLink "ExactlySaidModel" (91 : Nat) "ExactlySaidModel" "stack" "[I" ∈ TB := cTB9 (i := 94) rfl rfl
theorem t_2015 : Jvm.Cond.fieldLink "ExactlySaidModel" (94 : Nat) "ExactlySaidModel" "stepKind" "[I" ∈ TB := cTB9 (i := 95) rfl rfl
theorem t_2016 : Jvm.Cond.fieldLink "ExactlySaidModel" (97 : Nat) "ExactlySaidModel" "stepValue" "[I" ∈ TB := cTB9 (i := 96) rfl rfl
theorem t_2017 : Jvm.Cond.fieldLink "ExactlySaidModel" (100 : Nat) "ExactlySaidModel" "shownKind" "[I" ∈ TB := cTB9 (i := 97) rfl rfl
theorem t_2018 : Jvm.Cond.fieldLink "ExactlySaidModel" (103 : Nat) "ExactlySaidModel" "backAt" "[I" ∈ TB := cTB9 (i := 98) rfl rfl
theorem t_2019 : Jvm.Cond.fieldLink "ExactlySaidModel" (106 : Nat) "ExactlySaidModel" "backEnd" "[I" ∈ TB := cTB9 (i := 99) rfl rfl
theorem t_2020 : Jvm.Cond.fieldLink "ExactlySaidModel" (109 : Nat) "ExactlySaidModel" "bottom" "[I" ∈ TB := cTB9 (i := 100) rfl rfl
theorem t_2021 : Jvm.Cond.fieldLink "ExactlySaidModel" (112 : Nat) "ExactlySaidModel" "outer" "[I" ∈ TB := cTB9 (i := 101) rfl rfl
theorem t_2022 : Jvm.Cond.fieldLink "ExactlySaidModel" (458 : Nat) "ExactlySaidModel" "steps" "I" ∈ TB := cTB9 (i := 102) rfl rfl
theorem t_2023 : Jvm.Cond.fieldLink "ExactlySaidModel" (512 : Nat) "ExactlySaidModel" "shown" "I" ∈ TB := cTB9 (i := 103) rfl rfl
theorem t_2024 : Jvm.Cond.fieldLink "ExactlySaidModel" (170 : Nat) "ExactlySaidModel" "answer" "I" ∈ TB := cTB9 (i := 104) rfl rfl
theorem t_2025 : Jvm.Cond.fieldLink "ExactlySaidModel" (115 : Nat) "ExactlySaidModel" "wasWord" "[I" ∈ TB := cTB9 (i := 105) rfl rfl
theorem t_2026 : Jvm.Cond.fieldLink "ExactlySaidModel" (118 : Nat) "ExactlySaidModel" "wasDef" "[I" ∈ TB := cTB9 (i := 106) rfl rfl
theorem t_2027 : Jvm.Cond.fieldLink "ExactlySaidModel" (121 : Nat) "ExactlySaidModel" "wasValue" "[I" ∈ TB := cTB9 (i := 107) rfl rfl
theorem t_2028 : Jvm.Cond.fieldLink "ExactlySaidModel" (473 : Nat) "ExactlySaidModel" "wasNames" "I" ∈ TB := cTB9 (i := 108) rfl rfl
theorem t_2029 : Jvm.Cond.fieldLink "ExactlySaidModel" (476 : Nat) "ExactlySaidModel" "wasFunctions" "I" ∈ TB := cTB9 (i := 109) rfl rfl
theorem t_2030 : Jvm.Cond.fieldLink "ExactlySaidModel" (124 : Nat) "ExactlySaidModel" "isLeft" "[Z" ∈ TB := cTB9 (i := 110) rfl rfl
theorem t_2031 : Jvm.Cond.fieldLink "ExactlySaidModel" (127 : Nat) "ExactlySaidModel" "aheadKind" "[I" ∈ TB := cTB9 (i := 111) rfl rfl
theorem t_2032 : Jvm.Cond.fieldLink "ExactlySaidModel" (488 : Nat) "ExactlySaidModel" "aheadMany" "I" ∈ TB := cTB9 (i := 112) rfl rfl
theorem t_2033 : Jvm.Cond.fieldLink "ExactlySaidModel" (130 : Nat) "ExactlySaidModel" "ringWord" "[I" ∈ TB := cTB9 (i := 113) rfl rfl
theorem t_2034 : Jvm.Cond.fieldLink "ExactlySaidModel" (133 : Nat) "ExactlySaidModel" "row" "[I" ∈ TB := cTB9 (i := 114) rfl rfl
theorem t_2035 : Jvm.Cond.fieldLink "ExactlySaidModel" (136 : Nat) "ExactlySaidModel" "rowMany" "[I" ∈ TB := cTB9 (i := 115) rfl rfl
theorem t_2036 : Jvm.Cond.fieldLink "ExactlySaidModel" (139 : Nat) "ExactlySaidModel" "saved" "[I" ∈ TB := cTB9 (i := 116) rfl rfl
theorem t_2037 : Jvm.Cond.fieldLink "ExactlySaidModel" (142 : Nat) "ExactlySaidModel" "undos" "[I" ∈ TB := cTB9 (i := 117) rfl rfl
theorem t_2038 : Jvm.Cond.fieldLink "ExactlySaidModel" (145 : Nat) "ExactlySaidModel" "redos" "[I" ∈ TB := cTB9 (i := 118) rfl rfl
theorem t_2039 : Jvm.Cond.fieldLink "ExactlySaidModel" (531 : Nat) "ExactlySaidModel" "undoMany" "I" ∈ TB := cTB9 (i := 119) rfl rfl
theorem t_2040 : Jvm.Cond.fieldLink "ExactlySaidModel" (534 : Nat) "ExactlySaidModel" "redoMany" "I" ∈ TB := cTB9 (i := 120) rfl rfl
theorem t_2041 : Jvm.Cond.fieldLink "ExactlySaidModel" (148 : Nat) "ExactlySaidModel" "slot" "[I" ∈ TB := cTB9 (i := 121) rfl rfl
theorem t_2042 : Jvm.Cond.fieldLink "ExactlySaidModel" (151 : Nat) "ExactlySaidModel" "draft" "[I" ∈ TB := cTB9 (i := 122) rfl rfl
theorem t_2043 : Jvm.Cond.fieldLink "ExactlySaidModel" (154 : Nat) "ExactlySaidModel" "text" "[I" ∈ TB := cTB9 (i := 123) rfl rfl
theorem t_2044 : Jvm.Cond.fieldLink "ExactlySaidModel" (540 : Nat) "ExactlySaidModel" "drafted" "I" ∈ TB := cTB9 (i := 124) rfl rfl
theorem t_2045 : Jvm.Cond.fieldLink "ExactlySaidModel" (559 : Nat) "ExactlySaidModel" "written" "I" ∈ TB := cTB9 (i := 125) rfl rfl
theorem t_2046 : Jvm.Cond.fieldLink "ExactlySaidModel" (577 : Nat) "ExactlySaidModel" "formMany" "I" ∈ TB := cTB9 (i := 126) rfl rfl
theorem t_2047 : Jvm.Cond.fieldLink "ExactlySaidModel" (586 : Nat) "ExactlySaidModel" "bestSign" "I" ∈ TB := cTB9 (i := 127) rfl rfl
theorem t_2048 : Jvm.Cond.fieldLink "ExactlySaidModel" (583 : Nat) "ExactlySaidModel" "bestBy" "I" ∈ TB := cTB9 (i := 128) rfl rfl
theorem t_2049 : Jvm.Cond.fieldLink "ExactlySaidModel" (157 : Nat) "ExactlySaidModel" "unit" "[I" ∈ TB := cTB9 (i := 129) rfl rfl
theorem t_2217 : Jvm.Cond.arrayClass Jvm.ClassFile.FieldType.boolean ∈ TB := cTB10 (i := 57) rfl rfl
theorem t_2218 : Jvm.Cond.methodLink "ExactlySaidLaw" (113 : Nat) ({ cls := "ExactlySaidModel", name := "append", desc := "(IIIII)I" } : Jvm.MethodName) ∈ TB := cTB10 (i := 58) rfl rfl
theorem t_2219 : Jvm.Cond.instanceMethod ({ cls := "ExactlySaidModel", name := "append", desc := "(IIIII)I" } : Jvm.MethodName) ∈ TB := cTB10 (i := 59) rfl rfl
theorem t_2220 : Jvm.Cond.selects "ExactlySaidModel" ({ cls := "ExactlySaidModel", name := "append", desc := "(IIIII)I" } : Jvm.MethodName) ({ cls := "ExactlySaidModel", name := "append", desc := "(IIIII)I" } : Jvm.MethodName) ∈ TB := cTB10 (i := 60) rfl rfl
theorem t_2221 : Jvm.Cond.code ({ cls := "ExactlySaidModel", name := "append", desc := "(IIIII)I" } : Jvm.MethodName) prog_14_method_46_code (7 : Nat) (Option.some Jvm.ClassFile.FieldType.int) ∈ TB := cTB10 (i := 61) rfl rfl
theorem t_2222 : Jvm.Cond.methodLink "ExactlySaidModel" (288 : Nat) ({ cls := "ExactlySaidModel", name := "bytesIn", desc := "(I)I" } : Jvm.MethodName) ∈ TB := cTB10 (i := 62) rfl rfl
theorem t_2223 : Jvm.Cond.static ({ cls := "ExactlySaidModel", name := "bytesIn", desc := "(I)I" } : Jvm.MethodName) ∈ TB := cTB10 (i := 63) rfl rfl
theorem t_2224 : Jvm.Cond.code ({ cls := "ExactlySaidModel", name := "bytesIn", desc := "(I)I" } : Jvm.MethodName) prog_14_method_44_code (3 : Nat) (Option.some Jvm.ClassFile.FieldType.int) ∈ TB := cTB10 (i := 64) rfl rfl
theorem t_2225 : Jvm.Cond.methodLink "ExactlySaidModel" (291 : Nat) ({ cls := "ExactlySaidModel", name := "fails", desc := "(ZI)Z" } : Jvm.MethodName) ∈ TB := cTB10 (i := 65) rfl rfl
theorem t_2227 : Jvm.Cond.instanceMethod ({ cls := "ExactlySaidModel", name := "fails", desc := "(ZI)Z" } : Jvm.MethodName) ∈ TB := cTB10 (i := 67) rfl rfl
theorem t_2228 : Jvm.Cond.code ({ cls := "ExactlySaidModel", name := "fails", desc := "(ZI)Z" } : Jvm.MethodName) prog_14_method_3_code (3 : Nat) (Option.some Jvm.ClassFile.FieldType.boolean) ∈ TB := cTB10 (i := 68) rfl rfl
theorem t_2229 : Jvm.Cond.methodLink "ExactlySaidModel" (295 : Nat) ({ cls := "ExactlySaidModel", name := "takesBytes", desc := "(I)V" } : Jvm.MethodName) ∈ TB := cTB10 (i := 69) rfl rfl
theorem t_2231 : Jvm.Cond.instanceMethod ({ cls := "ExactlySaidModel", name := "takesBytes", desc := "(I)V" } : Jvm.MethodName) ∈ TB := cTB10 (i := 71) rfl rfl
theorem t_2232 : Jvm.Cond.code ({ cls := "ExactlySaidModel", name := "takesBytes", desc := "(I)V" } : Jvm.MethodName) prog_14_method_45_code (4 : Nat) (Option.none : Option Jvm.ClassFile.FieldType) ∈ TB := cTB10 (i := 72) rfl rfl
theorem t_2233 : Jvm.Cond.methodLink "ExactlySaidLaw" (120 : Nat) ({ cls := "ExactlySaidModel", name := "clearTape", desc := "()I" } : Jvm.MethodName) ∈ TB := cTB10 (i := 73) rfl rfl
theorem t_2234 : Jvm.Cond.instanceMethod ({ cls := "ExactlySaidModel", name := "clearTape", desc := "()I" } : Jvm.MethodName) ∈ TB := cTB10 (i := 74) rfl rfl
theorem t_2235 : Jvm.Cond.selects "ExactlySaidModel" ({ cls := "ExactlySaidModel", name := "clearTape", desc := "()I" } : Jvm.MethodName) ({ cls := "ExactlySaidModel", name := "clearTape", desc := "()I" } : Jvm.MethodName) ∈ TB := cTB10 (i := 75) rfl rfl
theorem t_2236 : Jvm.Cond.code ({ cls := "ExactlySaidModel", name := "clearTape", desc := "()I" } : Jvm.MethodName) prog_14_method_47_code (2 : Nat) (Option.some Jvm.ClassFile.FieldType.int) ∈ TB := cTB10 (i := 76) rfl rfl
theorem t_2237 : Jvm.Cond.methodLink "ExactlySaidLaw" (124 : Nat) ({ cls := "ExactlySaidModel", name := "run", desc := "()I" } : Jvm.MethodName) ∈ TB := cTB10 (i := 77) rfl rfl
theorem t_2238 : Jvm.Cond.instanceMethod ({ cls := "ExactlySaidModel", name := "run", desc := "()I" } : Jvm.MethodName) ∈ TB := cTB10 (i := 78) rfl rfl
theorem t_2239 : Jvm.Cond.selects "ExactlySaidModel" ({ cls := "ExactlySaidModel", name := "run", desc := "()I" } : Jvm.MethodName) ({ cls := "ExactlySaidModel", name := "run", desc := "()I" } : Jvm.MethodName) ∈ TB := cTB10 (i := 79) rfl rfl
theorem t_2240 : Jvm.Cond.code ({ cls := "ExactlySaidModel", name := "run", desc := "()I" } : Jvm.MethodName) prog_14_method_91_code (5 : Nat) (Option.some Jvm.ClassFile.FieldType.int) ∈ TB := cTB10 (i := 80) rfl rfl
theorem t_2241 : Jvm.Cond.methodLink "ExactlySaidModel" (515 : Nat) ({ cls := "ExactlySaidModel", name := "readsLine", desc := "()Z" } : Jvm.MethodName) ∈ TB := cTB10 (i := 81) rfl rfl
theorem t_2243 : Jvm.Cond.instanceMethod ({ cls := "ExactlySaidModel", name := "readsLine", desc := "()Z" } : Jvm.MethodName) ∈ TB := cTB10 (i := 83) rfl rfl
theorem t_2244 : Jvm.Cond.code ({ cls := "ExactlySaidModel", name := "readsLine", desc := "()Z" } : Jvm.MethodName) prog_14_method_70_code (1 : Nat) (Option.some Jvm.ClassFile.FieldType.boolean) ∈ TB := cTB10 (i := 84) rfl rfl
theorem t_2245 : Jvm.Cond.methodLink "ExactlySaidModel" (399 : Nat) ({ cls := "ExactlySaidModel", name := "isTelling", desc := "()Z" } : Jvm.MethodName) ∈ TB := cTB10 (i := 85) rfl rfl
theorem t_2247 : Jvm.Cond.instanceMethod ({ cls := "ExactlySaidModel", name := "isTelling", desc := "()Z" } : Jvm.MethodName) ∈ TB := cTB10 (i := 87) rfl rfl
theorem t_2248 : Jvm.Cond.code ({ cls := "ExactlySaidModel", name := "isTelling", desc := "()Z" } : Jvm.MethodName) prog_14_method_63_code (1 : Nat) (Option.some Jvm.ClassFile.FieldType.boolean) ∈ TB := cTB10 (i := 88) rfl rfl
theorem t_2249 : Jvm.Cond.methodLink "ExactlySaidModel" (359 : Nat) ({ cls := "ExactlySaidModel", name := "reads", desc := "()V" } : Jvm.MethodName) ∈ TB := cTB10 (i := 89) rfl rfl
theorem t_2251 : Jvm.Cond.instanceMethod ({ cls := "ExactlySaidModel", name := "reads", desc := "()V" } : Jvm.MethodName) ∈ TB := cTB10 (i := 91) rfl rfl
theorem t_2252 : Jvm.Cond.code ({ cls := "ExactlySaidModel", name := "reads", desc := "()V" } : Jvm.MethodName) prog_14_method_55_code (1 : Nat) (Option.none : Option Jvm.ClassFile.FieldType) ∈ TB := cTB10 (i := 92) rfl rfl
theorem t_2253 : Jvm.Cond.methodLink "ExactlySaidModel" (316 : Nat) ({ cls := "ExactlySaidModel", name := "hasByte", desc := "(II)Z" } : Jvm.MethodName) ∈ TB := cTB10 (i := 93) rfl rfl
theorem t_2255 : Jvm.Cond.instanceMethod ({ cls := "ExactlySaidModel", name := "hasByte", desc := "(II)Z" } : Jvm.MethodName) ∈ TB := cTB10 (i := 95) rfl rfl
theorem t_2256 : Jvm.Cond.code ({ cls := "ExactlySaidModel", name := "hasByte", desc := "(II)Z" } : Jvm.MethodName) prog_14_method_50_code (3 : Nat) (Option.some Jvm.ClassFile.FieldType.boolean) ∈ TB := cTB10 (i := 96) rfl rfl
theorem t_2257 : Jvm.Cond.methodLink "ExactlySaidModel" (251 : Nat) ({ cls := "ExactlySaidModel", name := "in", desc := "(III)Z" } : Jvm.MethodName) ∈ TB := cTB10 (i := 97) rfl rfl
theorem t_2258 : Jvm.Cond.static ({ cls := "ExactlySaidModel", name := "in", desc := "(III)Z" } : Jvm.MethodName) ∈ TB := cTB10 (i := 98) rfl rfl
theorem t_2259 : Jvm.Cond.code ({ cls := "ExactlySaidModel", name := "in", desc := "(III)Z" } : Jvm.MethodName) prog_14_method_2_code (3 : Nat) (Option.some Jvm.ClassFile.FieldType.boolean) ∈ TB := cTB10 (i := 99) rfl rfl
theorem t_2260 : Jvm.Cond.methodLink "ExactlySaidModel" (331 : Nat) ({ cls := "ExactlySaidModel", name := "readsWord", desc := "()V" } : Jvm.MethodName) ∈ TB := cTB10 (i := 100) rfl rfl
theorem t_2262 : Jvm.Cond.instanceMethod ({ cls := "ExactlySaidModel", name := "readsWord", desc := "()V" } : Jvm.MethodName) ∈ TB := cTB10 (i := 102) rfl rfl
theorem t_2263 : Jvm.Cond.code ({ cls := "ExactlySaidModel", name := "readsWord", desc := "()V" } : Jvm.MethodName) prog_14_method_54_code (2 : Nat) (Option.none : Option Jvm.ClassFile.FieldType) ∈ TB := cTB10 (i := 103) rfl rfl
theorem t_2264 : Jvm.Cond.methodLink "ExactlySaidModel" (298 : Nat) ({ cls := "ExactlySaidModel", name := "isDigit", desc := "(I)Z" } : Jvm.MethodName) ∈ TB := cTB10 (i := 104) rfl rfl
theorem t_2265 : Jvm.Cond.static ({ cls := "ExactlySaidModel", name := "isDigit", desc := "(I)Z" } : Jvm.MethodName) ∈ TB := cTB10 (i := 105) rfl rfl
theorem t_2266 : Jvm.Cond.code ({ cls := "ExactlySaidModel", name := "isDigit", desc := "(I)Z" } : Jvm.MethodName) prog_14_method_48_code (1 : Nat) (Option.some Jvm.ClassFile.FieldType.boolean) ∈ TB := cTB10 (i := 106) rfl rfl
theorem t_2267 : Jvm.Cond.methodLink "ExactlySaidModel" (334 : Nat) ({ cls := "ExactlySaidModel", name := "readsNumber", desc := "()V" } : Jvm.MethodName) ∈ TB := cTB10 (i := 107) rfl rfl
theorem t_2269 : Jvm.Cond.instanceMethod ({ cls := "ExactlySaidModel", name := "readsNumber", desc := "()V" } : Jvm.MethodName) ∈ TB := cTB10 (i := 109) rfl rfl
theorem t_2270 : Jvm.Cond.code ({ cls := "ExactlySaidModel", name := "readsNumber", desc := "()V" } : Jvm.MethodName) prog_14_method_53_code (5 : Nat) (Option.none : Option Jvm.ClassFile.FieldType) ∈ TB := cTB10 (i := 110) rfl rfl
theorem t_2271 : Jvm.Cond.methodLink "ExactlySaidModel" (307 : Nat) ({ cls := "ExactlySaidModel", name := "endOfDigits", desc := "(I)I" } : Jvm.MethodName) ∈ TB := cTB10 (i := 111) rfl rfl
theorem t_2273 : Jvm.Cond.instanceMethod ({ cls := "ExactlySaidModel", name := "endOfDigits", desc := "(I)I" } : Jvm.MethodName) ∈ TB := cTB10 (i := 113) rfl rfl
theorem t_2274 : Jvm.Cond.code ({ cls := "ExactlySaidModel", name := "endOfDigits", desc := "(I)I" } : Jvm.MethodName) prog_14_method_51_code (3 : Nat) (Option.some Jvm.ClassFile.FieldType.int) ∈ TB := cTB10 (i := 114) rfl rfl
theorem t_2275 : Jvm.Cond.methodLink "ExactlySaidModel" (301 : Nat) ({ cls := "ExactlySaidModel", name := "hasDigit", desc := "(I)Z" } : Jvm.MethodName) ∈ TB := cTB10 (i := 115) rfl rfl
theorem t_2277 : Jvm.Cond.instanceMethod ({ cls := "ExactlySaidModel", name := "hasDigit", desc := "(I)Z" } : Jvm.MethodName) ∈ TB := cTB10 (i := 117) rfl rfl
theorem t_2278 : Jvm.Cond.code ({ cls := "ExactlySaidModel", name := "hasDigit", desc := "(I)Z" } : Jvm.MethodName) prog_14_method_49_code (2 : Nat) (Option.some Jvm.ClassFile.FieldType.boolean) ∈ TB := cTB10 (i := 118) rfl rfl
theorem t_2279 : Jvm.Cond.methodLink "ExactlySaidModel" (337 : Nat) ({ cls := "ExactlySaidModel", name := "isSign", desc := "(I)Z" } : Jvm.MethodName) ∈ TB := cTB10 (i := 119) rfl rfl
theorem t_2280 : Jvm.Cond.static ({ cls := "ExactlySaidModel", name := "isSign", desc := "(I)Z" } : Jvm.MethodName) ∈ TB := cTB10 (i := 120) rfl rfl
theorem t_2281 : Jvm.Cond.code ({ cls := "ExactlySaidModel", name := "isSign", desc := "(I)Z" } : Jvm.MethodName) prog_14_method_52_code (1 : Nat) (Option.some Jvm.ClassFile.FieldType.boolean) ∈ TB := cTB10 (i := 121) rfl rfl
theorem t_2282 : Jvm.Cond.methodLink "ExactlySaidModel" (374 : Nat) ({ cls := "ExactlySaidModel", name := "isNow", desc := "(I)Z" } : Jvm.MethodName) ∈ TB := cTB10 (i := 122) rfl rfl
theorem t_2284 : Jvm.Cond.instanceMethod ({ cls := "ExactlySaidModel", name := "isNow", desc := "(I)Z" } : Jvm.MethodName) ∈ TB := cTB10 (i := 124) rfl rfl
theorem t_2285 : Jvm.Cond.code ({ cls := "ExactlySaidModel", name := "isNow", desc := "(I)Z" } : Jvm.MethodName) prog_14_method_56_code (2 : Nat) (Option.some Jvm.ClassFile.FieldType.boolean) ∈ TB := cTB10 (i := 125) rfl rfl
theorem t_2286 : Jvm.Cond.methodLink "ExactlySaidModel" (402 : Nat) ({ cls := "ExactlySaidModel", name := "readsHead", desc := "()Z" } : Jvm.MethodName) ∈ TB := cTB10 (i := 126) rfl rfl
theorem t_2288 : Jvm.Cond.instanceMethod ({ cls := "ExactlySaidModel", name := "readsHead", desc := "()Z" } : Jvm.MethodName) ∈ TB := cTB10 (i := 128) rfl rfl
theorem t_2289 : Jvm.Cond.code ({ cls := "ExactlySaidModel", name := "readsHead", desc := "()Z" } : Jvm.MethodName) prog_14_method_64_code (3 : Nat) (Option.some Jvm.ClassFile.FieldType.boolean) ∈ TB := cTB10 (i := 129) rfl rfl
theorem t_2290 : Jvm.Cond.methodLink "ExactlySaidModel" (405 : Nat) ({ cls := "ExactlySaidModel", name := "readsSum", desc := "()Z" } : Jvm.MethodName) ∈ TB := cTB10 (i := 130) rfl rfl
theorem t_2292 : Jvm.Cond.instanceMethod ({ cls := "ExactlySaidModel", name := "readsSum", desc := "()Z" } : Jvm.MethodName) ∈ TB := cTB10 (i := 132) rfl rfl
theorem t_2293 : Jvm.Cond.code ({ cls := "ExactlySaidModel", name := "readsSum", desc := "()Z" } : Jvm.MethodName) prog_14_method_69_code (2 : Nat) (Option.some Jvm.ClassFile.FieldType.boolean) ∈ TB := cTB10 (i := 133) rfl rfl
theorem t_2294 : Jvm.Cond.methodLink "ExactlySaidModel" (393 : Nat) ({ cls := "ExactlySaidModel", name := "readsOperand", desc := "()I" } : Jvm.MethodName) ∈ TB := cTB10 (i := 134) rfl rfl
theorem t_2296 : Jvm.Cond.instanceMethod ({ cls := "ExactlySaidModel", name := "readsOperand", desc := "()I" } : Jvm.MethodName) ∈ TB := cTB10 (i := 136) rfl rfl
theorem t_2297 : Jvm.Cond.code ({ cls := "ExactlySaidModel", name := "readsOperand", desc := "()I" } : Jvm.MethodName) prog_14_method_65_code (5 : Nat) (Option.some Jvm.ClassFile.FieldType.int) ∈ TB := cTB10 (i := 137) rfl rfl
theorem t_2298 : Jvm.Cond.methodLink "ExactlySaidModel" (377 : Nat) ({ cls := "ExactlySaidModel", name := "makesNumber", desc := "()I" } : Jvm.MethodName) ∈ TB := cTB10 (i := 138) rfl rfl
theorem t_2300 : Jvm.Cond.instanceMethod ({ cls := "ExactlySaidModel", name := "makesNumber", desc := "()I" } : Jvm.MethodName) ∈ TB := cTB10 (i := 140) rfl rfl
theorem t_2301 : Jvm.Cond.code ({ cls := "ExactlySaidModel", name := "makesNumber", desc := "()I" } : Jvm.MethodName) prog_14_method_57_code (4 : Nat) (Option.some Jvm.ClassFile.FieldType.int) ∈ TB := cTB10 (i := 141) rfl rfl
theorem t_2302 : Jvm.Cond.methodLink "ExactlySaidModel" (239 : Nat) ({ cls := "ExactlySaidModel", name := "adds", desc := "(II)V" } : Jvm.MethodName) ∈ TB := cTB10 (i := 142) rfl rfl
theorem t_2304 : Jvm.Cond.instanceMethod ({ cls := "ExactlySaidModel", name := "adds", desc := "(II)V" } : Jvm.MethodName) ∈ TB := cTB10 (i := 144) rfl rfl
theorem t_2305 : Jvm.Cond.code ({ cls := "ExactlySaidModel", name := "adds", desc := "(II)V" } : Jvm.MethodName) prog_14_method_10_code (7 : Nat) (Option.none : Option Jvm.ClassFile.FieldType) ∈ TB := cTB10 (i := 145) rfl rfl
theorem t_2306 : Jvm.Cond.methodLink "ExactlySaidModel" (242 : Nat) ({ cls := "ExactlySaidModel", name := "takesAway", desc := "(II)V" } : Jvm.MethodName) ∈ TB := cTB10 (i := 146) rfl rfl
theorem t_2308 : Jvm.Cond.instanceMethod ({ cls := "ExactlySaidModel", name := "takesAway", desc := "(II)V" } : Jvm.MethodName) ∈ TB := cTB10 (i := 148) rfl rfl
theorem t_2309 : Jvm.Cond.code ({ cls := "ExactlySaidModel", name := "takesAway", desc := "(II)V" } : Jvm.MethodName) prog_14_method_11_code (6 : Nat) (Option.none : Option Jvm.ClassFile.FieldType) ∈ TB := cTB10 (i := 149) rfl rfl
theorem t_2310 : Jvm.Cond.methodLink "ExactlySaidModel" (235 : Nat) ({ cls := "ExactlySaidModel", name := "multiplies", desc := "(III)V" } : Jvm.MethodName) ∈ TB := cTB10 (i := 150) rfl rfl
theorem t_2312 : Jvm.Cond.instanceMethod ({ cls := "ExactlySaidModel", name := "multiplies", desc := "(III)V" } : Jvm.MethodName) ∈ TB := cTB10 (i := 152) rfl rfl
theorem t_2313 : Jvm.Cond.code ({ cls := "ExactlySaidModel", name := "multiplies", desc := "(III)V" } : Jvm.MethodName) prog_14_method_12_code (8 : Nat) (Option.none : Option Jvm.ClassFile.FieldType) ∈ TB := cTB10 (i := 153) rfl rfl
theorem t_2314 : Jvm.Cond.methodLink "ExactlySaidModel" (340 : Nat) ({ cls := "ExactlySaidModel", name := "keepsMade", desc := "(I)I" } : Jvm.MethodName) ∈ TB := cTB10 (i := 154) rfl rfl
theorem t_2316 : Jvm.Cond.instanceMethod ({ cls := "ExactlySaidModel", name := "keepsMade", desc := "(I)I" } : Jvm.MethodName) ∈ TB := cTB10 (i := 156) rfl rfl
theorem t_2317 : Jvm.Cond.code ({ cls := "ExactlySaidModel", name := "keepsMade", desc := "(I)I" } : Jvm.MethodName) prog_14_method_27_code (3 : Nat) (Option.some Jvm.ClassFile.FieldType.int) ∈ TB := cTB10 (i := 157) rfl rfl
theorem t_2318 : Jvm.Cond.methodLink "ExactlySaidModel" (355 : Nat) ({ cls := "ExactlySaidModel", name := "makes", desc := "(IIII)V" } : Jvm.MethodName) ∈ TB := cTB10 (i := 158) rfl rfl
theorem t_2320 : Jvm.Cond.instanceMethod ({ cls := "ExactlySaidModel", name := "makes", desc := "(IIII)V" } : Jvm.MethodName) ∈ TB := cTB10 (i := 160) rfl rfl
theorem t_2321 : Jvm.Cond.code ({ cls := "ExactlySaidModel", name := "makes", desc := "(IIII)V" } : Jvm.MethodName) prog_14_method_58_code (5 : Nat) (Option.none : Option Jvm.ClassFile.FieldType) ∈ TB := cTB10 (i := 161) rfl rfl
theorem t_2322 : Jvm.Cond.methodLink "ExactlySaidModel" (380 : Nat) ({ cls := "ExactlySaidModel", name := "waitsFor", desc := "(II)V" } : Jvm.MethodName) ∈ TB := cTB10 (i := 162) rfl rfl
theorem t_2324 : Jvm.Cond.instanceMethod ({ cls := "ExactlySaidModel", name := "waitsFor", desc := "(II)V" } : Jvm.MethodName) ∈ TB := cTB10 (i := 164) rfl rfl
theorem t_2325 : Jvm.Cond.code ({ cls := "ExactlySaidModel", name := "waitsFor", desc := "(II)V" } : Jvm.MethodName) prog_14_method_60_code (3 : Nat) (Option.none : Option Jvm.ClassFile.FieldType) ∈ TB := cTB10 (i := 165) rfl rfl
theorem t_2326 : Jvm.Cond.methodLink "ExactlySaidModel" (396 : Nat) ({ cls := "ExactlySaidModel", name := "readsBehind", desc := "()I" } : Jvm.MethodName) ∈ TB := cTB10 (i := 166) rfl rfl
theorem t_2328 : Jvm.Cond.instanceMethod ({ cls := "ExactlySaidModel", name := "readsBehind", desc := "()I" } : Jvm.MethodName) ∈ TB := cTB10 (i := 168) rfl rfl
theorem t_2329 : Jvm.Cond.code ({ cls := "ExactlySaidModel", name := "readsBehind", desc := "()I" } : Jvm.MethodName) prog_14_method_68_code (2 : Nat) (Option.some Jvm.ClassFile.FieldType.int) ∈ TB := cTB10 (i := 169) rfl rfl
theorem t_2330 : Jvm.Cond.methodLink "ExactlySaidModel" (386 : Nat) ({ cls := "ExactlySaidModel", name := "closes", desc := "()Z" } : Jvm.MethodName) ∈ TB := cTB10 (i := 170) rfl rfl
theorem t_2332 : Jvm.Cond.instanceMethod ({ cls := "ExactlySaidModel", name := "closes", desc := "()Z" } : Jvm.MethodName) ∈ TB := cTB10 (i := 172) rfl rfl
theorem t_2333 : Jvm.Cond.code ({ cls := "ExactlySaidModel", name := "closes", desc := "()Z" } : Jvm.MethodName) prog_14_method_67_code (2 : Nat) (Option.some Jvm.ClassFile.FieldType.boolean) ∈ TB := cTB10 (i := 173) rfl rfl
theorem t_2334 : Jvm.Cond.methodLink "ExactlySaidModel" (383 : Nat) ({ cls := "ExactlySaidModel", name := "settles", desc := "(I)V" } : Jvm.MethodName) ∈ TB := cTB10 (i := 174) rfl rfl
theorem t_2336 : Jvm.Cond.instanceMethod ({ cls := "ExactlySaidModel", name := "settles", desc := "(I)V" } : Jvm.MethodName) ∈ TB := cTB10 (i := 176) rfl rfl
theorem t_2337 : Jvm.Cond.code ({ cls := "ExactlySaidModel", name := "settles", desc := "(I)V" } : Jvm.MethodName) prog_14_method_62_code (2 : Nat) (Option.none : Option Jvm.ClassFile.FieldType) ∈ TB := cTB10 (i := 177) rfl rfl
theorem t_2338 : Jvm.Cond.methodLink "ExactlySaidModel" (352 : Nat) ({ cls := "ExactlySaidModel", name := "rank", desc := "(I)I" } : Jvm.MethodName) ∈ TB := cTB10 (i := 178) rfl rfl
theorem t_2339 : Jvm.Cond.static ({ cls := "ExactlySaidModel", name := "rank", desc := "(I)I" } : Jvm.MethodName) ∈ TB := cTB10 (i := 179) rfl rfl
theorem t_2340 : Jvm.Cond.code ({ cls := "ExactlySaidModel", name := "rank", desc := "(I)I" } : Jvm.MethodName) prog_14_method_61_code (1 : Nat) (Option.some Jvm.ClassFile.FieldType.int) ∈ TB := cTB10 (i := 180) rfl rfl
theorem t_2341 : Jvm.Cond.methodLink "ExactlySaidModel" (390 : Nat) ({ cls := "ExactlySaidModel", name := "signOf", desc := "(I)I" } : Jvm.MethodName) ∈ TB := cTB10 (i := 181) rfl rfl
theorem t_2343 : Jvm.Cond.instanceMethod ({ cls := "ExactlySaidModel", name := "signOf", desc := "(I)I" } : Jvm.MethodName) ∈ TB := cTB10 (i := 183) rfl rfl
theorem t_2344 : Jvm.Cond.code ({ cls := "ExactlySaidModel", name := "signOf", desc := "(I)I" } : Jvm.MethodName) prog_14_method_66_code (2 : Nat) (Option.some Jvm.ClassFile.FieldType.int) ∈ TB := cTB10 (i := 184) rfl rfl
theorem t_2345 : Jvm.Cond.methodLink "ExactlySaidModel" (521 : Nat) ({ cls := "ExactlySaidModel", name := "isDone", desc := "(I)Z" } : Jvm.MethodName) ∈ TB := cTB10 (i := 185) rfl rfl
theorem t_2347 : Jvm.Cond.instanceMethod ({ cls := "ExactlySaidModel", name := "isDone", desc := "(I)Z" } : Jvm.MethodName) ∈ TB := cTB10 (i := 187) rfl rfl
theorem t_2348 : Jvm.Cond.code ({ cls := "ExactlySaidModel", name := "isDone", desc := "(I)Z" } : Jvm.MethodName) prog_14_method_90_code (5 : Nat) (Option.some Jvm.ClassFile.FieldType.boolean) ∈ TB := cTB10 (i := 188) rfl rfl
theorem t_2349 : Jvm.Cond.methodLink "ExactlySaidModel" (485 : Nat) ({ cls := "ExactlySaidModel", name := "isRefused", desc := "(I)Z" } : Jvm.MethodName) ∈ TB := cTB10 (i := 189) rfl rfl
theorem t_2351 : Jvm.Cond.instanceMethod ({ cls := "ExactlySaidModel", name := "isRefused", desc := "(I)Z" } : Jvm.MethodName) ∈ TB := cTB10 (i := 191) rfl rfl
theorem t_2352 : Jvm.Cond.code ({ cls := "ExactlySaidModel", name := "isRefused", desc := "(I)Z" } : Jvm.MethodName) prog_14_method_82_code (8 : Nat) (Option.some Jvm.ClassFile.FieldType.boolean) ∈ TB := cTB10 (i := 192) rfl rfl
theorem t_2353 : Jvm.Cond.methodLink "ExactlySaidModel" (446 : Nat) ({ cls := "ExactlySaidModel", name := "unknownAt", desc := "(I)I" } : Jvm.MethodName) ∈ TB := cTB10 (i := 193) rfl rfl
theorem t_2355 : Jvm.Cond.instanceMethod ({ cls := "ExactlySaidModel", name := "unknownAt", desc := "(I)I" } : Jvm.MethodName) ∈ TB := cTB10 (i := 195) rfl rfl
theorem t_2356 : Jvm.Cond.code ({ cls := "ExactlySaidModel", name := "unknownAt", desc := "(I)I" } : Jvm.MethodName) prog_14_method_77_code (5 : Nat) (Option.some Jvm.ClassFile.FieldType.int) ∈ TB := cTB10 (i := 196) rfl rfl
theorem t_2357 : Jvm.Cond.methodLink "ExactlySaidModel" (424 : Nat) ({ cls := "ExactlySaidModel", name := "thing", desc := "(IZ)I" } : Jvm.MethodName) ∈ TB := cTB10 (i := 197) rfl rfl
theorem t_2359 : Jvm.Cond.instanceMethod ({ cls := "ExactlySaidModel", name := "thing", desc := "(IZ)I" } : Jvm.MethodName) ∈ TB := cTB10 (i := 199) rfl rfl
theorem t_2360 : Jvm.Cond.code ({ cls := "ExactlySaidModel", name := "thing", desc := "(IZ)I" } : Jvm.MethodName) prog_14_method_71_code (5 : Nat) (Option.some Jvm.ClassFile.FieldType.int) ∈ TB := cTB10 (i := 200) rfl rfl
theorem t_2361 : Jvm.Cond.methodLink "ExactlySaidModel" (428 : Nat) ({ cls := "ExactlySaidModel", name := "valuesOf", desc := "(I)I" } : Jvm.MethodName) ∈ TB := cTB10 (i := 201) rfl rfl
theorem t_2363 : Jvm.Cond.instanceMethod ({ cls := "ExactlySaidModel", name := "valuesOf", desc := "(I)I" } : Jvm.MethodName) ∈ TB := cTB10 (i := 203) rfl rfl
theorem t_2364 : Jvm.Cond.code ({ cls := "ExactlySaidModel", name := "valuesOf", desc := "(I)I" } : Jvm.MethodName) prog_14_method_78_code (3 : Nat) (Option.some Jvm.ClassFile.FieldType.int) ∈ TB := cTB10 (i := 204) rfl rfl
theorem t_2365 : Jvm.Cond.methodLink "ExactlySaidModel" (431 : Nat) ({ cls := "ExactlySaidModel", name := "known", desc := "(I)I" } : Jvm.MethodName) ∈ TB := cTB10 (i := 205) rfl rfl
theorem t_2366 : Jvm.Cond.static ({ cls := "ExactlySaidModel", name := "known", desc := "(I)I" } : Jvm.MethodName) ∈ TB := cTB10 (i := 206) rfl rfl
theorem t_2367 : Jvm.Cond.code ({ cls := "ExactlySaidModel", name := "known", desc := "(I)I" } : Jvm.MethodName) prog_14_method_59_code (1 : Nat) (Option.some Jvm.ClassFile.FieldType.int) ∈ TB := cTB10 (i := 207) rfl rfl
theorem t_2368 : Jvm.Cond.methodLink "ExactlySaidModel" (434 : Nat) ({ cls := "ExactlySaidModel", name := "hasTwo", desc := "(I)Z" } : Jvm.MethodName) ∈ TB := cTB10 (i := 208) rfl rfl
theorem t_2369 : Jvm.Cond.static ({ cls := "ExactlySaidModel", name := "hasTwo", desc := "(I)Z" } : Jvm.MethodName) ∈ TB := cTB10 (i := 209) rfl rfl
theorem t_2370 : Jvm.Cond.code ({ cls := "ExactlySaidModel", name := "hasTwo", desc := "(I)Z" } : Jvm.MethodName) prog_14_method_33_code (1 : Nat) (Option.some Jvm.ClassFile.FieldType.boolean) ∈ TB := cTB10 (i := 210) rfl rfl
theorem t_2371 : Jvm.Cond.methodLink "ExactlySaidModel" (449 : Nat) ({ cls := "ExactlySaidModel", name := "refuses", desc := "(II)Z" } : Jvm.MethodName) ∈ TB := cTB10 (i := 211) rfl rfl
theorem t_2373 : Jvm.Cond.instanceMethod ({ cls := "ExactlySaidModel", name := "refuses", desc := "(II)Z" } : Jvm.MethodName) ∈ TB := cTB10 (i := 213) rfl rfl
theorem t_2374 : Jvm.Cond.code ({ cls := "ExactlySaidModel", name := "refuses", desc := "(II)Z" } : Jvm.MethodName) prog_14_method_79_code (3 : Nat) (Option.some Jvm.ClassFile.FieldType.boolean) ∈ TB := cTB10 (i := 214) rfl rfl
theorem t_2375 : Jvm.Cond.methodLink "ExactlySaidModel" (452 : Nat) ({ cls := "ExactlySaidModel", name := "users", desc := "(I)I" } : Jvm.MethodName) ∈ TB := cTB10 (i := 215) rfl rfl
theorem t_2377 : Jvm.Cond.instanceMethod ({ cls := "ExactlySaidModel", name := "users", desc := "(I)I" } : Jvm.MethodName) ∈ TB := cTB10 (i := 217) rfl rfl
theorem t_2378 : Jvm.Cond.code ({ cls := "ExactlySaidModel", name := "users", desc := "(I)I" } : Jvm.MethodName) prog_14_method_80_code (4 : Nat) (Option.some Jvm.ClassFile.FieldType.int) ∈ TB := cTB10 (i := 218) rfl rfl
theorem t_2379 : Jvm.Cond.methodLink "ExactlySaidModel" (415 : Nat) ({ cls := "ExactlySaidModel", name := "isThere", desc := "(I)Z" } : Jvm.MethodName) ∈ TB := cTB10 (i := 219) rfl rfl
theorem t_2381 : Jvm.Cond.instanceMethod ({ cls := "ExactlySaidModel", name := "isThere", desc := "(I)Z" } : Jvm.MethodName) ∈ TB := cTB10 (i := 221) rfl rfl
theorem t_2382 : Jvm.Cond.code ({ cls := "ExactlySaidModel", name := "isThere", desc := "(I)Z" } : Jvm.MethodName) prog_14_method_72_code (2 : Nat) (Option.some Jvm.ClassFile.FieldType.boolean) ∈ TB := cTB10 (i := 222) rfl rfl
theorem t_2383 : Jvm.Cond.methodLink "ExactlySaidModel" (440 : Nat) ({ cls := "ExactlySaidModel", name := "doesUse", desc := "(II)Z" } : Jvm.MethodName) ∈ TB := cTB10 (i := 223) rfl rfl
theorem t_2385 : Jvm.Cond.instanceMethod ({ cls := "ExactlySaidModel", name := "doesUse", desc := "(II)Z" } : Jvm.MethodName) ∈ TB := cTB10 (i := 225) rfl rfl
theorem t_2386 : Jvm.Cond.code ({ cls := "ExactlySaidModel", name := "doesUse", desc := "(II)Z" } : Jvm.MethodName) prog_14_method_76_code (3 : Nat) (Option.some Jvm.ClassFile.FieldType.boolean) ∈ TB := cTB10 (i := 226) rfl rfl
theorem t_2387 : Jvm.Cond.methodLink "ExactlySaidModel" (421 : Nat) ({ cls := "ExactlySaidModel", name := "findsUsed", desc := "(I)V" } : Jvm.MethodName) ∈ TB := cTB10 (i := 227) rfl rfl
theorem t_2389 : Jvm.Cond.instanceMethod ({ cls := "ExactlySaidModel", name := "findsUsed", desc := "(I)V" } : Jvm.MethodName) ∈ TB := cTB10 (i := 229) rfl rfl
theorem t_2390 : Jvm.Cond.code ({ cls := "ExactlySaidModel", name := "findsUsed", desc := "(I)V" } : Jvm.MethodName) prog_14_method_75_code (5 : Nat) (Option.none : Option Jvm.ClassFile.FieldType) ∈ TB := cTB10 (i := 230) rfl rfl
theorem t_2391 : Jvm.Cond.methodLink "ExactlySaidModel" (418 : Nat) ({ cls := "ExactlySaidModel", name := "hasDirectly", desc := "(II)Z" } : Jvm.MethodName) ∈ TB := cTB10 (i := 231) rfl rfl
theorem t_2393 : Jvm.Cond.instanceMethod ({ cls := "ExactlySaidModel", name := "hasDirectly", desc := "(II)Z" } : Jvm.MethodName) ∈ TB := cTB10 (i := 233) rfl rfl
theorem t_2394 : Jvm.Cond.code ({ cls := "ExactlySaidModel", name := "hasDirectly", desc := "(II)Z" } : Jvm.MethodName) prog_14_method_74_code (4 : Nat) (Option.some Jvm.ClassFile.FieldType.boolean) ∈ TB := cTB10 (i := 234) rfl rfl
theorem t_2395 : Jvm.Cond.methodLink "ExactlySaidModel" (455 : Nat) ({ cls := "ExactlySaidModel", name := "leads", desc := "(II)I" } : Jvm.MethodName) ∈ TB := cTB10 (i := 235) rfl rfl
theorem t_2397 : Jvm.Cond.instanceMethod ({ cls := "ExactlySaidModel", name := "leads", desc := "(II)I" } : Jvm.MethodName) ∈ TB := cTB10 (i := 237) rfl rfl
theorem t_2398 : Jvm.Cond.code ({ cls := "ExactlySaidModel", name := "leads", desc := "(II)I" } : Jvm.MethodName) prog_14_method_81_code (6 : Nat) (Option.some Jvm.ClassFile.FieldType.int) ∈ TB := cTB10 (i := 238) rfl rfl
theorem t_2399 : Jvm.Cond.methodLink "ExactlySaidModel" (443 : Nat) ({ cls := "ExactlySaidModel", name := "orderOf", desc := "(I)I" } : Jvm.MethodName) ∈ TB := cTB10 (i := 239) rfl rfl
theorem t_2400 : Jvm.Cond.static ({ cls := "ExactlySaidModel", name := "orderOf", desc := "(I)I" } : Jvm.MethodName) ∈ TB := cTB11 (i := 0) rfl rfl
theorem t_2401 : Jvm.Cond.code ({ cls := "ExactlySaidModel", name := "orderOf", desc := "(I)I" } : Jvm.MethodName) prog_14_method_73_code (2 : Nat) (Option.some Jvm.ClassFile.FieldType.int) ∈ TB := cTB11 (i := 1) rfl rfl
theorem t_2402 : Jvm.Cond.constant "ExactlySaidModel" (414 : Nat) (14348907 : Int32) ∈ TB := cTB11 (i := 2) rfl rfl
theorem t_2403 : Jvm.Cond.methodLink "ExactlySaidModel" (479 : Nat) ({ cls := "ExactlySaidModel", name := "worked", desc := "(I)I" } : Jvm.MethodName) ∈ TB := cTB11 (i := 3) rfl rfl
theorem t_2405 : Jvm.Cond.instanceMethod ({ cls := "ExactlySaidModel", name := "worked", desc := "(I)I" } : Jvm.MethodName) ∈ TB := cTB11 (i := 5) rfl rfl
theorem t_2406 : Jvm.Cond.code ({ cls := "ExactlySaidModel", name := "worked", desc := "(I)I" } : Jvm.MethodName) prog_14_method_83_code (11 : Nat) (Option.some Jvm.ClassFile.FieldType.int) ∈ TB := cTB11 (i := 6) rfl rfl
theorem t_2407 : Jvm.Cond.methodLink "ExactlySaidModel" (461 : Nat) ({ cls := "ExactlySaidModel", name := "refusedStep", desc := "(II)I" } : Jvm.MethodName) ∈ TB := cTB11 (i := 7) rfl rfl
theorem t_2409 : Jvm.Cond.instanceMethod ({ cls := "ExactlySaidModel", name := "refusedStep", desc := "(II)I" } : Jvm.MethodName) ∈ TB := cTB11 (i := 9) rfl rfl
theorem t_2410 : Jvm.Cond.code ({ cls := "ExactlySaidModel", name := "refusedStep", desc := "(II)I" } : Jvm.MethodName) prog_14_method_84_code (4 : Nat) (Option.some Jvm.ClassFile.FieldType.int) ∈ TB := cTB11 (i := 10) rfl rfl
theorem t_2411 : Jvm.Cond.methodLink "ExactlySaidModel" (464 : Nat) ({ cls := "ExactlySaidModel", name := "does", desc := "(IIII)I" } : Jvm.MethodName) ∈ TB := cTB11 (i := 11) rfl rfl
theorem t_2413 : Jvm.Cond.instanceMethod ({ cls := "ExactlySaidModel", name := "does", desc := "(IIII)I" } : Jvm.MethodName) ∈ TB := cTB11 (i := 13) rfl rfl
theorem t_2414 : Jvm.Cond.code ({ cls := "ExactlySaidModel", name := "does", desc := "(IIII)I" } : Jvm.MethodName) prog_14_method_85_code (7 : Nat) (Option.some Jvm.ClassFile.FieldType.int) ∈ TB := cTB11 (i := 14) rfl rfl
theorem t_2415 : Jvm.Cond.methodLink "ExactlySaidModel" (468 : Nat) ({ cls := "ExactlySaidModel", name := "cause", desc := "(III)I" } : Jvm.MethodName) ∈ TB := cTB11 (i := 15) rfl rfl
theorem t_2417 : Jvm.Cond.instanceMethod ({ cls := "ExactlySaidModel", name := "cause", desc := "(III)I" } : Jvm.MethodName) ∈ TB := cTB11 (i := 17) rfl rfl
theorem t_2418 : Jvm.Cond.code ({ cls := "ExactlySaidModel", name := "cause", desc := "(III)I" } : Jvm.MethodName) prog_14_method_37_code (4 : Nat) (Option.some Jvm.ClassFile.FieldType.int) ∈ TB := cTB11 (i := 18) rfl rfl
theorem t_2419 : Jvm.Cond.methodLink "ExactlySaidModel" (245 : Nat) ({ cls := "ExactlySaidModel", name := "isWhole", desc := "(I)Z" } : Jvm.MethodName) ∈ TB := cTB11 (i := 19) rfl rfl
theorem t_2421 : Jvm.Cond.instanceMethod ({ cls := "ExactlySaidModel", name := "isWhole", desc := "(I)Z" } : Jvm.MethodName) ∈ TB := cTB11 (i := 21) rfl rfl
theorem t_2422 : Jvm.Cond.code ({ cls := "ExactlySaidModel", name := "isWhole", desc := "(I)Z" } : Jvm.MethodName) prog_14_method_28_code (3 : Nat) (Option.some Jvm.ClassFile.FieldType.boolean) ∈ TB := cTB11 (i := 22) rfl rfl
theorem t_2423 : Jvm.Cond.methodLink "ExactlySaidModel" (248 : Nat) ({ cls := "ExactlySaidModel", name := "asInt", desc := "(I)I" } : Jvm.MethodName) ∈ TB := cTB11 (i := 23) rfl rfl
theorem t_2425 : Jvm.Cond.instanceMethod ({ cls := "ExactlySaidModel", name := "asInt", desc := "(I)I" } : Jvm.MethodName) ∈ TB := cTB11 (i := 25) rfl rfl
theorem t_2426 : Jvm.Cond.code ({ cls := "ExactlySaidModel", name := "asInt", desc := "(I)I" } : Jvm.MethodName) prog_14_method_29_code (3 : Nat) (Option.some Jvm.ClassFile.FieldType.int) ∈ TB := cTB11 (i := 26) rfl rfl
theorem t_2427 : Jvm.Cond.methodLink "ExactlySaidModel" (470 : Nat) ({ cls := "ExactlySaidModel", name := "works", desc := "(III)I" } : Jvm.MethodName) ∈ TB := cTB11 (i := 27) rfl rfl
theorem t_2429 : Jvm.Cond.instanceMethod ({ cls := "ExactlySaidModel", name := "works", desc := "(III)I" } : Jvm.MethodName) ∈ TB := cTB11 (i := 29) rfl rfl
theorem t_2430 : Jvm.Cond.code ({ cls := "ExactlySaidModel", name := "works", desc := "(III)I" } : Jvm.MethodName) prog_14_method_43_code (4 : Nat) (Option.some Jvm.ClassFile.FieldType.int) ∈ TB := cTB11 (i := 30) rfl rfl
theorem t_2431 : Jvm.Cond.methodLink "ExactlySaidModel" (258 : Nat) ({ cls := "ExactlySaidModel", name := "sums", desc := "(III)I" } : Jvm.MethodName) ∈ TB := cTB11 (i := 31) rfl rfl
theorem t_2433 : Jvm.Cond.instanceMethod ({ cls := "ExactlySaidModel", name := "sums", desc := "(III)I" } : Jvm.MethodName) ∈ TB := cTB11 (i := 33) rfl rfl
theorem t_2434 : Jvm.Cond.code ({ cls := "ExactlySaidModel", name := "sums", desc := "(III)I" } : Jvm.MethodName) prog_14_method_38_code (5 : Nat) (Option.some Jvm.ClassFile.FieldType.int) ∈ TB := cTB11 (i := 34) rfl rfl
theorem t_2435 : Jvm.Cond.methodLink "ExactlySaidModel" (232 : Nat) ({ cls := "ExactlySaidModel", name := "loadsBoth", desc := "(II)V" } : Jvm.MethodName) ∈ TB := cTB11 (i := 35) rfl rfl
theorem t_2437 : Jvm.Cond.instanceMethod ({ cls := "ExactlySaidModel", name := "loadsBoth", desc := "(II)V" } : Jvm.MethodName) ∈ TB := cTB11 (i := 37) rfl rfl
theorem t_2438 : Jvm.Cond.code ({ cls := "ExactlySaidModel", name := "loadsBoth", desc := "(II)V" } : Jvm.MethodName) prog_14_method_30_code (3 : Nat) (Option.none : Option Jvm.ClassFile.FieldType) ∈ TB := cTB11 (i := 38) rfl rfl
theorem t_2439 : Jvm.Cond.methodLink "ExactlySaidModel" (228 : Nat) ({ cls := "ExactlySaidModel", name := "loads", desc := "(IIZ)V" } : Jvm.MethodName) ∈ TB := cTB11 (i := 39) rfl rfl
theorem t_2441 : Jvm.Cond.instanceMethod ({ cls := "ExactlySaidModel", name := "loads", desc := "(IIZ)V" } : Jvm.MethodName) ∈ TB := cTB11 (i := 41) rfl rfl
theorem t_2442 : Jvm.Cond.code ({ cls := "ExactlySaidModel", name := "loads", desc := "(IIZ)V" } : Jvm.MethodName) prog_14_method_19_code (6 : Nat) (Option.none : Option Jvm.ClassFile.FieldType) ∈ TB := cTB11 (i := 42) rfl rfl
theorem t_2443 : Jvm.Cond.methodLink "ExactlySaidModel" (255 : Nat) ({ cls := "ExactlySaidModel", name := "joins", desc := "(II)I" } : Jvm.MethodName) ∈ TB := cTB11 (i := 43) rfl rfl
theorem t_2445 : Jvm.Cond.instanceMethod ({ cls := "ExactlySaidModel", name := "joins", desc := "(II)I" } : Jvm.MethodName) ∈ TB := cTB11 (i := 45) rfl rfl
theorem t_2446 : Jvm.Cond.code ({ cls := "ExactlySaidModel", name := "joins", desc := "(II)I" } : Jvm.MethodName) prog_14_method_32_code (4 : Nat) (Option.some Jvm.ClassFile.FieldType.int) ∈ TB := cTB11 (i := 46) rfl rfl
theorem t_2447 : Jvm.Cond.methodLink "ExactlySaidModel" (261 : Nat) ({ cls := "ExactlySaidModel", name := "products", desc := "(III)I" } : Jvm.MethodName) ∈ TB := cTB11 (i := 47) rfl rfl
theorem t_2449 : Jvm.Cond.instanceMethod ({ cls := "ExactlySaidModel", name := "products", desc := "(III)I" } : Jvm.MethodName) ∈ TB := cTB11 (i := 49) rfl rfl
theorem t_2450 : Jvm.Cond.code ({ cls := "ExactlySaidModel", name := "products", desc := "(III)I" } : Jvm.MethodName) prog_14_method_39_code (4 : Nat) (Option.some Jvm.ClassFile.FieldType.int) ∈ TB := cTB11 (i := 50) rfl rfl
theorem t_2451 : Jvm.Cond.methodLink "ExactlySaidModel" (264 : Nat) ({ cls := "ExactlySaidModel", name := "remains", desc := "(II)I" } : Jvm.MethodName) ∈ TB := cTB11 (i := 51) rfl rfl
theorem t_2453 : Jvm.Cond.instanceMethod ({ cls := "ExactlySaidModel", name := "remains", desc := "(II)I" } : Jvm.MethodName) ∈ TB := cTB11 (i := 53) rfl rfl
theorem t_2454 : Jvm.Cond.code ({ cls := "ExactlySaidModel", name := "remains", desc := "(II)I" } : Jvm.MethodName) prog_14_method_35_code (3 : Nat) (Option.some Jvm.ClassFile.FieldType.int) ∈ TB := cTB11 (i := 54) rfl rfl
theorem t_2455 : Jvm.Cond.methodLink "ExactlySaidModel" (267 : Nat) ({ cls := "ExactlySaidModel", name := "powers", desc := "(II)I" } : Jvm.MethodName) ∈ TB := cTB11 (i := 55) rfl rfl
theorem t_2457 : Jvm.Cond.instanceMethod ({ cls := "ExactlySaidModel", name := "powers", desc := "(II)I" } : Jvm.MethodName) ∈ TB := cTB11 (i := 57) rfl rfl
theorem t_2458 : Jvm.Cond.code ({ cls := "ExactlySaidModel", name := "powers", desc := "(II)I" } : Jvm.MethodName) prog_14_method_36_code (5 : Nat) (Option.some Jvm.ClassFile.FieldType.int) ∈ TB := cTB11 (i := 58) rfl rfl
theorem t_2459 : Jvm.Cond.methodLink "ExactlySaidModel" (270 : Nat) ({ cls := "ExactlySaidModel", name := "multipliesAll", desc := "(I)I" } : Jvm.MethodName) ∈ TB := cTB11 (i := 59) rfl rfl
theorem t_2461 : Jvm.Cond.instanceMethod ({ cls := "ExactlySaidModel", name := "multipliesAll", desc := "(I)I" } : Jvm.MethodName) ∈ TB := cTB11 (i := 61) rfl rfl
theorem t_2462 : Jvm.Cond.code ({ cls := "ExactlySaidModel", name := "multipliesAll", desc := "(I)I" } : Jvm.MethodName) prog_14_method_42_code (3 : Nat) (Option.some Jvm.ClassFile.FieldType.int) ∈ TB := cTB11 (i := 62) rfl rfl
theorem t_2463 : Jvm.Cond.methodLink "ExactlySaidModel" (273 : Nat) ({ cls := "ExactlySaidModel", name := "factors", desc := "(III)I" } : Jvm.MethodName) ∈ TB := cTB11 (i := 63) rfl rfl
theorem t_2465 : Jvm.Cond.instanceMethod ({ cls := "ExactlySaidModel", name := "factors", desc := "(III)I" } : Jvm.MethodName) ∈ TB := cTB11 (i := 65) rfl rfl
theorem t_2466 : Jvm.Cond.code ({ cls := "ExactlySaidModel", name := "factors", desc := "(III)I" } : Jvm.MethodName) prog_14_method_40_code (4 : Nat) (Option.some Jvm.ClassFile.FieldType.int) ∈ TB := cTB11 (i := 66) rfl rfl
theorem t_2467 : Jvm.Cond.methodLink "ExactlySaidModel" (276 : Nat) ({ cls := "ExactlySaidModel", name := "rounds", desc := "(II)V" } : Jvm.MethodName) ∈ TB := cTB11 (i := 67) rfl rfl
theorem t_2469 : Jvm.Cond.instanceMethod ({ cls := "ExactlySaidModel", name := "rounds", desc := "(II)V" } : Jvm.MethodName) ∈ TB := cTB11 (i := 69) rfl rfl
theorem t_2470 : Jvm.Cond.code ({ cls := "ExactlySaidModel", name := "rounds", desc := "(II)V" } : Jvm.MethodName) prog_14_method_34_code (5 : Nat) (Option.none : Option Jvm.ClassFile.FieldType) ∈ TB := cTB11 (i := 70) rfl rfl
theorem t_2471 : Jvm.Cond.methodLink "ExactlySaidModel" (279 : Nat) ({ cls := "ExactlySaidModel", name := "order", desc := "(II)I" } : Jvm.MethodName) ∈ TB := cTB11 (i := 71) rfl rfl
theorem t_2473 : Jvm.Cond.instanceMethod ({ cls := "ExactlySaidModel", name := "order", desc := "(II)I" } : Jvm.MethodName) ∈ TB := cTB11 (i := 73) rfl rfl
theorem t_2474 : Jvm.Cond.code ({ cls := "ExactlySaidModel", name := "order", desc := "(II)I" } : Jvm.MethodName) prog_14_method_31_code (3 : Nat) (Option.some Jvm.ClassFile.FieldType.int) ∈ TB := cTB11 (i := 74) rfl rfl
theorem t_2475 : Jvm.Cond.methodLink "ExactlySaidModel" (282 : Nat) ({ cls := "ExactlySaidModel", name := "copiesPart", desc := "(II)I" } : Jvm.MethodName) ∈ TB := cTB11 (i := 75) rfl rfl
theorem t_2477 : Jvm.Cond.instanceMethod ({ cls := "ExactlySaidModel", name := "copiesPart", desc := "(II)I" } : Jvm.MethodName) ∈ TB := cTB11 (i := 77) rfl rfl
theorem t_2478 : Jvm.Cond.code ({ cls := "ExactlySaidModel", name := "copiesPart", desc := "(II)I" } : Jvm.MethodName) prog_14_method_41_code (3 : Nat) (Option.some Jvm.ClassFile.FieldType.int) ∈ TB := cTB11 (i := 78) rfl rfl
theorem t_2479 : Jvm.Cond.methodLink "ExactlySaidModel" (482 : Nat) ({ cls := "ExactlySaidModel", name := "keeps", desc := "(I)I" } : Jvm.MethodName) ∈ TB := cTB11 (i := 79) rfl rfl
theorem t_2481 : Jvm.Cond.instanceMethod ({ cls := "ExactlySaidModel", name := "keeps", desc := "(I)I" } : Jvm.MethodName) ∈ TB := cTB11 (i := 81) rfl rfl
theorem t_2482 : Jvm.Cond.code ({ cls := "ExactlySaidModel", name := "keeps", desc := "(I)I" } : Jvm.MethodName) prog_14_method_24_code (3 : Nat) (Option.some Jvm.ClassFile.FieldType.int) ∈ TB := cTB11 (i := 82) rfl rfl
theorem t_2483 : Jvm.Cond.methodLink "ExactlySaidModel" (221 : Nat) ({ cls := "ExactlySaidModel", name := "copiesValue", desc := "(II)V" } : Jvm.MethodName) ∈ TB := cTB11 (i := 83) rfl rfl
theorem t_2485 : Jvm.Cond.instanceMethod ({ cls := "ExactlySaidModel", name := "copiesValue", desc := "(II)V" } : Jvm.MethodName) ∈ TB := cTB11 (i := 85) rfl rfl
theorem t_2486 : Jvm.Cond.code ({ cls := "ExactlySaidModel", name := "copiesValue", desc := "(II)V" } : Jvm.MethodName) prog_14_method_25_code (4 : Nat) (Option.none : Option Jvm.ClassFile.FieldType) ∈ TB := cTB11 (i := 86) rfl rfl
theorem t_2487 : Jvm.Cond.methodLink "ExactlySaidModel" (491 : Nat) ({ cls := "ExactlySaidModel", name := "remembers", desc := "()V" } : Jvm.MethodName) ∈ TB := cTB11 (i := 87) rfl rfl
theorem t_2489 : Jvm.Cond.instanceMethod ({ cls := "ExactlySaidModel", name := "remembers", desc := "()V" } : Jvm.MethodName) ∈ TB := cTB11 (i := 89) rfl rfl
theorem t_2490 : Jvm.Cond.code ({ cls := "ExactlySaidModel", name := "remembers", desc := "()V" } : Jvm.MethodName) prog_14_method_86_code (2 : Nat) (Option.none : Option Jvm.ClassFile.FieldType) ∈ TB := cTB11 (i := 90) rfl rfl
theorem t_2491 : Jvm.Cond.methodLink "ExactlySaidModel" (494 : Nat) ({ cls := "ExactlySaidModel", name := "saves", desc := "()V" } : Jvm.MethodName) ∈ TB := cTB11 (i := 91) rfl rfl
theorem t_2493 : Jvm.Cond.instanceMethod ({ cls := "ExactlySaidModel", name := "saves", desc := "()V" } : Jvm.MethodName) ∈ TB := cTB11 (i := 93) rfl rfl
theorem t_2494 : Jvm.Cond.code ({ cls := "ExactlySaidModel", name := "saves", desc := "()V" } : Jvm.MethodName) prog_14_method_99_code (1 : Nat) (Option.none : Option Jvm.ClassFile.FieldType) ∈ TB := cTB11 (i := 94) rfl rfl
theorem t_2495 : Jvm.Cond.methodLink "ExactlySaidModel" (524 : Nat) ({ cls := "ExactlySaidModel", name := "writesState", desc := "([II)V" } : Jvm.MethodName) ∈ TB := cTB11 (i := 95) rfl rfl
theorem t_2497 : Jvm.Cond.instanceMethod ({ cls := "ExactlySaidModel", name := "writesState", desc := "([II)V" } : Jvm.MethodName) ∈ TB := cTB11 (i := 97) rfl rfl
theorem t_2498 : Jvm.Cond.code ({ cls := "ExactlySaidModel", name := "writesState", desc := "([II)V" } : Jvm.MethodName) prog_14_method_97_code (6 : Nat) (Option.none : Option Jvm.ClassFile.FieldType) ∈ TB := cTB11 (i := 98) rfl rfl
theorem t_2499 : Jvm.Cond.methodLink "ExactlySaidModel" (497 : Nat) ({ cls := "ExactlySaidModel", name := "placed", desc := "(I)I" } : Jvm.MethodName) ∈ TB := cTB11 (i := 99) rfl rfl
theorem t_2501 : Jvm.Cond.instanceMethod ({ cls := "ExactlySaidModel", name := "placed", desc := "(I)I" } : Jvm.MethodName) ∈ TB := cTB11 (i := 101) rfl rfl
theorem t_2502 : Jvm.Cond.code ({ cls := "ExactlySaidModel", name := "placed", desc := "(I)I" } : Jvm.MethodName) prog_14_method_89_code (3 : Nat) (Option.some Jvm.ClassFile.FieldType.int) ∈ TB := cTB11 (i := 102) rfl rfl
theorem t_2503 : Jvm.Cond.methodLink "ExactlySaidModel" (500 : Nat) ({ cls := "ExactlySaidModel", name := "renews", desc := "(I)Z" } : Jvm.MethodName) ∈ TB := cTB11 (i := 103) rfl rfl
theorem t_2505 : Jvm.Cond.instanceMethod ({ cls := "ExactlySaidModel", name := "renews", desc := "(I)Z" } : Jvm.MethodName) ∈ TB := cTB11 (i := 105) rfl rfl
theorem t_2506 : Jvm.Cond.code ({ cls := "ExactlySaidModel", name := "renews", desc := "(I)Z" } : Jvm.MethodName) prog_14_method_88_code (6 : Nat) (Option.some Jvm.ClassFile.FieldType.boolean) ∈ TB := cTB11 (i := 106) rfl rfl
theorem t_2507 : Jvm.Cond.methodLink "ExactlySaidModel" (503 : Nat) ({ cls := "ExactlySaidModel", name := "recalls", desc := "()V" } : Jvm.MethodName) ∈ TB := cTB11 (i := 107) rfl rfl
theorem t_2509 : Jvm.Cond.instanceMethod ({ cls := "ExactlySaidModel", name := "recalls", desc := "()V" } : Jvm.MethodName) ∈ TB := cTB11 (i := 109) rfl rfl
theorem t_2510 : Jvm.Cond.code ({ cls := "ExactlySaidModel", name := "recalls", desc := "()V" } : Jvm.MethodName) prog_14_method_87_code (2 : Nat) (Option.none : Option Jvm.ClassFile.FieldType) ∈ TB := cTB11 (i := 110) rfl rfl
theorem t_2511 : Jvm.Cond.methodLink "ExactlySaidModel" (506 : Nat) ({ cls := "ExactlySaidModel", name := "forgets", desc := "()V" } : Jvm.MethodName) ∈ TB := cTB11 (i := 111) rfl rfl
theorem t_2513 : Jvm.Cond.instanceMethod ({ cls := "ExactlySaidModel", name := "forgets", desc := "()V" } : Jvm.MethodName) ∈ TB := cTB11 (i := 113) rfl rfl
theorem t_2514 : Jvm.Cond.code ({ cls := "ExactlySaidModel", name := "forgets", desc := "()V" } : Jvm.MethodName) prog_14_method_100_code (1 : Nat) (Option.none : Option Jvm.ClassFile.FieldType) ∈ TB := cTB11 (i := 114) rfl rfl
theorem t_2515 : Jvm.Cond.methodLink "ExactlySaidModel" (528 : Nat) ({ cls := "ExactlySaidModel", name := "readsState", desc := "([II)V" } : Jvm.MethodName) ∈ TB := cTB11 (i := 115) rfl rfl
theorem t_2517 : Jvm.Cond.instanceMethod ({ cls := "ExactlySaidModel", name := "readsState", desc := "([II)V" } : Jvm.MethodName) ∈ TB := cTB11 (i := 117) rfl rfl
theorem t_2518 : Jvm.Cond.code ({ cls := "ExactlySaidModel", name := "readsState", desc := "([II)V" } : Jvm.MethodName) prog_14_method_98_code (6 : Nat) (Option.none : Option Jvm.ClassFile.FieldType) ∈ TB := cTB11 (i := 118) rfl rfl
theorem t_2519 : Jvm.Cond.methodLink "ExactlySaidModel" (509 : Nat) ({ cls := "ExactlySaidModel", name := "changes", desc := "()V" } : Jvm.MethodName) ∈ TB := cTB11 (i := 119) rfl rfl
theorem t_2521 : Jvm.Cond.instanceMethod ({ cls := "ExactlySaidModel", name := "changes", desc := "()V" } : Jvm.MethodName) ∈ TB := cTB11 (i := 121) rfl rfl
theorem t_2522 : Jvm.Cond.code ({ cls := "ExactlySaidModel", name := "changes", desc := "()V" } : Jvm.MethodName) prog_14_method_101_code (2 : Nat) (Option.none : Option Jvm.ClassFile.FieldType) ∈ TB := cTB11 (i := 122) rfl rfl
theorem t_2523 : Jvm.Cond.methodLink "ExactlySaidLaw" (128 : Nat) ({ cls := "ExactlySaidModel", name := "errorPosition", desc := "()I" } : Jvm.MethodName) ∈ TB := cTB11 (i := 123) rfl rfl
theorem t_2524 : Jvm.Cond.instanceMethod ({ cls := "ExactlySaidModel", name := "errorPosition", desc := "()I" } : Jvm.MethodName) ∈ TB := cTB11 (i := 124) rfl rfl
theorem t_2525 : Jvm.Cond.selects "ExactlySaidModel" ({ cls := "ExactlySaidModel", name := "errorPosition", desc := "()I" } : Jvm.MethodName) ({ cls := "ExactlySaidModel", name := "errorPosition", desc := "()I" } : Jvm.MethodName) ∈ TB := cTB11 (i := 125) rfl rfl
theorem t_2526 : Jvm.Cond.code ({ cls := "ExactlySaidModel", name := "errorPosition", desc := "()I" } : Jvm.MethodName) prog_14_method_92_code (1 : Nat) (Option.some Jvm.ClassFile.FieldType.int) ∈ TB := cTB11 (i := 126) rfl rfl
theorem t_2527 : Jvm.Cond.methodLink "ExactlySaidLaw" (132 : Nat) ({ cls := "ExactlySaidModel", name := "refused", desc := "(I)I" } : Jvm.MethodName) ∈ TB := cTB11 (i := 127) rfl rfl
theorem t_2528 : Jvm.Cond.instanceMethod ({ cls := "ExactlySaidModel", name := "refused", desc := "(I)I" } : Jvm.MethodName) ∈ TB := cTB11 (i := 128) rfl rfl
theorem t_2529 : Jvm.Cond.selects "ExactlySaidModel" ({ cls := "ExactlySaidModel", name := "refused", desc := "(I)I" } : Jvm.MethodName) ({ cls := "ExactlySaidModel", name := "refused", desc := "(I)I" } : Jvm.MethodName) ∈ TB := cTB11 (i := 129) rfl rfl
theorem t_2530 : Jvm.Cond.code ({ cls := "ExactlySaidModel", name := "refused", desc := "(I)I" } : Jvm.MethodName) prog_14_method_93_code (2 : Nat) (Option.some Jvm.ClassFile.FieldType.int) ∈ TB := cTB11 (i := 130) rfl rfl
theorem t_2531 : Jvm.Cond.methodLink "ExactlySaidLaw" (136 : Nat) ({ cls := "ExactlySaidModel", name := "failed", desc := "()I" } : Jvm.MethodName) ∈ TB := cTB11 (i := 131) rfl rfl
theorem t_2532 : Jvm.Cond.instanceMethod ({ cls := "ExactlySaidModel", name := "failed", desc := "()I" } : Jvm.MethodName) ∈ TB := cTB11 (i := 132) rfl rfl
theorem t_2533 : Jvm.Cond.selects "ExactlySaidModel" ({ cls := "ExactlySaidModel", name := "failed", desc := "()I" } : Jvm.MethodName) ({ cls := "ExactlySaidModel", name := "failed", desc := "()I" } : Jvm.MethodName) ∈ TB := cTB11 (i := 133) rfl rfl
theorem t_2534 : Jvm.Cond.code ({ cls := "ExactlySaidModel", name := "failed", desc := "()I" } : Jvm.MethodName) prog_14_method_94_code (1 : Nat) (Option.some Jvm.ClassFile.FieldType.int) ∈ TB := cTB11 (i := 134) rfl rfl
theorem t_2535 : Jvm.Cond.methodLink "ExactlySaidLaw" (140 : Nat) ({ cls := "ExactlySaidModel", name := "ring", desc := "()I" } : Jvm.MethodName) ∈ TB := cTB11 (i := 135) rfl rfl
theorem t_2536 : Jvm.Cond.instanceMethod ({ cls := "ExactlySaidModel", name := "ring", desc := "()I" } : Jvm.MethodName) ∈ TB := cTB11 (i := 136) rfl rfl
theorem t_2537 : Jvm.Cond.selects "ExactlySaidModel" ({ cls := "ExactlySaidModel", name := "ring", desc := "()I" } : Jvm.MethodName) ({ cls := "ExactlySaidModel", name := "ring", desc := "()I" } : Jvm.MethodName) ∈ TB := cTB11 (i := 137) rfl rfl
theorem t_2538 : Jvm.Cond.code ({ cls := "ExactlySaidModel", name := "ring", desc := "()I" } : Jvm.MethodName) prog_14_method_95_code (1 : Nat) (Option.some Jvm.ClassFile.FieldType.int) ∈ TB := cTB11 (i := 138) rfl rfl
theorem t_2539 : Jvm.Cond.methodLink "ExactlySaidLaw" (143 : Nat) ({ cls := "ExactlySaidModel", name := "ringAt", desc := "(I)I" } : Jvm.MethodName) ∈ TB := cTB11 (i := 139) rfl rfl
theorem t_2540 : Jvm.Cond.instanceMethod ({ cls := "ExactlySaidModel", name := "ringAt", desc := "(I)I" } : Jvm.MethodName) ∈ TB := cTB11 (i := 140) rfl rfl
theorem t_2541 : Jvm.Cond.selects "ExactlySaidModel" ({ cls := "ExactlySaidModel", name := "ringAt", desc := "(I)I" } : Jvm.MethodName) ({ cls := "ExactlySaidModel", name := "ringAt", desc := "(I)I" } : Jvm.MethodName) ∈ TB := cTB11 (i := 141) rfl rfl
theorem t_2542 : Jvm.Cond.code ({ cls := "ExactlySaidModel", name := "ringAt", desc := "(I)I" } : Jvm.MethodName) prog_14_method_96_code (2 : Nat) (Option.some Jvm.ClassFile.FieldType.int) ∈ TB := cTB11 (i := 142) rfl rfl
theorem t_2543 : Jvm.Cond.methodLink "ExactlySaidLaw" (271 : Nat) ({ cls := "ExactlySaidModel", name := "undo", desc := "()I" } : Jvm.MethodName) ∈ TB := cTB11 (i := 143) rfl rfl
theorem t_2544 : Jvm.Cond.instanceMethod ({ cls := "ExactlySaidModel", name := "undo", desc := "()I" } : Jvm.MethodName) ∈ TB := cTB11 (i := 144) rfl rfl
theorem t_2545 : Jvm.Cond.selects "ExactlySaidModel" ({ cls := "ExactlySaidModel", name := "undo", desc := "()I" } : Jvm.MethodName) ({ cls := "ExactlySaidModel", name := "undo", desc := "()I" } : Jvm.MethodName) ∈ TB := cTB11 (i := 145) rfl rfl
theorem t_2546 : Jvm.Cond.code ({ cls := "ExactlySaidModel", name := "undo", desc := "()I" } : Jvm.MethodName) prog_14_method_102_code (1 : Nat) (Option.some Jvm.ClassFile.FieldType.int) ∈ TB := cTB11 (i := 146) rfl rfl
theorem t_2547 : Jvm.Cond.methodLink "ExactlySaidLaw" (275 : Nat) ({ cls := "ExactlySaidModel", name := "redo", desc := "()I" } : Jvm.MethodName) ∈ TB := cTB11 (i := 147) rfl rfl
theorem t_2548 : Jvm.Cond.instanceMethod ({ cls := "ExactlySaidModel", name := "redo", desc := "()I" } : Jvm.MethodName) ∈ TB := cTB11 (i := 148) rfl rfl
theorem t_2549 : Jvm.Cond.selects "ExactlySaidModel" ({ cls := "ExactlySaidModel", name := "redo", desc := "()I" } : Jvm.MethodName) ({ cls := "ExactlySaidModel", name := "redo", desc := "()I" } : Jvm.MethodName) ∈ TB := cTB11 (i := 149) rfl rfl
theorem t_2550 : Jvm.Cond.code ({ cls := "ExactlySaidModel", name := "redo", desc := "()I" } : Jvm.MethodName) prog_14_method_103_code (1 : Nat) (Option.some Jvm.ClassFile.FieldType.int) ∈ TB := cTB11 (i := 150) rfl rfl
theorem t_2551 : Jvm.Cond.methodLink "ExactlySaidLaw" (147 : Nat) ({ cls := "ExactlySaidModel", name := "sign", desc := "()I" } : Jvm.MethodName) ∈ TB := cTB11 (i := 151) rfl rfl
theorem t_2552 : Jvm.Cond.instanceMethod ({ cls := "ExactlySaidModel", name := "sign", desc := "()I" } : Jvm.MethodName) ∈ TB := cTB11 (i := 152) rfl rfl
theorem t_2553 : Jvm.Cond.selects "ExactlySaidModel" ({ cls := "ExactlySaidModel", name := "sign", desc := "()I" } : Jvm.MethodName) ({ cls := "ExactlySaidModel", name := "sign", desc := "()I" } : Jvm.MethodName) ∈ TB := cTB11 (i := 153) rfl rfl
theorem t_2554 : Jvm.Cond.code ({ cls := "ExactlySaidModel", name := "sign", desc := "()I" } : Jvm.MethodName) prog_14_method_105_code (1 : Nat) (Option.some Jvm.ClassFile.FieldType.int) ∈ TB := cTB11 (i := 154) rfl rfl
theorem t_2555 : Jvm.Cond.methodLink "ExactlySaidLaw" (152 : Nat) ({ cls := "ExactlySaidModel", name := "digits", desc := "(Z)I" } : Jvm.MethodName) ∈ TB := cTB11 (i := 155) rfl rfl
theorem t_2556 : Jvm.Cond.instanceMethod ({ cls := "ExactlySaidModel", name := "digits", desc := "(Z)I" } : Jvm.MethodName) ∈ TB := cTB11 (i := 156) rfl rfl
theorem t_2557 : Jvm.Cond.selects "ExactlySaidModel" ({ cls := "ExactlySaidModel", name := "digits", desc := "(Z)I" } : Jvm.MethodName) ({ cls := "ExactlySaidModel", name := "digits", desc := "(Z)I" } : Jvm.MethodName) ∈ TB := cTB11 (i := 157) rfl rfl
theorem t_2558 : Jvm.Cond.code ({ cls := "ExactlySaidModel", name := "digits", desc := "(Z)I" } : Jvm.MethodName) prog_14_method_109_code (2 : Nat) (Option.some Jvm.ClassFile.FieldType.int) ∈ TB := cTB11 (i := 158) rfl rfl
theorem t_2559 : Jvm.Cond.methodLink "ExactlySaidModel" (546 : Nat) ({ cls := "ExactlySaidModel", name := "drafts", desc := "(Z)V" } : Jvm.MethodName) ∈ TB := cTB11 (i := 159) rfl rfl
theorem t_2561 : Jvm.Cond.instanceMethod ({ cls := "ExactlySaidModel", name := "drafts", desc := "(Z)V" } : Jvm.MethodName) ∈ TB := cTB11 (i := 161) rfl rfl
theorem t_2562 : Jvm.Cond.code ({ cls := "ExactlySaidModel", name := "drafts", desc := "(Z)V" } : Jvm.MethodName) prog_14_method_108_code (2 : Nat) (Option.none : Option Jvm.ClassFile.FieldType) ∈ TB := cTB11 (i := 162) rfl rfl
theorem t_2563 : Jvm.Cond.methodLink "ExactlySaidModel" (543 : Nat) ({ cls := "ExactlySaidModel", name := "writesNumber", desc := "(I)V" } : Jvm.MethodName) ∈ TB := cTB11 (i := 163) rfl rfl
theorem t_2565 : Jvm.Cond.instanceMethod ({ cls := "ExactlySaidModel", name := "writesNumber", desc := "(I)V" } : Jvm.MethodName) ∈ TB := cTB11 (i := 165) rfl rfl
theorem t_2566 : Jvm.Cond.code ({ cls := "ExactlySaidModel", name := "writesNumber", desc := "(I)V" } : Jvm.MethodName) prog_14_method_106_code (6 : Nat) (Option.none : Option Jvm.ClassFile.FieldType) ∈ TB := cTB11 (i := 166) rfl rfl
theorem t_2567 : Jvm.Cond.methodLink "ExactlySaidModel" (537 : Nat) ({ cls := "ExactlySaidModel", name := "writes", desc := "(I)V" } : Jvm.MethodName) ∈ TB := cTB11 (i := 167) rfl rfl
theorem t_2569 : Jvm.Cond.instanceMethod ({ cls := "ExactlySaidModel", name := "writes", desc := "(I)V" } : Jvm.MethodName) ∈ TB := cTB11 (i := 169) rfl rfl
theorem t_2570 : Jvm.Cond.code ({ cls := "ExactlySaidModel", name := "writes", desc := "(I)V" } : Jvm.MethodName) prog_14_method_107_code (2 : Nat) (Option.none : Option Jvm.ClassFile.FieldType) ∈ TB := cTB11 (i := 170) rfl rfl
theorem t_2571 : Jvm.Cond.methodLink "ExactlySaidLaw" (156 : Nat) ({ cls := "ExactlySaidModel", name := "digit", desc := "(ZI)I" } : Jvm.MethodName) ∈ TB := cTB11 (i := 171) rfl rfl
theorem t_2572 : Jvm.Cond.instanceMethod ({ cls := "ExactlySaidModel", name := "digit", desc := "(ZI)I" } : Jvm.MethodName) ∈ TB := cTB11 (i := 172) rfl rfl
theorem t_2573 : Jvm.Cond.selects "ExactlySaidModel" ({ cls := "ExactlySaidModel", name := "digit", desc := "(ZI)I" } : Jvm.MethodName) ({ cls := "ExactlySaidModel", name := "digit", desc := "(ZI)I" } : Jvm.MethodName) ∈ TB := cTB11 (i := 173) rfl rfl
theorem t_2574 : Jvm.Cond.code ({ cls := "ExactlySaidModel", name := "digit", desc := "(ZI)I" } : Jvm.MethodName) prog_14_method_110_code (3 : Nat) (Option.some Jvm.ClassFile.FieldType.int) ∈ TB := cTB11 (i := 174) rfl rfl
theorem t_2575 : Jvm.Cond.methodLink "ExactlySaidLaw" (160 : Nat) ({ cls := "ExactlySaidModel", name := "write", desc := "(Z)I" } : Jvm.MethodName) ∈ TB := cTB11 (i := 175) rfl rfl
theorem t_2576 : Jvm.Cond.instanceMethod ({ cls := "ExactlySaidModel", name := "write", desc := "(Z)I" } : Jvm.MethodName) ∈ TB := cTB11 (i := 176) rfl rfl
theorem t_2577 : Jvm.Cond.selects "ExactlySaidModel" ({ cls := "ExactlySaidModel", name := "write", desc := "(Z)I" } : Jvm.MethodName) ({ cls := "ExactlySaidModel", name := "write", desc := "(Z)I" } : Jvm.MethodName) ∈ TB := cTB11 (i := 177) rfl rfl
theorem t_2578 : Jvm.Cond.code ({ cls := "ExactlySaidModel", name := "write", desc := "(Z)I" } : Jvm.MethodName) prog_14_method_111_code (5 : Nat) (Option.some Jvm.ClassFile.FieldType.int) ∈ TB := cTB11 (i := 178) rfl rfl
theorem t_2579 : Jvm.Cond.methodLink "ExactlySaidModel" (550 : Nat) ({ cls := "ExactlySaidModel", name := "aheadLength", desc := "()I" } : Jvm.MethodName) ∈ TB := cTB11 (i := 179) rfl rfl
theorem t_2581 : Jvm.Cond.instanceMethod ({ cls := "ExactlySaidModel", name := "aheadLength", desc := "()I" } : Jvm.MethodName) ∈ TB := cTB11 (i := 181) rfl rfl
theorem t_2582 : Jvm.Cond.code ({ cls := "ExactlySaidModel", name := "aheadLength", desc := "()I" } : Jvm.MethodName) prog_14_method_131_code (4 : Nat) (Option.some Jvm.ClassFile.FieldType.int) ∈ TB := cTB11 (i := 182) rfl rfl
theorem t_2583 : Jvm.Cond.methodLink "ExactlySaidModel" (553 : Nat) ({ cls := "ExactlySaidModel", name := "repeats", desc := "()I" } : Jvm.MethodName) ∈ TB := cTB11 (i := 183) rfl rfl
theorem t_2585 : Jvm.Cond.instanceMethod ({ cls := "ExactlySaidModel", name := "repeats", desc := "()I" } : Jvm.MethodName) ∈ TB := cTB11 (i := 185) rfl rfl
theorem t_2586 : Jvm.Cond.code ({ cls := "ExactlySaidModel", name := "repeats", desc := "()I" } : Jvm.MethodName) prog_14_method_133_code (3 : Nat) (Option.some Jvm.ClassFile.FieldType.int) ∈ TB := cTB11 (i := 186) rfl rfl
theorem t_2587 : Jvm.Cond.methodLink "ExactlySaidModel" (574 : Nat) ({ cls := "ExactlySaidModel", name := "isOne", desc := "(I)Z" } : Jvm.MethodName) ∈ TB := cTB11 (i := 187) rfl rfl
theorem t_2589 : Jvm.Cond.instanceMethod ({ cls := "ExactlySaidModel", name := "isOne", desc := "(I)Z" } : Jvm.MethodName) ∈ TB := cTB11 (i := 189) rfl rfl
theorem t_2590 : Jvm.Cond.code ({ cls := "ExactlySaidModel", name := "isOne", desc := "(I)Z" } : Jvm.MethodName) prog_14_method_132_code (2 : Nat) (Option.some Jvm.ClassFile.FieldType.boolean) ∈ TB := cTB11 (i := 190) rfl rfl
theorem t_2591 : Jvm.Cond.methodLink "ExactlySaidModel" (556 : Nat) ({ cls := "ExactlySaidModel", name := "writesDecimals", desc := "(II)V" } : Jvm.MethodName) ∈ TB := cTB11 (i := 191) rfl rfl
theorem t_2593 : Jvm.Cond.instanceMethod ({ cls := "ExactlySaidModel", name := "writesDecimals", desc := "(II)V" } : Jvm.MethodName) ∈ TB := cTB11 (i := 193) rfl rfl
theorem t_2594 : Jvm.Cond.code ({ cls := "ExactlySaidModel", name := "writesDecimals", desc := "(II)V" } : Jvm.MethodName) prog_14_method_112_code (4 : Nat) (Option.none : Option Jvm.ClassFile.FieldType) ∈ TB := cTB11 (i := 194) rfl rfl
theorem t_2595 : Jvm.Cond.methodLink "ExactlySaidModel" (562 : Nat) ({ cls := "ExactlySaidModel", name := "nextDecimal", desc := "()I" } : Jvm.MethodName) ∈ TB := cTB11 (i := 195) rfl rfl
theorem t_2597 : Jvm.Cond.instanceMethod ({ cls := "ExactlySaidModel", name := "nextDecimal", desc := "()I" } : Jvm.MethodName) ∈ TB := cTB11 (i := 197) rfl rfl
theorem t_2598 : Jvm.Cond.code ({ cls := "ExactlySaidModel", name := "nextDecimal", desc := "()I" } : Jvm.MethodName) prog_14_method_113_code (1 : Nat) (Option.some Jvm.ClassFile.FieldType.int) ∈ TB := cTB11 (i := 198) rfl rfl
theorem t_2599 : Jvm.Cond.methodLink "ExactlySaidLaw" (163 : Nat) ({ cls := "ExactlySaidModel", name := "writtenAt", desc := "(I)C" } : Jvm.MethodName) ∈ TB := cTB11 (i := 199) rfl rfl
theorem t_2600 : Jvm.Cond.instanceMethod ({ cls := "ExactlySaidModel", name := "writtenAt", desc := "(I)C" } : Jvm.MethodName) ∈ TB := cTB11 (i := 200) rfl rfl
theorem t_2601 : Jvm.Cond.selects "ExactlySaidModel" ({ cls := "ExactlySaidModel", name := "writtenAt", desc := "(I)C" } : Jvm.MethodName) ({ cls := "ExactlySaidModel", name := "writtenAt", desc := "(I)C" } : Jvm.MethodName) ∈ TB := cTB11 (i := 201) rfl rfl
theorem t_2602 : Jvm.Cond.code ({ cls := "ExactlySaidModel", name := "writtenAt", desc := "(I)C" } : Jvm.MethodName) prog_14_method_114_code (2 : Nat) (Option.some Jvm.ClassFile.FieldType.char) ∈ TB := cTB11 (i := 202) rfl rfl
theorem t_2603 : Jvm.Cond.methodLink "ExactlySaidLaw" (166 : Nat) ({ cls := "ExactlySaidModel", name := "keep", desc := "(I)I" } : Jvm.MethodName) ∈ TB := cTB11 (i := 203) rfl rfl
theorem t_2604 : Jvm.Cond.instanceMethod ({ cls := "ExactlySaidModel", name := "keep", desc := "(I)I" } : Jvm.MethodName) ∈ TB := cTB11 (i := 204) rfl rfl
theorem t_2605 : Jvm.Cond.selects "ExactlySaidModel" ({ cls := "ExactlySaidModel", name := "keep", desc := "(I)I" } : Jvm.MethodName) ({ cls := "ExactlySaidModel", name := "keep", desc := "(I)I" } : Jvm.MethodName) ∈ TB := cTB11 (i := 205) rfl rfl
theorem t_2606 : Jvm.Cond.code ({ cls := "ExactlySaidModel", name := "keep", desc := "(I)I" } : Jvm.MethodName) prog_14_method_116_code (3 : Nat) (Option.some Jvm.ClassFile.FieldType.int) ∈ TB := cTB11 (i := 206) rfl rfl
theorem t_2607 : Jvm.Cond.methodLink "ExactlySaidModel" (565 : Nat) ({ cls := "ExactlySaidModel", name := "noSlot", desc := "(I)Z" } : Jvm.MethodName) ∈ TB := cTB11 (i := 207) rfl rfl
theorem t_2609 : Jvm.Cond.instanceMethod ({ cls := "ExactlySaidModel", name := "noSlot", desc := "(I)Z" } : Jvm.MethodName) ∈ TB := cTB11 (i := 209) rfl rfl
theorem t_2610 : Jvm.Cond.code ({ cls := "ExactlySaidModel", name := "noSlot", desc := "(I)Z" } : Jvm.MethodName) prog_14_method_115_code (2 : Nat) (Option.some Jvm.ClassFile.FieldType.boolean) ∈ TB := cTB11 (i := 210) rfl rfl
theorem t_2611 : Jvm.Cond.methodLink "ExactlySaidLaw" (169 : Nat) ({ cls := "ExactlySaidModel", name := "take", desc := "(I)I" } : Jvm.MethodName) ∈ TB := cTB11 (i := 211) rfl rfl
theorem t_2612 : Jvm.Cond.instanceMethod ({ cls := "ExactlySaidModel", name := "take", desc := "(I)I" } : Jvm.MethodName) ∈ TB := cTB11 (i := 212) rfl rfl
theorem t_2613 : Jvm.Cond.selects "ExactlySaidModel" ({ cls := "ExactlySaidModel", name := "take", desc := "(I)I" } : Jvm.MethodName) ({ cls := "ExactlySaidModel", name := "take", desc := "(I)I" } : Jvm.MethodName) ∈ TB := cTB11 (i := 213) rfl rfl
theorem t_2614 : Jvm.Cond.code ({ cls := "ExactlySaidModel", name := "take", desc := "(I)I" } : Jvm.MethodName) prog_14_method_117_code (2 : Nat) (Option.some Jvm.ClassFile.FieldType.int) ∈ TB := cTB11 (i := 214) rfl rfl
theorem t_2615 : Jvm.Cond.methodLink "ExactlySaidModel" (568 : Nat) ({ cls := "ExactlySaidModel", name := "becomes", desc := "(I)I" } : Jvm.MethodName) ∈ TB := cTB11 (i := 215) rfl rfl
theorem t_2617 : Jvm.Cond.instanceMethod ({ cls := "ExactlySaidModel", name := "becomes", desc := "(I)I" } : Jvm.MethodName) ∈ TB := cTB11 (i := 217) rfl rfl
theorem t_2618 : Jvm.Cond.code ({ cls := "ExactlySaidModel", name := "becomes", desc := "(I)I" } : Jvm.MethodName) prog_14_method_104_code (2 : Nat) (Option.some Jvm.ClassFile.FieldType.int) ∈ TB := cTB11 (i := 218) rfl rfl
theorem t_2619 : Jvm.Cond.methodLink "ExactlySaidLaw" (173 : Nat) ({ cls := "ExactlySaidModel", name := "compare", desc := "(II)I" } : Jvm.MethodName) ∈ TB := cTB11 (i := 219) rfl rfl
theorem t_2620 : Jvm.Cond.instanceMethod ({ cls := "ExactlySaidModel", name := "compare", desc := "(II)I" } : Jvm.MethodName) ∈ TB := cTB11 (i := 220) rfl rfl
theorem t_2621 : Jvm.Cond.selects "ExactlySaidModel" ({ cls := "ExactlySaidModel", name := "compare", desc := "(II)I" } : Jvm.MethodName) ({ cls := "ExactlySaidModel", name := "compare", desc := "(II)I" } : Jvm.MethodName) ∈ TB := cTB11 (i := 221) rfl rfl
theorem t_2622 : Jvm.Cond.code ({ cls := "ExactlySaidModel", name := "compare", desc := "(II)I" } : Jvm.MethodName) prog_14_method_118_code (3 : Nat) (Option.some Jvm.ClassFile.FieldType.int) ∈ TB := cTB11 (i := 222) rfl rfl
theorem t_2623 : Jvm.Cond.methodLink "ExactlySaidLaw" (177 : Nat) ({ cls := "ExactlySaidModel", name := "names", desc := "()I" } : Jvm.MethodName) ∈ TB := cTB11 (i := 223) rfl rfl
theorem t_2624 : Jvm.Cond.instanceMethod ({ cls := "ExactlySaidModel", name := "names", desc := "()I" } : Jvm.MethodName) ∈ TB := cTB11 (i := 224) rfl rfl
theorem t_2625 : Jvm.Cond.selects "ExactlySaidModel" ({ cls := "ExactlySaidModel", name := "names", desc := "()I" } : Jvm.MethodName) ({ cls := "ExactlySaidModel", name := "names", desc := "()I" } : Jvm.MethodName) ∈ TB := cTB11 (i := 225) rfl rfl
theorem t_2626 : Jvm.Cond.code ({ cls := "ExactlySaidModel", name := "names", desc := "()I" } : Jvm.MethodName) prog_14_method_119_code (1 : Nat) (Option.some Jvm.ClassFile.FieldType.int) ∈ TB := cTB11 (i := 226) rfl rfl
theorem t_2627 : Jvm.Cond.methodLink "ExactlySaidLaw" (180 : Nat) ({ cls := "ExactlySaidModel", name := "nameAt", desc := "(I)I" } : Jvm.MethodName) ∈ TB := cTB11 (i := 227) rfl rfl
theorem t_2628 : Jvm.Cond.instanceMethod ({ cls := "ExactlySaidModel", name := "nameAt", desc := "(I)I" } : Jvm.MethodName) ∈ TB := cTB11 (i := 228) rfl rfl
theorem t_2629 : Jvm.Cond.selects "ExactlySaidModel" ({ cls := "ExactlySaidModel", name := "nameAt", desc := "(I)I" } : Jvm.MethodName) ({ cls := "ExactlySaidModel", name := "nameAt", desc := "(I)I" } : Jvm.MethodName) ∈ TB := cTB11 (i := 229) rfl rfl
theorem t_2630 : Jvm.Cond.code ({ cls := "ExactlySaidModel", name := "nameAt", desc := "(I)I" } : Jvm.MethodName) prog_14_method_120_code (5 : Nat) (Option.some Jvm.ClassFile.FieldType.int) ∈ TB := cTB11 (i := 230) rfl rfl
theorem t_2631 : Jvm.Cond.methodLink "ExactlySaidLaw" (183 : Nat) ({ cls := "ExactlySaidModel", name := "takeName", desc := "(I)I" } : Jvm.MethodName) ∈ TB := cTB11 (i := 231) rfl rfl
theorem t_2632 : Jvm.Cond.instanceMethod ({ cls := "ExactlySaidModel", name := "takeName", desc := "(I)I" } : Jvm.MethodName) ∈ TB := cTB11 (i := 232) rfl rfl
theorem t_2633 : Jvm.Cond.selects "ExactlySaidModel" ({ cls := "ExactlySaidModel", name := "takeName", desc := "(I)I" } : Jvm.MethodName) ({ cls := "ExactlySaidModel", name := "takeName", desc := "(I)I" } : Jvm.MethodName) ∈ TB := cTB11 (i := 233) rfl rfl
theorem t_2634 : Jvm.Cond.code ({ cls := "ExactlySaidModel", name := "takeName", desc := "(I)I" } : Jvm.MethodName) prog_14_method_121_code (3 : Nat) (Option.some Jvm.ClassFile.FieldType.int) ∈ TB := cTB11 (i := 234) rfl rfl
theorem t_2635 : Jvm.Cond.methodLink "ExactlySaidLaw" (187 : Nat) ({ cls := "ExactlySaidModel", name := "functions", desc := "()I" } : Jvm.MethodName) ∈ TB := cTB11 (i := 235) rfl rfl
theorem t_2636 : Jvm.Cond.instanceMethod ({ cls := "ExactlySaidModel", name := "functions", desc := "()I" } : Jvm.MethodName) ∈ TB := cTB11 (i := 236) rfl rfl
theorem t_2637 : Jvm.Cond.selects "ExactlySaidModel" ({ cls := "ExactlySaidModel", name := "functions", desc := "()I" } : Jvm.MethodName) ({ cls := "ExactlySaidModel", name := "functions", desc := "()I" } : Jvm.MethodName) ∈ TB := cTB11 (i := 237) rfl rfl
theorem t_2638 : Jvm.Cond.code ({ cls := "ExactlySaidModel", name := "functions", desc := "()I" } : Jvm.MethodName) prog_14_method_122_code (1 : Nat) (Option.some Jvm.ClassFile.FieldType.int) ∈ TB := cTB11 (i := 238) rfl rfl
theorem t_2639 : Jvm.Cond.methodLink "ExactlySaidLaw" (190 : Nat) ({ cls := "ExactlySaidModel", name := "parameters", desc := "(I)I" } : Jvm.MethodName) ∈ TB := cTB11 (i := 239) rfl rfl
theorem t_2640 : Jvm.Cond.instanceMethod ({ cls := "ExactlySaidModel", name := "parameters", desc := "(I)I" } : Jvm.MethodName) ∈ TB := cTB12 (i := 0) rfl rfl
theorem t_2641 : Jvm.Cond.selects "ExactlySaidModel" ({ cls := "ExactlySaidModel", name := "parameters", desc := "(I)I" } : Jvm.MethodName) ({ cls := "ExactlySaidModel", name := "parameters", desc := "(I)I" } : Jvm.MethodName) ∈ TB := cTB12 (i := 1) rfl rfl
theorem t_2642 : Jvm.Cond.code ({ cls := "ExactlySaidModel", name := "parameters", desc := "(I)I" } : Jvm.MethodName) prog_14_method_123_code (3 : Nat) (Option.some Jvm.ClassFile.FieldType.int) ∈ TB := cTB12 (i := 2) rfl rfl
theorem t_2643 : Jvm.Cond.methodLink "ExactlySaidLaw" (195 : Nat) ({ cls := "ExactlySaidModel", name := "uses", desc := "(IZIZ)Z" } : Jvm.MethodName) ∈ TB := cTB12 (i := 3) rfl rfl
theorem t_2644 : Jvm.Cond.instanceMethod ({ cls := "ExactlySaidModel", name := "uses", desc := "(IZIZ)Z" } : Jvm.MethodName) ∈ TB := cTB12 (i := 4) rfl rfl
theorem t_2645 : Jvm.Cond.selects "ExactlySaidModel" ({ cls := "ExactlySaidModel", name := "uses", desc := "(IZIZ)Z" } : Jvm.MethodName) ({ cls := "ExactlySaidModel", name := "uses", desc := "(IZIZ)Z" } : Jvm.MethodName) ∈ TB := cTB12 (i := 5) rfl rfl
theorem t_2646 : Jvm.Cond.code ({ cls := "ExactlySaidModel", name := "uses", desc := "(IZIZ)Z" } : Jvm.MethodName) prog_14_method_124_code (7 : Nat) (Option.some Jvm.ClassFile.FieldType.boolean) ∈ TB := cTB12 (i := 6) rfl rfl
theorem t_2647 : Jvm.Cond.methodLink "ExactlySaidLaw" (199 : Nat) ({ cls := "ExactlySaidModel", name := "users", desc := "(IZ)I" } : Jvm.MethodName) ∈ TB := cTB12 (i := 7) rfl rfl
theorem t_2648 : Jvm.Cond.instanceMethod ({ cls := "ExactlySaidModel", name := "users", desc := "(IZ)I" } : Jvm.MethodName) ∈ TB := cTB12 (i := 8) rfl rfl
theorem t_2649 : Jvm.Cond.selects "ExactlySaidModel" ({ cls := "ExactlySaidModel", name := "users", desc := "(IZ)I" } : Jvm.MethodName) ({ cls := "ExactlySaidModel", name := "users", desc := "(IZ)I" } : Jvm.MethodName) ∈ TB := cTB12 (i := 9) rfl rfl
theorem t_2650 : Jvm.Cond.code ({ cls := "ExactlySaidModel", name := "users", desc := "(IZ)I" } : Jvm.MethodName) prog_14_method_125_code (6 : Nat) (Option.some Jvm.ClassFile.FieldType.int) ∈ TB := cTB12 (i := 10) rfl rfl
theorem t_2651 : Jvm.Cond.methodLink "ExactlySaidLaw" (203 : Nat) ({ cls := "ExactlySaidModel", name := "drop", desc := "(IZ)I" } : Jvm.MethodName) ∈ TB := cTB12 (i := 11) rfl rfl
theorem t_2652 : Jvm.Cond.instanceMethod ({ cls := "ExactlySaidModel", name := "drop", desc := "(IZ)I" } : Jvm.MethodName) ∈ TB := cTB12 (i := 12) rfl rfl
theorem t_2653 : Jvm.Cond.selects "ExactlySaidModel" ({ cls := "ExactlySaidModel", name := "drop", desc := "(IZ)I" } : Jvm.MethodName) ({ cls := "ExactlySaidModel", name := "drop", desc := "(IZ)I" } : Jvm.MethodName) ∈ TB := cTB12 (i := 13) rfl rfl
theorem t_2654 : Jvm.Cond.code ({ cls := "ExactlySaidModel", name := "drop", desc := "(IZ)I" } : Jvm.MethodName) prog_14_method_126_code (6 : Nat) (Option.some Jvm.ClassFile.FieldType.int) ∈ TB := cTB12 (i := 14) rfl rfl
theorem t_2655 : Jvm.Cond.methodLink "ExactlySaidLaw" (207 : Nat) ({ cls := "ExactlySaidModel", name := "steps", desc := "()I" } : Jvm.MethodName) ∈ TB := cTB12 (i := 15) rfl rfl
theorem t_2656 : Jvm.Cond.instanceMethod ({ cls := "ExactlySaidModel", name := "steps", desc := "()I" } : Jvm.MethodName) ∈ TB := cTB12 (i := 16) rfl rfl
theorem t_2657 : Jvm.Cond.selects "ExactlySaidModel" ({ cls := "ExactlySaidModel", name := "steps", desc := "()I" } : Jvm.MethodName) ({ cls := "ExactlySaidModel", name := "steps", desc := "()I" } : Jvm.MethodName) ∈ TB := cTB12 (i := 17) rfl rfl
theorem t_2658 : Jvm.Cond.code ({ cls := "ExactlySaidModel", name := "steps", desc := "()I" } : Jvm.MethodName) prog_14_method_127_code (1 : Nat) (Option.some Jvm.ClassFile.FieldType.int) ∈ TB := cTB12 (i := 18) rfl rfl
theorem t_2659 : Jvm.Cond.methodLink "ExactlySaidLaw" (210 : Nat) ({ cls := "ExactlySaidModel", name := "stepAt", desc := "(I)I" } : Jvm.MethodName) ∈ TB := cTB12 (i := 19) rfl rfl
theorem t_2660 : Jvm.Cond.instanceMethod ({ cls := "ExactlySaidModel", name := "stepAt", desc := "(I)I" } : Jvm.MethodName) ∈ TB := cTB12 (i := 20) rfl rfl
theorem t_2661 : Jvm.Cond.selects "ExactlySaidModel" ({ cls := "ExactlySaidModel", name := "stepAt", desc := "(I)I" } : Jvm.MethodName) ({ cls := "ExactlySaidModel", name := "stepAt", desc := "(I)I" } : Jvm.MethodName) ∈ TB := cTB12 (i := 21) rfl rfl
theorem t_2662 : Jvm.Cond.code ({ cls := "ExactlySaidModel", name := "stepAt", desc := "(I)I" } : Jvm.MethodName) prog_14_method_129_code (2 : Nat) (Option.some Jvm.ClassFile.FieldType.int) ∈ TB := cTB12 (i := 22) rfl rfl
theorem t_2663 : Jvm.Cond.methodLink "ExactlySaidModel" (571 : Nat) ({ cls := "ExactlySaidModel", name := "noStep", desc := "(I)Z" } : Jvm.MethodName) ∈ TB := cTB12 (i := 23) rfl rfl
theorem t_2665 : Jvm.Cond.instanceMethod ({ cls := "ExactlySaidModel", name := "noStep", desc := "(I)Z" } : Jvm.MethodName) ∈ TB := cTB12 (i := 25) rfl rfl
theorem t_2666 : Jvm.Cond.code ({ cls := "ExactlySaidModel", name := "noStep", desc := "(I)Z" } : Jvm.MethodName) prog_14_method_128_code (2 : Nat) (Option.some Jvm.ClassFile.FieldType.boolean) ∈ TB := cTB12 (i := 26) rfl rfl
theorem t_2667 : Jvm.Cond.methodLink "ExactlySaidLaw" (213 : Nat) ({ cls := "ExactlySaidModel", name := "takeStep", desc := "(I)I" } : Jvm.MethodName) ∈ TB := cTB12 (i := 27) rfl rfl
theorem t_2668 : Jvm.Cond.instanceMethod ({ cls := "ExactlySaidModel", name := "takeStep", desc := "(I)I" } : Jvm.MethodName) ∈ TB := cTB12 (i := 28) rfl rfl
theorem t_2669 : Jvm.Cond.selects "ExactlySaidModel" ({ cls := "ExactlySaidModel", name := "takeStep", desc := "(I)I" } : Jvm.MethodName) ({ cls := "ExactlySaidModel", name := "takeStep", desc := "(I)I" } : Jvm.MethodName) ∈ TB := cTB12 (i := 29) rfl rfl
theorem t_2670 : Jvm.Cond.code ({ cls := "ExactlySaidModel", name := "takeStep", desc := "(I)I" } : Jvm.MethodName) prog_14_method_130_code (2 : Nat) (Option.some Jvm.ClassFile.FieldType.int) ∈ TB := cTB12 (i := 30) rfl rfl
theorem t_2671 : Jvm.Cond.methodLink "ExactlySaidLaw" (218 : Nat) ({ cls := "ExactlySaidModel", name := "ends", desc := "()Z" } : Jvm.MethodName) ∈ TB := cTB12 (i := 31) rfl rfl
theorem t_2672 : Jvm.Cond.instanceMethod ({ cls := "ExactlySaidModel", name := "ends", desc := "()Z" } : Jvm.MethodName) ∈ TB := cTB12 (i := 32) rfl rfl
theorem t_2673 : Jvm.Cond.selects "ExactlySaidModel" ({ cls := "ExactlySaidModel", name := "ends", desc := "()Z" } : Jvm.MethodName) ({ cls := "ExactlySaidModel", name := "ends", desc := "()Z" } : Jvm.MethodName) ∈ TB := cTB12 (i := 33) rfl rfl
theorem t_2674 : Jvm.Cond.code ({ cls := "ExactlySaidModel", name := "ends", desc := "()Z" } : Jvm.MethodName) prog_14_method_134_code (2 : Nat) (Option.some Jvm.ClassFile.FieldType.boolean) ∈ TB := cTB12 (i := 34) rfl rfl
theorem t_2675 : Jvm.Cond.methodLink "ExactlySaidLaw" (222 : Nat) ({ cls := "ExactlySaidModel", name := "ahead", desc := "()I" } : Jvm.MethodName) ∈ TB := cTB12 (i := 35) rfl rfl
theorem t_2676 : Jvm.Cond.instanceMethod ({ cls := "ExactlySaidModel", name := "ahead", desc := "()I" } : Jvm.MethodName) ∈ TB := cTB12 (i := 36) rfl rfl
theorem t_2677 : Jvm.Cond.selects "ExactlySaidModel" ({ cls := "ExactlySaidModel", name := "ahead", desc := "()I" } : Jvm.MethodName) ({ cls := "ExactlySaidModel", name := "ahead", desc := "()I" } : Jvm.MethodName) ∈ TB := cTB12 (i := 37) rfl rfl
theorem t_2678 : Jvm.Cond.code ({ cls := "ExactlySaidModel", name := "ahead", desc := "()I" } : Jvm.MethodName) prog_14_method_135_code (1 : Nat) (Option.some Jvm.ClassFile.FieldType.int) ∈ TB := cTB12 (i := 38) rfl rfl
theorem t_2679 : Jvm.Cond.methodLink "ExactlySaidLaw" (226 : Nat) ({ cls := "ExactlySaidModel", name := "repeating", desc := "()I" } : Jvm.MethodName) ∈ TB := cTB12 (i := 39) rfl rfl
theorem t_2680 : Jvm.Cond.instanceMethod ({ cls := "ExactlySaidModel", name := "repeating", desc := "()I" } : Jvm.MethodName) ∈ TB := cTB12 (i := 40) rfl rfl
theorem t_2681 : Jvm.Cond.selects "ExactlySaidModel" ({ cls := "ExactlySaidModel", name := "repeating", desc := "()I" } : Jvm.MethodName) ({ cls := "ExactlySaidModel", name := "repeating", desc := "()I" } : Jvm.MethodName) ∈ TB := cTB12 (i := 41) rfl rfl
theorem t_2682 : Jvm.Cond.code ({ cls := "ExactlySaidModel", name := "repeating", desc := "()I" } : Jvm.MethodName) prog_14_method_136_code (1 : Nat) (Option.some Jvm.ClassFile.FieldType.int) ∈ TB := cTB12 (i := 42) rfl rfl
theorem t_2683 : Jvm.Cond.methodLink "ExactlySaidLaw" (229 : Nat) ({ cls := "ExactlySaidModel", name := "decimal", desc := "(I)I" } : Jvm.MethodName) ∈ TB := cTB12 (i := 43) rfl rfl
theorem t_2684 : Jvm.Cond.instanceMethod ({ cls := "ExactlySaidModel", name := "decimal", desc := "(I)I" } : Jvm.MethodName) ∈ TB := cTB12 (i := 44) rfl rfl
theorem t_2685 : Jvm.Cond.selects "ExactlySaidModel" ({ cls := "ExactlySaidModel", name := "decimal", desc := "(I)I" } : Jvm.MethodName) ({ cls := "ExactlySaidModel", name := "decimal", desc := "(I)I" } : Jvm.MethodName) ∈ TB := cTB12 (i := 45) rfl rfl
theorem t_2686 : Jvm.Cond.code ({ cls := "ExactlySaidModel", name := "decimal", desc := "(I)I" } : Jvm.MethodName) prog_14_method_137_code (4 : Nat) (Option.some Jvm.ClassFile.FieldType.int) ∈ TB := cTB12 (i := 46) rfl rfl
theorem t_2687 : Jvm.Cond.methodLink "ExactlySaidLaw" (233 : Nat) ({ cls := "ExactlySaidModel", name := "continued", desc := "()I" } : Jvm.MethodName) ∈ TB := cTB12 (i := 47) rfl rfl
theorem t_2688 : Jvm.Cond.instanceMethod ({ cls := "ExactlySaidModel", name := "continued", desc := "()I" } : Jvm.MethodName) ∈ TB := cTB12 (i := 48) rfl rfl
theorem t_2689 : Jvm.Cond.selects "ExactlySaidModel" ({ cls := "ExactlySaidModel", name := "continued", desc := "()I" } : Jvm.MethodName) ({ cls := "ExactlySaidModel", name := "continued", desc := "()I" } : Jvm.MethodName) ∈ TB := cTB12 (i := 49) rfl rfl
theorem t_2690 : Jvm.Cond.code ({ cls := "ExactlySaidModel", name := "continued", desc := "()I" } : Jvm.MethodName) prog_14_method_139_code (2 : Nat) (Option.some Jvm.ClassFile.FieldType.int) ∈ TB := cTB12 (i := 50) rfl rfl
theorem t_2691 : Jvm.Cond.methodLink "ExactlySaidModel" (580 : Nat) ({ cls := "ExactlySaidModel", name := "continues", desc := "(I)I" } : Jvm.MethodName) ∈ TB := cTB12 (i := 51) rfl rfl
theorem t_2693 : Jvm.Cond.instanceMethod ({ cls := "ExactlySaidModel", name := "continues", desc := "(I)I" } : Jvm.MethodName) ∈ TB := cTB12 (i := 53) rfl rfl
theorem t_2694 : Jvm.Cond.code ({ cls := "ExactlySaidModel", name := "continues", desc := "(I)I" } : Jvm.MethodName) prog_14_method_138_code (3 : Nat) (Option.some Jvm.ClassFile.FieldType.int) ∈ TB := cTB12 (i := 54) rfl rfl
theorem t_2695 : Jvm.Cond.methodLink "ExactlySaidLaw" (236 : Nat) ({ cls := "ExactlySaidModel", name := "takeContinued", desc := "(I)I" } : Jvm.MethodName) ∈ TB := cTB12 (i := 55) rfl rfl
theorem t_2696 : Jvm.Cond.instanceMethod ({ cls := "ExactlySaidModel", name := "takeContinued", desc := "(I)I" } : Jvm.MethodName) ∈ TB := cTB12 (i := 56) rfl rfl
theorem t_2697 : Jvm.Cond.selects "ExactlySaidModel" ({ cls := "ExactlySaidModel", name := "takeContinued", desc := "(I)I" } : Jvm.MethodName) ({ cls := "ExactlySaidModel", name := "takeContinued", desc := "(I)I" } : Jvm.MethodName) ∈ TB := cTB12 (i := 57) rfl rfl
theorem t_2698 : Jvm.Cond.code ({ cls := "ExactlySaidModel", name := "takeContinued", desc := "(I)I" } : Jvm.MethodName) prog_14_method_140_code (3 : Nat) (Option.some Jvm.ClassFile.FieldType.int) ∈ TB := cTB12 (i := 58) rfl rfl
theorem t_2699 : Jvm.Cond.methodLink "ExactlySaidLaw" (239 : Nat) ({ cls := "ExactlySaidModel", name := "takeBest", desc := "(I)I" } : Jvm.MethodName) ∈ TB := cTB12 (i := 59) rfl rfl
theorem t_2700 : Jvm.Cond.instanceMethod ({ cls := "ExactlySaidModel", name := "takeBest", desc := "(I)I" } : Jvm.MethodName) ∈ TB := cTB12 (i := 60) rfl rfl
theorem t_2701 : Jvm.Cond.selects "ExactlySaidModel" ({ cls := "ExactlySaidModel", name := "takeBest", desc := "(I)I" } : Jvm.MethodName) ({ cls := "ExactlySaidModel", name := "takeBest", desc := "(I)I" } : Jvm.MethodName) ∈ TB := cTB12 (i := 61) rfl rfl
theorem t_2702 : Jvm.Cond.code ({ cls := "ExactlySaidModel", name := "takeBest", desc := "(I)I" } : Jvm.MethodName) prog_14_method_142_code (6 : Nat) (Option.some Jvm.ClassFile.FieldType.int) ∈ TB := cTB12 (i := 62) rfl rfl
theorem t_2703 : Jvm.Cond.methodLink "ExactlySaidModel" (589 : Nat) ({ cls := "ExactlySaidModel", name := "looks", desc := "(II)V" } : Jvm.MethodName) ∈ TB := cTB12 (i := 63) rfl rfl
theorem t_2705 : Jvm.Cond.instanceMethod ({ cls := "ExactlySaidModel", name := "looks", desc := "(II)V" } : Jvm.MethodName) ∈ TB := cTB12 (i := 65) rfl rfl
theorem t_2706 : Jvm.Cond.code ({ cls := "ExactlySaidModel", name := "looks", desc := "(II)V" } : Jvm.MethodName) prog_14_method_141_code (3 : Nat) (Option.none : Option Jvm.ClassFile.FieldType) ∈ TB := cTB12 (i := 66) rfl rfl
theorem t_2707 : Jvm.Cond.methodLink "ExactlySaidLaw" (243 : Nat) ({ cls := "ExactlySaidModel", name := "units", desc := "()I" } : Jvm.MethodName) ∈ TB := cTB12 (i := 67) rfl rfl
theorem t_2708 : Jvm.Cond.instanceMethod ({ cls := "ExactlySaidModel", name := "units", desc := "()I" } : Jvm.MethodName) ∈ TB := cTB12 (i := 68) rfl rfl
theorem t_2709 : Jvm.Cond.selects "ExactlySaidModel" ({ cls := "ExactlySaidModel", name := "units", desc := "()I" } : Jvm.MethodName) ({ cls := "ExactlySaidModel", name := "units", desc := "()I" } : Jvm.MethodName) ∈ TB := cTB12 (i := 69) rfl rfl
theorem t_2710 : Jvm.Cond.code ({ cls := "ExactlySaidModel", name := "units", desc := "()I" } : Jvm.MethodName) prog_14_method_144_code (3 : Nat) (Option.some Jvm.ClassFile.FieldType.int) ∈ TB := cTB12 (i := 70) rfl rfl
theorem t_2711 : Jvm.Cond.methodLink "ExactlySaidModel" (592 : Nat) ({ cls := "ExactlySaidModel", name := "findsUnits", desc := "()I" } : Jvm.MethodName) ∈ TB := cTB12 (i := 71) rfl rfl
theorem t_2713 : Jvm.Cond.instanceMethod ({ cls := "ExactlySaidModel", name := "findsUnits", desc := "()I" } : Jvm.MethodName) ∈ TB := cTB12 (i := 73) rfl rfl
theorem t_2714 : Jvm.Cond.code ({ cls := "ExactlySaidModel", name := "findsUnits", desc := "()I" } : Jvm.MethodName) prog_14_method_143_code (2 : Nat) (Option.some Jvm.ClassFile.FieldType.int) ∈ TB := cTB12 (i := 74) rfl rfl
theorem t_2715 : Jvm.Cond.methodLink "ExactlySaidLaw" (246 : Nat) ({ cls := "ExactlySaidModel", name := "takeUnit", desc := "(I)I" } : Jvm.MethodName) ∈ TB := cTB12 (i := 75) rfl rfl
theorem t_2716 : Jvm.Cond.instanceMethod ({ cls := "ExactlySaidModel", name := "takeUnit", desc := "(I)I" } : Jvm.MethodName) ∈ TB := cTB12 (i := 76) rfl rfl
theorem t_2717 : Jvm.Cond.selects "ExactlySaidModel" ({ cls := "ExactlySaidModel", name := "takeUnit", desc := "(I)I" } : Jvm.MethodName) ({ cls := "ExactlySaidModel", name := "takeUnit", desc := "(I)I" } : Jvm.MethodName) ∈ TB := cTB12 (i := 77) rfl rfl
theorem t_2718 : Jvm.Cond.code ({ cls := "ExactlySaidModel", name := "takeUnit", desc := "(I)I" } : Jvm.MethodName) prog_14_method_145_code (5 : Nat) (Option.some Jvm.ClassFile.FieldType.int) ∈ TB := cTB12 (i := 78) rfl rfl
theorem t_2719 : Jvm.Cond.methodLink "ExactlySaidLaw" (249 : Nat) ({ cls := "ExactlySaidModel", name := "put", desc := "(I)I" } : Jvm.MethodName) ∈ TB := cTB12 (i := 79) rfl rfl
theorem t_2720 : Jvm.Cond.instanceMethod ({ cls := "ExactlySaidModel", name := "put", desc := "(I)I" } : Jvm.MethodName) ∈ TB := cTB12 (i := 80) rfl rfl
theorem t_2721 : Jvm.Cond.selects "ExactlySaidModel" ({ cls := "ExactlySaidModel", name := "put", desc := "(I)I" } : Jvm.MethodName) ({ cls := "ExactlySaidModel", name := "put", desc := "(I)I" } : Jvm.MethodName) ∈ TB := cTB12 (i := 81) rfl rfl
theorem t_2722 : Jvm.Cond.code ({ cls := "ExactlySaidModel", name := "put", desc := "(I)I" } : Jvm.MethodName) prog_14_method_149_code (4 : Nat) (Option.some Jvm.ClassFile.FieldType.int) ∈ TB := cTB12 (i := 82) rfl rfl
theorem t_2723 : Jvm.Cond.methodLink "ExactlySaidModel" (595 : Nat) ({ cls := "ExactlySaidModel", name := "noRow", desc := "(I)Z" } : Jvm.MethodName) ∈ TB := cTB12 (i := 83) rfl rfl
theorem t_2725 : Jvm.Cond.instanceMethod ({ cls := "ExactlySaidModel", name := "noRow", desc := "(I)Z" } : Jvm.MethodName) ∈ TB := cTB12 (i := 85) rfl rfl
theorem t_2726 : Jvm.Cond.code ({ cls := "ExactlySaidModel", name := "noRow", desc := "(I)Z" } : Jvm.MethodName) prog_14_method_146_code (2 : Nat) (Option.some Jvm.ClassFile.FieldType.boolean) ∈ TB := cTB12 (i := 86) rfl rfl
theorem t_2727 : Jvm.Cond.methodLink "ExactlySaidModel" (598 : Nat) ({ cls := "ExactlySaidModel", name := "manyBelow", desc := "(I)I" } : Jvm.MethodName) ∈ TB := cTB12 (i := 87) rfl rfl
theorem t_2729 : Jvm.Cond.instanceMethod ({ cls := "ExactlySaidModel", name := "manyBelow", desc := "(I)I" } : Jvm.MethodName) ∈ TB := cTB12 (i := 89) rfl rfl
theorem t_2730 : Jvm.Cond.code ({ cls := "ExactlySaidModel", name := "manyBelow", desc := "(I)I" } : Jvm.MethodName) prog_14_method_147_code (4 : Nat) (Option.some Jvm.ClassFile.FieldType.int) ∈ TB := cTB12 (i := 90) rfl rfl
theorem t_2731 : Jvm.Cond.methodLink "ExactlySaidLaw" (252 : Nat) ({ cls := "ExactlySaidModel", name := "out", desc := "(I)I" } : Jvm.MethodName) ∈ TB := cTB12 (i := 91) rfl rfl
theorem t_2732 : Jvm.Cond.instanceMethod ({ cls := "ExactlySaidModel", name := "out", desc := "(I)I" } : Jvm.MethodName) ∈ TB := cTB12 (i := 92) rfl rfl
theorem t_2733 : Jvm.Cond.selects "ExactlySaidModel" ({ cls := "ExactlySaidModel", name := "out", desc := "(I)I" } : Jvm.MethodName) ({ cls := "ExactlySaidModel", name := "out", desc := "(I)I" } : Jvm.MethodName) ∈ TB := cTB12 (i := 93) rfl rfl
theorem t_2734 : Jvm.Cond.code ({ cls := "ExactlySaidModel", name := "out", desc := "(I)I" } : Jvm.MethodName) prog_14_method_150_code (4 : Nat) (Option.some Jvm.ClassFile.FieldType.int) ∈ TB := cTB12 (i := 94) rfl rfl
theorem t_2735 : Jvm.Cond.methodLink "ExactlySaidModel" (601 : Nat) ({ cls := "ExactlySaidModel", name := "manySame", desc := "(I)I" } : Jvm.MethodName) ∈ TB := cTB12 (i := 95) rfl rfl
theorem t_2737 : Jvm.Cond.instanceMethod ({ cls := "ExactlySaidModel", name := "manySame", desc := "(I)I" } : Jvm.MethodName) ∈ TB := cTB12 (i := 97) rfl rfl
theorem t_2738 : Jvm.Cond.code ({ cls := "ExactlySaidModel", name := "manySame", desc := "(I)I" } : Jvm.MethodName) prog_14_method_148_code (4 : Nat) (Option.some Jvm.ClassFile.FieldType.int) ∈ TB := cTB12 (i := 98) rfl rfl
theorem t_2739 : Jvm.Cond.methodLink "ExactlySaidLaw" (255 : Nat) ({ cls := "ExactlySaidModel", name := "empty", desc := "(I)I" } : Jvm.MethodName) ∈ TB := cTB12 (i := 99) rfl rfl
theorem t_2740 : Jvm.Cond.instanceMethod ({ cls := "ExactlySaidModel", name := "empty", desc := "(I)I" } : Jvm.MethodName) ∈ TB := cTB12 (i := 100) rfl rfl
theorem t_2741 : Jvm.Cond.selects "ExactlySaidModel" ({ cls := "ExactlySaidModel", name := "empty", desc := "(I)I" } : Jvm.MethodName) ({ cls := "ExactlySaidModel", name := "empty", desc := "(I)I" } : Jvm.MethodName) ∈ TB := cTB12 (i := 101) rfl rfl
theorem t_2742 : Jvm.Cond.code ({ cls := "ExactlySaidModel", name := "empty", desc := "(I)I" } : Jvm.MethodName) prog_14_method_151_code (3 : Nat) (Option.some Jvm.ClassFile.FieldType.int) ∈ TB := cTB12 (i := 102) rfl rfl
theorem t_2743 : Jvm.Cond.methodLink "ExactlySaidLaw" (258 : Nat) ({ cls := "ExactlySaidModel", name := "count", desc := "(IZ)I" } : Jvm.MethodName) ∈ TB := cTB12 (i := 103) rfl rfl
theorem t_2744 : Jvm.Cond.instanceMethod ({ cls := "ExactlySaidModel", name := "count", desc := "(IZ)I" } : Jvm.MethodName) ∈ TB := cTB12 (i := 104) rfl rfl
theorem t_2745 : Jvm.Cond.selects "ExactlySaidModel" ({ cls := "ExactlySaidModel", name := "count", desc := "(IZ)I" } : Jvm.MethodName) ({ cls := "ExactlySaidModel", name := "count", desc := "(IZ)I" } : Jvm.MethodName) ∈ TB := cTB12 (i := 105) rfl rfl
theorem t_2746 : Jvm.Cond.code ({ cls := "ExactlySaidModel", name := "count", desc := "(IZ)I" } : Jvm.MethodName) prog_14_method_152_code (3 : Nat) (Option.some Jvm.ClassFile.FieldType.int) ∈ TB := cTB12 (i := 106) rfl rfl
theorem t_2747 : Jvm.Cond.methodLink "ExactlySaidLaw" (261 : Nat) ({ cls := "ExactlySaidModel", name := "takeLeast", desc := "(II)I" } : Jvm.MethodName) ∈ TB := cTB12 (i := 107) rfl rfl
theorem t_2748 : Jvm.Cond.instanceMethod ({ cls := "ExactlySaidModel", name := "takeLeast", desc := "(II)I" } : Jvm.MethodName) ∈ TB := cTB12 (i := 108) rfl rfl
theorem t_2749 : Jvm.Cond.selects "ExactlySaidModel" ({ cls := "ExactlySaidModel", name := "takeLeast", desc := "(II)I" } : Jvm.MethodName) ({ cls := "ExactlySaidModel", name := "takeLeast", desc := "(II)I" } : Jvm.MethodName) ∈ TB := cTB12 (i := 109) rfl rfl
theorem t_2750 : Jvm.Cond.code ({ cls := "ExactlySaidModel", name := "takeLeast", desc := "(II)I" } : Jvm.MethodName) prog_14_method_153_code (3 : Nat) (Option.some Jvm.ClassFile.FieldType.int) ∈ TB := cTB12 (i := 110) rfl rfl
theorem t_2751 : Jvm.Cond.methodLink "ExactlySaidLaw" (264 : Nat) ({ cls := "ExactlySaidModel", name := "takeNext", desc := "(I)I" } : Jvm.MethodName) ∈ TB := cTB12 (i := 111) rfl rfl
theorem t_2752 : Jvm.Cond.instanceMethod ({ cls := "ExactlySaidModel", name := "takeNext", desc := "(I)I" } : Jvm.MethodName) ∈ TB := cTB12 (i := 112) rfl rfl
theorem t_2753 : Jvm.Cond.selects "ExactlySaidModel" ({ cls := "ExactlySaidModel", name := "takeNext", desc := "(I)I" } : Jvm.MethodName) ({ cls := "ExactlySaidModel", name := "takeNext", desc := "(I)I" } : Jvm.MethodName) ∈ TB := cTB12 (i := 113) rfl rfl
theorem t_2754 : Jvm.Cond.code ({ cls := "ExactlySaidModel", name := "takeNext", desc := "(I)I" } : Jvm.MethodName) prog_14_method_154_code (4 : Nat) (Option.some Jvm.ClassFile.FieldType.int) ∈ TB := cTB12 (i := 114) rfl rfl
theorem t_2755 : Jvm.Cond.methodLink "ExactlySaidLaw" (267 : Nat) ({ cls := "ExactlySaidModel", name := "takeAll", desc := "(II)I" } : Jvm.MethodName) ∈ TB := cTB12 (i := 115) rfl rfl
theorem t_2756 : Jvm.Cond.instanceMethod ({ cls := "ExactlySaidModel", name := "takeAll", desc := "(II)I" } : Jvm.MethodName) ∈ TB := cTB12 (i := 116) rfl rfl
theorem t_2757 : Jvm.Cond.selects "ExactlySaidModel" ({ cls := "ExactlySaidModel", name := "takeAll", desc := "(II)I" } : Jvm.MethodName) ({ cls := "ExactlySaidModel", name := "takeAll", desc := "(II)I" } : Jvm.MethodName) ∈ TB := cTB12 (i := 117) rfl rfl
theorem t_2758 : Jvm.Cond.code ({ cls := "ExactlySaidModel", name := "takeAll", desc := "(II)I" } : Jvm.MethodName) prog_14_method_156_code (5 : Nat) (Option.some Jvm.ClassFile.FieldType.int) ∈ TB := cTB12 (i := 118) rfl rfl
theorem t_2759 : Jvm.Cond.methodLink "ExactlySaidModel" (604 : Nat) ({ cls := "ExactlySaidModel", name := "joinsAll", desc := "(IZ)I" } : Jvm.MethodName) ∈ TB := cTB12 (i := 119) rfl rfl
theorem t_2761 : Jvm.Cond.instanceMethod ({ cls := "ExactlySaidModel", name := "joinsAll", desc := "(IZ)I" } : Jvm.MethodName) ∈ TB := cTB12 (i := 121) rfl rfl
theorem t_2762 : Jvm.Cond.code ({ cls := "ExactlySaidModel", name := "joinsAll", desc := "(IZ)I" } : Jvm.MethodName) prog_14_method_155_code (6 : Nat) (Option.some Jvm.ClassFile.FieldType.int) ∈ TB := cTB12 (i := 122) rfl rfl
theorem t_2763 : Jvm.Cond.methodLink "ExactlySaidLaw" (280 : Nat) ({ cls := "ExactlySaidModel", name := "meanDigits", desc := "()D" } : Jvm.MethodName) ∈ TB := cTB12 (i := 123) rfl rfl
theorem t_2764 : Jvm.Cond.instanceMethod ({ cls := "ExactlySaidModel", name := "meanDigits", desc := "()D" } : Jvm.MethodName) ∈ TB := cTB12 (i := 124) rfl rfl
theorem t_2765 : Jvm.Cond.selects "ExactlySaidModel" ({ cls := "ExactlySaidModel", name := "meanDigits", desc := "()D" } : Jvm.MethodName) ({ cls := "ExactlySaidModel", name := "meanDigits", desc := "()D" } : Jvm.MethodName) ∈ TB := cTB12 (i := 125) rfl rfl
theorem t_2766 : Jvm.Cond.code ({ cls := "ExactlySaidModel", name := "meanDigits", desc := "()D" } : Jvm.MethodName) prog_14_method_157_code (3 : Nat) (Option.some Jvm.ClassFile.FieldType.double) ∈ TB := cTB12 (i := 126) rfl rfl
theorem t_2767 : Jvm.Cond.methodLink "ExactlySaidLaw" (285 : Nat) ({ cls := "ExactlySaidModel", name := "wholes", desc := "()F" } : Jvm.MethodName) ∈ TB := cTB12 (i := 127) rfl rfl
theorem t_2768 : Jvm.Cond.instanceMethod ({ cls := "ExactlySaidModel", name := "wholes", desc := "()F" } : Jvm.MethodName) ∈ TB := cTB12 (i := 128) rfl rfl
theorem t_2769 : Jvm.Cond.selects "ExactlySaidModel" ({ cls := "ExactlySaidModel", name := "wholes", desc := "()F" } : Jvm.MethodName) ({ cls := "ExactlySaidModel", name := "wholes", desc := "()F" } : Jvm.MethodName) ∈ TB := cTB12 (i := 129) rfl rfl
theorem t_2770 : Jvm.Cond.code ({ cls := "ExactlySaidModel", name := "wholes", desc := "()F" } : Jvm.MethodName) prog_14_method_158_code (3 : Nat) (Option.some Jvm.ClassFile.FieldType.float) ∈ TB := cTB12 (i := 130) rfl rfl
theorem t_2771 : Jvm.Cond.constantFloat "ExactlySaidModel" (607 : Nat) (1092616192 : UInt32) ∈ TB := cTB12 (i := 131) rfl rfl
theorem t_2772 : Jvm.Cond.methodLink "ExactlySaidLaw" (289 : Nat) ({ cls := "ExactlySaidModel", name := "errors", desc := "()I" } : Jvm.MethodName) ∈ TB := cTB12 (i := 132) rfl rfl
theorem t_2773 : Jvm.Cond.instanceMethod ({ cls := "ExactlySaidModel", name := "errors", desc := "()I" } : Jvm.MethodName) ∈ TB := cTB12 (i := 133) rfl rfl
theorem t_2774 : Jvm.Cond.selects "ExactlySaidModel" ({ cls := "ExactlySaidModel", name := "errors", desc := "()I" } : Jvm.MethodName) ({ cls := "ExactlySaidModel", name := "errors", desc := "()I" } : Jvm.MethodName) ∈ TB := cTB12 (i := 134) rfl rfl
theorem t_2775 : Jvm.Cond.code ({ cls := "ExactlySaidModel", name := "errors", desc := "()I" } : Jvm.MethodName) prog_14_method_159_code (1 : Nat) (Option.some Jvm.ClassFile.FieldType.int) ∈ TB := cTB12 (i := 135) rfl rfl
theorem t_2776 : Jvm.Cond.arrayClass Jvm.ClassFile.FieldType.long ∈ TB := cTB12 (i := 136) rfl rfl
theorem t_2777 : Jvm.Cond.sameMethod "java/lang/AbstractStringBuilder" "java/lang/AbstractStringBuilder" "setLength" "(I)V" ∈ TB := cTB12 (i := 137) rfl rfl
theorem t_2780 : Jvm.Cond.sameMethod "java/lang/AbstractStringBuilder" "java/lang/AbstractStringBuilder" "ensureCapacityInternal" "(I)V" ∈ TB := cTB12 (i := 140) rfl rfl
theorem t_2781 : Jvm.Cond.sameMethod "java/lang/AbstractStringBuilder" "java/lang/AbstractStringBuilder" "newCapacity" "(I)I" ∈ TB := cTB12 (i := 141) rfl rfl
theorem t_2787 : Jvm.Cond.sameMethod "java/lang/AbstractStringBuilder" "java/lang/AbstractStringBuilder" "append" "(C)Ljava/lang/AbstractStringBuilder;" ∈ TB := cTB12 (i := 147) rfl rfl
theorem t_2788 : Jvm.Cond.selects "java/lang/StringBuilder" ({ cls := "java/lang/StringBuilder", name := "length", desc := "()I" } : Jvm.MethodName) ({ cls := "java/lang/StringBuilder", name := "length", desc := "()I" } : Jvm.MethodName) ∈ TB := cTB12 (i := 148) rfl rfl
theorem t_2789 : Jvm.Cond.sameMethod "java/lang/AbstractStringBuilder" "java/lang/AbstractStringBuilder" "charAt" "(I)C" ∈ TB := cTB12 (i := 149) rfl rfl
theorem s_X3_setSmall : Cond.selects yX3_setSmall.cls yX3_setSmall yX3_setSmall ∈ TB := TB_sel (q := (yX3_setSmall, 2)) (i := 0) (by decide +kernel)
theorem s_X12_trims : Cond.selects yX12_trims.cls yX12_trims yX12_trims ∈ TB := TB_sel (q := (yX12_trims, 83)) (i := 144) (by decide +kernel)
theorem s_X12_takes : Cond.selects yX12_takes.cls yX12_takes yX12_takes ∈ TB := TB_sel (q := (yX12_takes, 83)) (i := 147) (by decide +kernel)
theorem s_X12_shortens : Cond.selects yX12_shortens.cls yX12_shortens yX12_shortens ∈ TB := TB_sel (q := (yX12_shortens, 83)) (i := 143) (by decide +kernel)
theorem s_X12_digitAt : Cond.selects yX12_digitAt.cls yX12_digitAt yX12_digitAt ∈ TB := TB_sel (q := (yX12_digitAt, 83)) (i := 146) (by decide +kernel)
theorem s_X12_copies : Cond.selects yX12_copies.cls yX12_copies yX12_copies ∈ TB := TB_sel (q := (yX12_copies, 83)) (i := 140) (by decide +kernel)
theorem s_X12_compares : Cond.selects yX12_compares.cls yX12_compares yX12_compares ∈ TB := TB_sel (q := (yX12_compares, 83)) (i := 142) (by decide +kernel)
theorem s_X12_times : Cond.selects yX12_times.cls yX12_times yX12_times ∈ TB := TB_sel (q := (yX12_times, 83)) (i := 145) (by decide +kernel)
theorem s_X12_puts : Cond.selects yX12_puts.cls yX12_puts yX12_puts ∈ TB := TB_sel (q := (yX12_puts, 83)) (i := 136) (by decide +kernel)
theorem s_X12_divides : Cond.selects yX12_divides.cls yX12_divides yX12_divides ∈ TB := TB_sel (q := (yX12_divides, 83)) (i := 141) (by decide +kernel)
theorem s_X12_finds : Cond.selects yX12_finds.cls yX12_finds yX12_finds ∈ TB := TB_sel (q := (yX12_finds, 83)) (i := 139) (by decide +kernel)
theorem s_X12_limb : Cond.selects yX12_limb.cls yX12_limb yX12_limb ∈ TB := TB_sel (q := (yX12_limb, 83)) (i := 149) (by decide +kernel)
theorem s_X12_lowers : Cond.selects yX12_lowers.cls yX12_lowers yX12_lowers ∈ TB := TB_sel (q := (yX12_lowers, 83)) (i := 138) (by decide +kernel)
theorem s_X12_isSmall : Cond.selects yX12_isSmall.cls yX12_isSmall yX12_isSmall ∈ TB := TB_sel (q := (yX12_isSmall, 83)) (i := 148) (by decide +kernel)
theorem s_X12_newValue : Cond.selects yX12_newValue.cls yX12_newValue yX12_newValue ∈ TB := TB_sel (q := (yX12_newValue, 83)) (i := 135) (by decide +kernel)
theorem s_X12_lays : Cond.selects yX12_lays.cls yX12_lays yX12_lays ∈ TB := TB_sel (q := (yX12_lays, 83)) (i := 137) (by decide +kernel)
theorem s_X12_keepsWhole : Cond.selects yX12_keepsWhole.cls yX12_keepsWhole yX12_keepsWhole ∈ TB := TB_sel (q := (yX12_keepsWhole, 83)) (i := 134) (by decide +kernel)
theorem s_X11_lay : Cond.selects yX11_lay.cls yX11_lay yX11_lay ∈ TB := TB_sel (q := (yX11_lay, 19)) (i := 72) (by decide +kernel)
theorem s_X12_fails : Cond.selects yX12_fails.cls yX12_fails yX12_fails ∈ TB := TB_sel (q := (yX12_fails, 83)) (i := 150) (by decide +kernel)
theorem s_X12_takesBytes : Cond.selects yX12_takesBytes.cls yX12_takesBytes yX12_takesBytes ∈ TB := TB_sel (q := (yX12_takesBytes, 83)) (i := 151) (by decide +kernel)
theorem s_X4_byteAt : Cond.selects yX4_byteAt.cls yX4_byteAt yX4_byteAt ∈ TB := TB_sel (q := (yX4_byteAt, 19)) (i := 75) (by decide +kernel)
theorem s_X4_isLetter : Cond.selects yX4_isLetter.cls yX4_isLetter yX4_isLetter ∈ TB := TB_sel (q := (yX4_isLetter, 19)) (i := 77) (by decide +kernel)
theorem s_X4_isDigit : Cond.selects yX4_isDigit.cls yX4_isDigit yX4_isDigit ∈ TB := TB_sel (q := (yX4_isDigit, 19)) (i := 79) (by decide +kernel)
theorem s_X4_endOfDigits : Cond.selects yX4_endOfDigits.cls yX4_endOfDigits yX4_endOfDigits ∈ TB := TB_sel (q := (yX4_endOfDigits, 19)) (i := 81) (by decide +kernel)
theorem s_X4_endOfNumber : Cond.selects yX4_endOfNumber.cls yX4_endOfNumber yX4_endOfNumber ∈ TB := TB_sel (q := (yX4_endOfNumber, 19)) (i := 80) (by decide +kernel)
theorem s_X4_endOfWord : Cond.selects yX4_endOfWord.cls yX4_endOfWord yX4_endOfWord ∈ TB := TB_sel (q := (yX4_endOfWord, 19)) (i := 78) (by decide +kernel)
theorem s_X4_endOfToken : Cond.selects yX4_endOfToken.cls yX4_endOfToken yX4_endOfToken ∈ TB := TB_sel (q := (yX4_endOfToken, 19)) (i := 83) (by decide +kernel)
theorem s_X4_tokenFrom : Cond.selects yX4_tokenFrom.cls yX4_tokenFrom yX4_tokenFrom ∈ TB := TB_sel (q := (yX4_tokenFrom, 19)) (i := 76) (by decide +kernel)
theorem s_X4_wordFrom : Cond.selects yX4_wordFrom.cls yX4_wordFrom yX4_wordFrom ∈ TB := TB_sel (q := (yX4_wordFrom, 19)) (i := 82) (by decide +kernel)
theorem s_X4_tokenAt : Cond.selects yX4_tokenAt.cls yX4_tokenAt yX4_tokenAt ∈ TB := TB_sel (q := (yX4_tokenAt, 19)) (i := 86) (by decide +kernel)
theorem s_X4_wordAt : Cond.selects yX4_wordAt.cls yX4_wordAt yX4_wordAt ∈ TB := TB_sel (q := (yX4_wordAt, 19)) (i := 87) (by decide +kernel)
theorem s_X4_parameterOf : Cond.selects yX4_parameterOf.cls yX4_parameterOf yX4_parameterOf ∈ TB := TB_sel (q := (yX4_parameterOf, 19)) (i := 89) (by decide +kernel)
theorem s_X4_formAhead : Cond.selects yX4_formAhead.cls yX4_formAhead yX4_formAhead ∈ TB := TB_sel (q := (yX4_formAhead, 19)) (i := 85) (by decide +kernel)
theorem s_X4_startAt : Cond.selects yX4_startAt.cls yX4_startAt yX4_startAt ∈ TB := TB_sel (q := (yX4_startAt, 19)) (i := 88) (by decide +kernel)
theorem s_X4_emit : Cond.selects yX4_emit.cls yX4_emit yX4_emit ∈ TB := TB_sel (q := (yX4_emit, 19)) (i := 94) (by decide +kernel)
theorem s_X3_isZero : Cond.selects yX3_isZero.cls yX3_isZero yX3_isZero ∈ TB := TB_sel (q := (yX3_isZero, 2)) (i := 31) (by decide +kernel)
theorem s_X3_trim : Cond.selects yX3_trim.cls yX3_trim yX3_trim ∈ TB := TB_sel (q := (yX3_trim, 2)) (i := 19) (by decide +kernel)
theorem s_X3_lower : Cond.selects yX3_lower.cls yX3_lower yX3_lower ∈ TB := TB_sel (q := (yX3_lower, 2)) (i := 11) (by decide +kernel)
theorem s_X5_takeOff : Cond.selects yX5_takeOff.cls yX5_takeOff yX5_takeOff ∈ TB := TB_sel (q := (yX5_takeOff, 17)) (i := 23) (by decide +kernel)
theorem s_X3_setTo : Cond.selects yX3_setTo.cls yX3_setTo yX3_setTo ∈ TB := TB_sel (q := (yX3_setTo, 2)) (i := 9) (by decide +kernel)
theorem s_X3_against : Cond.selects yX3_against.cls yX3_against yX3_against ∈ TB := TB_sel (q := (yX3_against, 2)) (i := 17) (by decide +kernel)
theorem s_X3_raise : Cond.selects yX3_raise.cls yX3_raise yX3_raise ∈ TB := TB_sel (q := (yX3_raise, 2)) (i := 16) (by decide +kernel)
theorem s_X5_divide : Cond.selects yX5_divide.cls yX5_divide yX5_divide ∈ TB := TB_sel (q := (yX5_divide, 17)) (i := 22) (by decide +kernel)
theorem s_X3_asLong : Cond.selects yX3_asLong.cls yX3_asLong yX3_asLong ∈ TB := TB_sel (q := (yX3_asLong, 2)) (i := 14) (by decide +kernel)
theorem s_X3_isLong : Cond.selects yX3_isLong.cls yX3_isLong yX3_isLong ∈ TB := TB_sel (q := (yX3_isLong, 2)) (i := 13) (by decide +kernel)
theorem s_X5_gcd : Cond.selects yX5_gcd.cls yX5_gcd yX5_gcd ∈ TB := TB_sel (q := (yX5_gcd, 17)) (i := 37) (by decide +kernel)
theorem s_X1_setSign : Cond.selects yX1_setSign.cls yX1_setSign yX1_setSign ∈ TB := TB_sel (q := (yX1_setSign, 3)) (i := 32) (by decide +kernel)
theorem s_X5_reduce : Cond.selects yX5_reduce.cls yX5_reduce yX5_reduce ∈ TB := TB_sel (q := (yX5_reduce, 17)) (i := 58) (by decide +kernel)
theorem s_X4_numberFrom : Cond.selects yX4_numberFrom.cls yX4_numberFrom yX4_numberFrom ∈ TB := TB_sel (q := (yX4_numberFrom, 19)) (i := 99) (by decide +kernel)
theorem s_X4_readProduct : Cond.selects yX4_readProduct.cls yX4_readProduct yX4_readProduct ∈ TB := TB_sel (q := (yX4_readProduct, 19)) (i := 91) (by decide +kernel)
theorem s_X4_readMinus : Cond.selects yX4_readMinus.cls yX4_readMinus yX4_readMinus ∈ TB := TB_sel (q := (yX4_readMinus, 19)) (i := 92) (by decide +kernel)
theorem s_X4_readOpened : Cond.selects yX4_readOpened.cls yX4_readOpened yX4_readOpened ∈ TB := TB_sel (q := (yX4_readOpened, 19)) (i := 93) (by decide +kernel)
theorem s_X4_readPlain : Cond.selects yX4_readPlain.cls yX4_readPlain yX4_readPlain ∈ TB := TB_sel (q := (yX4_readPlain, 19)) (i := 95) (by decide +kernel)
theorem s_X4_readSum : Cond.selects yX4_readSum.cls yX4_readSum yX4_readSum ∈ TB := TB_sel (q := (yX4_readSum, 19)) (i := 90) (by decide +kernel)
theorem s_X4_readWord : Cond.selects yX4_readWord.cls yX4_readWord yX4_readWord ∈ TB := TB_sel (q := (yX4_readWord, 19)) (i := 97) (by decide +kernel)
theorem s_X4_readCall : Cond.selects yX4_readCall.cls yX4_readCall yX4_readCall ∈ TB := TB_sel (q := (yX4_readCall, 19)) (i := 96) (by decide +kernel)
theorem s_X4_findTokens : Cond.selects yX4_findTokens.cls yX4_findTokens yX4_findTokens ∈ TB := TB_sel (q := (yX4_findTokens, 19)) (i := 74) (by decide +kernel)
theorem s_X4_head : Cond.selects yX4_head.cls yX4_head yX4_head ∈ TB := TB_sel (q := (yX4_head, 19)) (i := 84) (by decide +kernel)
theorem s_X4_readNumbers : Cond.selects yX4_readNumbers.cls yX4_readNumbers yX4_readNumbers ∈ TB := TB_sel (q := (yX4_readNumbers, 19)) (i := 98) (by decide +kernel)
theorem s_X0_toldAt : Cond.selects yX0_toldAt.cls yX0_toldAt yX0_toldAt ∈ TB := TB_sel (q := (yX0_toldAt, 4)) (i := 50) (by decide +kernel)
theorem s_X0_find : Cond.selects yX0_find.cls yX0_find yX0_find ∈ TB := TB_sel (q := (yX0_find, 4)) (i := 26) (by decide +kernel)
theorem s_X0_parametersOf : Cond.selects yX0_parametersOf.cls yX0_parametersOf yX0_parametersOf ∈ TB := TB_sel (q := (yX0_parametersOf, 4)) (i := 103) (by decide +kernel)
theorem s_X0_isKnown : Cond.selects yX0_isKnown.cls yX0_isKnown yX0_isKnown ∈ TB := TB_sel (q := (yX0_isKnown, 4)) (i := 102) (by decide +kernel)
theorem s_X0_isUsing : Cond.selects yX0_isUsing.cls yX0_isUsing yX0_isUsing ∈ TB := TB_sel (q := (yX0_isUsing, 4)) (i := 27) (by decide +kernel)
theorem s_X0_isUsed : Cond.selects yX0_isUsed.cls yX0_isUsed yX0_isUsed ∈ TB := TB_sel (q := (yX0_isUsed, 4)) (i := 106) (by decide +kernel)
theorem s_X0_firstTowards : Cond.selects yX0_firstTowards.cls yX0_firstTowards yX0_firstTowards ∈ TB := TB_sel (q := (yX0_firstTowards, 4)) (i := 110) (by decide +kernel)
theorem s_X0_signedWordOf : Cond.selects yX0_signedWordOf.cls yX0_signedWordOf yX0_signedWordOf ∈ TB := TB_sel (q := (yX0_signedWordOf, 4)) (i := 112) (by decide +kernel)
theorem s_X0_directFrom : Cond.selects yX0_directFrom.cls yX0_directFrom yX0_directFrom ∈ TB := TB_sel (q := (yX0_directFrom, 4)) (i := 113) (by decide +kernel)
theorem s_X0_usedBy : Cond.selects yX0_usedBy.cls yX0_usedBy yX0_usedBy ∈ TB := TB_sel (q := (yX0_usedBy, 4)) (i := 108) (by decide +kernel)
theorem s_X0_leadsTo : Cond.selects yX0_leadsTo.cls yX0_leadsTo yX0_leadsTo ∈ TB := TB_sel (q := (yX0_leadsTo, 4)) (i := 109) (by decide +kernel)
theorem s_X11_refuse : Cond.selects yX11_refuse.cls yX11_refuse yX11_refuse ∈ TB := TB_sel (q := (yX11_refuse, 19)) (i := 104) (by decide +kernel)
theorem s_X11_traceRing : Cond.selects yX11_traceRing.cls yX11_traceRing yX11_traceRing ∈ TB := TB_sel (q := (yX11_traceRing, 19)) (i := 111) (by decide +kernel)
theorem s_X11_isTaken : Cond.selects yX11_isTaken.cls yX11_isTaken yX11_isTaken ∈ TB := TB_sel (q := (yX11_isTaken, 19)) (i := 105) (by decide +kernel)
theorem s_X11_isFull : Cond.selects yX11_isFull.cls yX11_isFull yX11_isFull ∈ TB := TB_sel (q := (yX11_isFull, 19)) (i := 107) (by decide +kernel)
theorem s_X11_present : Cond.selects yX11_present.cls yX11_present yX11_present ∈ TB := TB_sel (q := (yX11_present, 19)) (i := 25) (by decide +kernel)
theorem s_X0_firstUnknown : Cond.selects yX0_firstUnknown.cls yX0_firstUnknown yX0_firstUnknown ∈ TB := TB_sel (q := (yX0_firstUnknown, 4)) (i := 101) (by decide +kernel)
theorem s_X1_setTo : Cond.selects yX1_setTo.cls yX1_setTo yX1_setTo ∈ TB := TB_sel (q := (yX1_setTo, 3)) (i := 35) (by decide +kernel)
theorem s_X2_push : Cond.selects yX2_push.cls yX2_push yX2_push ∈ TB := TB_sel (q := (yX2_push, 9)) (i := 49) (by decide +kernel)
theorem s_X8_note : Cond.selects yX8_note.cls yX8_note yX8_note ∈ TB := TB_sel (q := (yX8_note, 3)) (i := 48) (by decide +kernel)
theorem s_X2_finish : Cond.selects yX2_finish.cls yX2_finish yX2_finish ∈ TB := TB_sel (q := (yX2_finish, 9)) (i := 47) (by decide +kernel)
theorem s_X2_begin : Cond.selects yX2_begin.cls yX2_begin yX2_begin ∈ TB := TB_sel (q := (yX2_begin, 9)) (i := 45) (by decide +kernel)
theorem s_X3_isOne : Cond.selects yX3_isOne.cls yX3_isOne yX3_isOne ∈ TB := TB_sel (q := (yX3_isOne, 2)) (i := 7) (by decide +kernel)
theorem s_X1_isWhole : Cond.selects yX1_isWhole.cls yX1_isWhole yX1_isWhole ∈ TB := TB_sel (q := (yX1_isWhole, 3)) (i := 6) (by decide +kernel)
theorem s_X3_limb : Cond.selects yX3_limb.cls yX3_limb yX3_limb ∈ TB := TB_sel (q := (yX3_limb, 2)) (i := 5) (by decide +kernel)
theorem s_X3_minus : Cond.selects yX3_minus.cls yX3_minus yX3_minus ∈ TB := TB_sel (q := (yX3_minus, 2)) (i := 18) (by decide +kernel)
theorem s_X3_plus : Cond.selects yX3_plus.cls yX3_plus yX3_plus ∈ TB := TB_sel (q := (yX3_plus, 2)) (i := 40) (by decide +kernel)
theorem s_X5_join : Cond.selects yX5_join.cls yX5_join yX5_join ∈ TB := TB_sel (q := (yX5_join, 17)) (i := 39) (by decide +kernel)
theorem s_X3_setProduct : Cond.selects yX3_setProduct.cls yX3_setProduct yX3_setProduct ∈ TB := TB_sel (q := (yX3_setProduct, 2)) (i := 38) (by decide +kernel)
theorem s_X3_fits : Cond.selects yX3_fits.cls yX3_fits yX3_fits ∈ TB := TB_sel (q := (yX3_fits, 2)) (i := 42) (by decide +kernel)
theorem s_X5_multiplyOften : Cond.selects yX5_multiplyOften.cls yX5_multiplyOften yX5_multiplyOften ∈ TB := TB_sel (q := (yX5_multiplyOften, 17)) (i := 60) (by decide +kernel)
theorem s_X3_isMultiple : Cond.selects yX3_isMultiple.cls yX3_isMultiple yX3_isMultiple ∈ TB := TB_sel (q := (yX3_isMultiple, 2)) (i := 10) (by decide +kernel)
theorem s_X5_order : Cond.selects yX5_order.cls yX5_order yX5_order ∈ TB := TB_sel (q := (yX5_order, 17)) (i := 66) (by decide +kernel)
theorem s_X5_add : Cond.selects yX5_add.cls yX5_add yX5_add ∈ TB := TB_sel (q := (yX5_add, 17)) (i := 36) (by decide +kernel)
theorem s_X5_round : Cond.selects yX5_round.cls yX5_round yX5_round ∈ TB := TB_sel (q := (yX5_round, 17)) (i := 30) (by decide +kernel)
theorem s_X1_setWhole : Cond.selects yX1_setWhole.cls yX1_setWhole yX1_setWhole ∈ TB := TB_sel (q := (yX1_setWhole, 3)) (i := 65) (by decide +kernel)
theorem s_X5_multiply : Cond.selects yX5_multiply.cls yX5_multiply yX5_multiply ∈ TB := TB_sel (q := (yX5_multiply, 17)) (i := 55) (by decide +kernel)
theorem s_X5_inverse : Cond.selects yX5_inverse.cls yX5_inverse yX5_inverse ∈ TB := TB_sel (q := (yX5_inverse, 17)) (i := 56) (by decide +kernel)
theorem s_X5_remain : Cond.selects yX5_remain.cls yX5_remain yX5_remain ∈ TB := TB_sel (q := (yX5_remain, 17)) (i := 57) (by decide +kernel)
theorem s_X5_power : Cond.selects yX5_power.cls yX5_power yX5_power ∈ TB := TB_sel (q := (yX5_power, 17)) (i := 59) (by decide +kernel)
theorem s_X5_factorial : Cond.selects yX5_factorial.cls yX5_factorial yX5_factorial ∈ TB := TB_sel (q := (yX5_factorial, 17)) (i := 61) (by decide +kernel)
theorem s_X5_commonDivisor : Cond.selects yX5_commonDivisor.cls yX5_commonDivisor yX5_commonDivisor ∈ TB := TB_sel (q := (yX5_commonDivisor, 17)) (i := 62) (by decide +kernel)
theorem s_X5_commonMultiple : Cond.selects yX5_commonMultiple.cls yX5_commonMultiple yX5_commonMultiple ∈ TB := TB_sel (q := (yX5_commonMultiple, 17)) (i := 63) (by decide +kernel)
theorem s_X5_mediate : Cond.selects yX5_mediate.cls yX5_mediate yX5_mediate ∈ TB := TB_sel (q := (yX5_mediate, 17)) (i := 64) (by decide +kernel)
theorem s_X2_objection : Cond.selects yX2_objection.cls yX2_objection yX2_objection ∈ TB := TB_sel (q := (yX2_objection, 9)) (i := 53) (by decide +kernel)
theorem s_X2_calculate : Cond.selects yX2_calculate.cls yX2_calculate yX2_calculate ∈ TB := TB_sel (q := (yX2_calculate, 9)) (i := 54) (by decide +kernel)
theorem s_X1_fits : Cond.selects yX1_fits.cls yX1_fits yX1_fits ∈ TB := TB_sel (q := (yX1_fits, 3)) (i := 41) (by decide +kernel)
theorem s_X2_valueAt : Cond.selects yX2_valueAt.cls yX2_valueAt yX2_valueAt ∈ TB := TB_sel (q := (yX2_valueAt, 9)) (i := 52) (by decide +kernel)
theorem s_X2_enter : Cond.selects yX2_enter.cls yX2_enter yX2_enter ∈ TB := TB_sel (q := (yX2_enter, 9)) (i := 51) (by decide +kernel)
theorem s_X2_leave : Cond.selects yX2_leave.cls yX2_leave yX2_leave ∈ TB := TB_sel (q := (yX2_leave, 9)) (i := 46) (by decide +kernel)
theorem s_X2_work : Cond.selects yX2_work.cls yX2_work yX2_work ∈ TB := TB_sel (q := (yX2_work, 9)) (i := 44) (by decide +kernel)
theorem s_X10_key : Cond.selects yX10_key.cls yX10_key yX10_key ∈ TB := TB_sel (q := (yX10_key, 4)) (i := 117) (by decide +kernel)
theorem s_X0_weave : Cond.selects yX0_weave.cls yX0_weave yX0_weave ∈ TB := TB_sel (q := (yX0_weave, 4)) (i := 118) (by decide +kernel)
theorem s_X0_firstReady : Cond.selects yX0_firstReady.cls yX0_firstReady yX0_firstReady ∈ TB := TB_sel (q := (yX0_firstReady, 4)) (i := 119) (by decide +kernel)
theorem s_X0_usersOf : Cond.selects yX0_usersOf.cls yX0_usersOf yX0_usersOf ∈ TB := TB_sel (q := (yX0_usersOf, 4)) (i := 28) (by decide +kernel)
theorem s_X0_with : Cond.selects yX0_with.cls yX0_with yX0_with ∈ TB := TB_sel (q := (yX0_with, 4)) (i := 116) (by decide +kernel)
theorem s_X11_bookWith : Cond.selects yX11_bookWith.cls yX11_bookWith yX11_bookWith ∈ TB := TB_sel (q := (yX11_bookWith, 19)) (i := 115) (by decide +kernel)
theorem s_X11_change : Cond.selects yX11_change.cls yX11_change yX11_change ∈ TB := TB_sel (q := (yX11_change, 19)) (i := 120) (by decide +kernel)
theorem s_X4_read : Cond.selects yX4_read.cls yX4_read yX4_read ∈ TB := TB_sel (q := (yX4_read, 19)) (i := 73) (by decide +kernel)
theorem s_X11_isRefusedAhead : Cond.selects yX11_isRefusedAhead.cls yX11_isRefusedAhead yX11_isRefusedAhead ∈ TB := TB_sel (q := (yX11_isRefusedAhead, 19)) (i := 100) (by decide +kernel)
theorem s_X11_isRefusedAtWork : Cond.selects yX11_isRefusedAtWork.cls yX11_isRefusedAtWork yX11_isRefusedAtWork ∈ TB := TB_sel (q := (yX11_isRefusedAtWork, 19)) (i := 114) (by decide +kernel)
theorem s_X12_hasDigit : Cond.selects yX12_hasDigit.cls yX12_hasDigit yX12_hasDigit ∈ TB := TB_sel (q := (yX12_hasDigit, 83)) (i := 159) (by decide +kernel)
theorem s_X12_hasByte : Cond.selects yX12_hasByte.cls yX12_hasByte yX12_hasByte ∈ TB := TB_sel (q := (yX12_hasByte, 83)) (i := 155) (by decide +kernel)
theorem s_X12_endOfDigits : Cond.selects yX12_endOfDigits.cls yX12_endOfDigits yX12_endOfDigits ∈ TB := TB_sel (q := (yX12_endOfDigits, 83)) (i := 158) (by decide +kernel)
theorem s_X12_readsNumber : Cond.selects yX12_readsNumber.cls yX12_readsNumber yX12_readsNumber ∈ TB := TB_sel (q := (yX12_readsNumber, 83)) (i := 157) (by decide +kernel)
theorem s_X12_readsWord : Cond.selects yX12_readsWord.cls yX12_readsWord yX12_readsWord ∈ TB := TB_sel (q := (yX12_readsWord, 83)) (i := 156) (by decide +kernel)
theorem s_X12_reads : Cond.selects yX12_reads.cls yX12_reads yX12_reads ∈ TB := TB_sel (q := (yX12_reads, 83)) (i := 154) (by decide +kernel)
theorem s_X12_isNow : Cond.selects yX12_isNow.cls yX12_isNow yX12_isNow ∈ TB := TB_sel (q := (yX12_isNow, 83)) (i := 160) (by decide +kernel)
theorem s_X12_adds : Cond.selects yX12_adds.cls yX12_adds yX12_adds ∈ TB := TB_sel (q := (yX12_adds, 83)) (i := 165) (by decide +kernel)
theorem s_X12_keepsMade : Cond.selects yX12_keepsMade.cls yX12_keepsMade yX12_keepsMade ∈ TB := TB_sel (q := (yX12_keepsMade, 83)) (i := 168) (by decide +kernel)
theorem s_X12_multiplies : Cond.selects yX12_multiplies.cls yX12_multiplies yX12_multiplies ∈ TB := TB_sel (q := (yX12_multiplies, 83)) (i := 167) (by decide +kernel)
theorem s_X12_takesAway : Cond.selects yX12_takesAway.cls yX12_takesAway yX12_takesAway ∈ TB := TB_sel (q := (yX12_takesAway, 83)) (i := 166) (by decide +kernel)
theorem s_X12_waitsFor : Cond.selects yX12_waitsFor.cls yX12_waitsFor yX12_waitsFor ∈ TB := TB_sel (q := (yX12_waitsFor, 83)) (i := 170) (by decide +kernel)
theorem s_X12_makes : Cond.selects yX12_makes.cls yX12_makes yX12_makes ∈ TB := TB_sel (q := (yX12_makes, 83)) (i := 169) (by decide +kernel)
theorem s_X12_makesNumber : Cond.selects yX12_makesNumber.cls yX12_makesNumber yX12_makesNumber ∈ TB := TB_sel (q := (yX12_makesNumber, 83)) (i := 164) (by decide +kernel)
theorem s_X12_settles : Cond.selects yX12_settles.cls yX12_settles yX12_settles ∈ TB := TB_sel (q := (yX12_settles, 83)) (i := 173) (by decide +kernel)
theorem s_X12_signOf : Cond.selects yX12_signOf.cls yX12_signOf yX12_signOf ∈ TB := TB_sel (q := (yX12_signOf, 83)) (i := 174) (by decide +kernel)
theorem s_X12_closes : Cond.selects yX12_closes.cls yX12_closes yX12_closes ∈ TB := TB_sel (q := (yX12_closes, 83)) (i := 172) (by decide +kernel)
theorem s_X12_readsBehind : Cond.selects yX12_readsBehind.cls yX12_readsBehind yX12_readsBehind ∈ TB := TB_sel (q := (yX12_readsBehind, 83)) (i := 171) (by decide +kernel)
theorem s_X12_readsOperand : Cond.selects yX12_readsOperand.cls yX12_readsOperand yX12_readsOperand ∈ TB := TB_sel (q := (yX12_readsOperand, 83)) (i := 163) (by decide +kernel)
theorem s_X12_readsSum : Cond.selects yX12_readsSum.cls yX12_readsSum yX12_readsSum ∈ TB := TB_sel (q := (yX12_readsSum, 83)) (i := 162) (by decide +kernel)
theorem s_X12_isTelling : Cond.selects yX12_isTelling.cls yX12_isTelling yX12_isTelling ∈ TB := TB_sel (q := (yX12_isTelling, 83)) (i := 153) (by decide +kernel)
theorem s_X12_readsHead : Cond.selects yX12_readsHead.cls yX12_readsHead yX12_readsHead ∈ TB := TB_sel (q := (yX12_readsHead, 83)) (i := 161) (by decide +kernel)
theorem s_X12_thing : Cond.selects yX12_thing.cls yX12_thing yX12_thing ∈ TB := TB_sel (q := (yX12_thing, 83)) (i := 178) (by decide +kernel)
theorem s_X12_valuesOf : Cond.selects yX12_valuesOf.cls yX12_valuesOf yX12_valuesOf ∈ TB := TB_sel (q := (yX12_valuesOf, 83)) (i := 179) (by decide +kernel)
theorem s_X12_isThere : Cond.selects yX12_isThere.cls yX12_isThere yX12_isThere ∈ TB := TB_sel (q := (yX12_isThere, 83)) (i := 182) (by decide +kernel)
theorem s_X12_hasDirectly : Cond.selects yX12_hasDirectly.cls yX12_hasDirectly yX12_hasDirectly ∈ TB := TB_sel (q := (yX12_hasDirectly, 83)) (i := 185) (by decide +kernel)
theorem s_X12_findsUsed : Cond.selects yX12_findsUsed.cls yX12_findsUsed yX12_findsUsed ∈ TB := TB_sel (q := (yX12_findsUsed, 83)) (i := 184) (by decide +kernel)
theorem s_X12_doesUse : Cond.selects yX12_doesUse.cls yX12_doesUse yX12_doesUse ∈ TB := TB_sel (q := (yX12_doesUse, 83)) (i := 183) (by decide +kernel)
theorem s_X12_refuses : Cond.selects yX12_refuses.cls yX12_refuses yX12_refuses ∈ TB := TB_sel (q := (yX12_refuses, 83)) (i := 180) (by decide +kernel)
theorem s_X12_leads : Cond.selects yX12_leads.cls yX12_leads yX12_leads ∈ TB := TB_sel (q := (yX12_leads, 83)) (i := 186) (by decide +kernel)
theorem s_X12_users : Cond.selects yX12_users.cls yX12_users yX12_users ∈ TB := TB_sel (q := (yX12_users, 83)) (i := 181) (by decide +kernel)
theorem s_X12_unknownAt : Cond.selects yX12_unknownAt.cls yX12_unknownAt yX12_unknownAt ∈ TB := TB_sel (q := (yX12_unknownAt, 83)) (i := 177) (by decide +kernel)
theorem s_X12_asInt : Cond.selects yX12_asInt.cls yX12_asInt yX12_asInt ∈ TB := TB_sel (q := (yX12_asInt, 83)) (i := 192) (by decide +kernel)
theorem s_X12_isWhole : Cond.selects yX12_isWhole.cls yX12_isWhole yX12_isWhole ∈ TB := TB_sel (q := (yX12_isWhole, 83)) (i := 191) (by decide +kernel)
theorem s_X12_loads : Cond.selects yX12_loads.cls yX12_loads yX12_loads ∈ TB := TB_sel (q := (yX12_loads, 83)) (i := 196) (by decide +kernel)
theorem s_X12_joins : Cond.selects yX12_joins.cls yX12_joins yX12_joins ∈ TB := TB_sel (q := (yX12_joins, 83)) (i := 197) (by decide +kernel)
theorem s_X12_loadsBoth : Cond.selects yX12_loadsBoth.cls yX12_loadsBoth yX12_loadsBoth ∈ TB := TB_sel (q := (yX12_loadsBoth, 83)) (i := 195) (by decide +kernel)
theorem s_X12_sums : Cond.selects yX12_sums.cls yX12_sums yX12_sums ∈ TB := TB_sel (q := (yX12_sums, 83)) (i := 194) (by decide +kernel)
theorem s_X12_products : Cond.selects yX12_products.cls yX12_products yX12_products ∈ TB := TB_sel (q := (yX12_products, 83)) (i := 198) (by decide +kernel)
theorem s_X12_factors : Cond.selects yX12_factors.cls yX12_factors yX12_factors ∈ TB := TB_sel (q := (yX12_factors, 83)) (i := 202) (by decide +kernel)
theorem s_X12_rounds : Cond.selects yX12_rounds.cls yX12_rounds yX12_rounds ∈ TB := TB_sel (q := (yX12_rounds, 83)) (i := 203) (by decide +kernel)
theorem s_X12_copiesPart : Cond.selects yX12_copiesPart.cls yX12_copiesPart yX12_copiesPart ∈ TB := TB_sel (q := (yX12_copiesPart, 83)) (i := 205) (by decide +kernel)
theorem s_X12_order : Cond.selects yX12_order.cls yX12_order yX12_order ∈ TB := TB_sel (q := (yX12_order, 83)) (i := 204) (by decide +kernel)
theorem s_X12_multipliesAll : Cond.selects yX12_multipliesAll.cls yX12_multipliesAll yX12_multipliesAll ∈ TB := TB_sel (q := (yX12_multipliesAll, 83)) (i := 201) (by decide +kernel)
theorem s_X12_powers : Cond.selects yX12_powers.cls yX12_powers yX12_powers ∈ TB := TB_sel (q := (yX12_powers, 83)) (i := 200) (by decide +kernel)
theorem s_X12_remains : Cond.selects yX12_remains.cls yX12_remains yX12_remains ∈ TB := TB_sel (q := (yX12_remains, 83)) (i := 199) (by decide +kernel)
theorem s_X12_cause : Cond.selects yX12_cause.cls yX12_cause yX12_cause ∈ TB := TB_sel (q := (yX12_cause, 83)) (i := 190) (by decide +kernel)
theorem s_X12_works : Cond.selects yX12_works.cls yX12_works yX12_works ∈ TB := TB_sel (q := (yX12_works, 83)) (i := 193) (by decide +kernel)
theorem s_X12_refusedStep : Cond.selects yX12_refusedStep.cls yX12_refusedStep yX12_refusedStep ∈ TB := TB_sel (q := (yX12_refusedStep, 83)) (i := 188) (by decide +kernel)
theorem s_X12_does : Cond.selects yX12_does.cls yX12_does yX12_does ∈ TB := TB_sel (q := (yX12_does, 83)) (i := 189) (by decide +kernel)
theorem s_X12_copiesValue : Cond.selects yX12_copiesValue.cls yX12_copiesValue yX12_copiesValue ∈ TB := TB_sel (q := (yX12_copiesValue, 83)) (i := 207) (by decide +kernel)
theorem s_X12_writesState : Cond.selects yX12_writesState.cls yX12_writesState yX12_writesState ∈ TB := TB_sel (q := (yX12_writesState, 83)) (i := 210) (by decide +kernel)
theorem s_X12_worked : Cond.selects yX12_worked.cls yX12_worked yX12_worked ∈ TB := TB_sel (q := (yX12_worked, 83)) (i := 187) (by decide +kernel)
theorem s_X12_keeps : Cond.selects yX12_keeps.cls yX12_keeps yX12_keeps ∈ TB := TB_sel (q := (yX12_keeps, 83)) (i := 206) (by decide +kernel)
theorem s_X12_readsState : Cond.selects yX12_readsState.cls yX12_readsState yX12_readsState ∈ TB := TB_sel (q := (yX12_readsState, 83)) (i := 215) (by decide +kernel)
theorem s_X12_remembers : Cond.selects yX12_remembers.cls yX12_remembers yX12_remembers ∈ TB := TB_sel (q := (yX12_remembers, 83)) (i := 208) (by decide +kernel)
theorem s_X12_saves : Cond.selects yX12_saves.cls yX12_saves yX12_saves ∈ TB := TB_sel (q := (yX12_saves, 83)) (i := 209) (by decide +kernel)
theorem s_X12_placed : Cond.selects yX12_placed.cls yX12_placed yX12_placed ∈ TB := TB_sel (q := (yX12_placed, 83)) (i := 211) (by decide +kernel)
theorem s_X12_renews : Cond.selects yX12_renews.cls yX12_renews yX12_renews ∈ TB := TB_sel (q := (yX12_renews, 83)) (i := 212) (by decide +kernel)
theorem s_X12_changes : Cond.selects yX12_changes.cls yX12_changes yX12_changes ∈ TB := TB_sel (q := (yX12_changes, 83)) (i := 216) (by decide +kernel)
theorem s_X12_recalls : Cond.selects yX12_recalls.cls yX12_recalls yX12_recalls ∈ TB := TB_sel (q := (yX12_recalls, 83)) (i := 213) (by decide +kernel)
theorem s_X12_forgets : Cond.selects yX12_forgets.cls yX12_forgets yX12_forgets ∈ TB := TB_sel (q := (yX12_forgets, 83)) (i := 214) (by decide +kernel)
theorem s_X12_isRefused : Cond.selects yX12_isRefused.cls yX12_isRefused yX12_isRefused ∈ TB := TB_sel (q := (yX12_isRefused, 83)) (i := 176) (by decide +kernel)
theorem s_X12_isDone : Cond.selects yX12_isDone.cls yX12_isDone yX12_isDone ∈ TB := TB_sel (q := (yX12_isDone, 83)) (i := 175) (by decide +kernel)
theorem s_X12_readsLine : Cond.selects yX12_readsLine.cls yX12_readsLine yX12_readsLine ∈ TB := TB_sel (q := (yX12_readsLine, 83)) (i := 152) (by decide +kernel)
theorem s_X11_partOfAnswer : Cond.selects yX11_partOfAnswer.cls yX11_partOfAnswer yX11_partOfAnswer ∈ TB := TB_sel (q := (yX11_partOfAnswer, 19)) (i := 1) (by decide +kernel)
theorem s_X3_digitCount : Cond.selects yX3_digitCount.cls yX3_digitCount yX3_digitCount ∈ TB := TB_sel (q := (yX3_digitCount, 2)) (i := 2) (by decide +kernel)
theorem s_X12_writes : Cond.selects yX12_writes.cls yX12_writes yX12_writes ∈ TB := TB_sel (q := (yX12_writes, 83)) (i := 219) (by decide +kernel)
theorem s_X12_writesNumber : Cond.selects yX12_writesNumber.cls yX12_writesNumber yX12_writesNumber ∈ TB := TB_sel (q := (yX12_writesNumber, 83)) (i := 218) (by decide +kernel)
theorem s_X12_drafts : Cond.selects yX12_drafts.cls yX12_drafts yX12_drafts ∈ TB := TB_sel (q := (yX12_drafts, 83)) (i := 217) (by decide +kernel)
theorem s_X3_digitAt : Cond.selects yX3_digitAt.cls yX3_digitAt yX3_digitAt ∈ TB := TB_sel (q := (yX3_digitAt, 2)) (i := 4) (by decide +kernel)
theorem s_X5_lengthRepeating_ : Cond.selects yX5_lengthRepeating_.cls yX5_lengthRepeating_ yX5_lengthRepeating_ ∈ TB := TB_sel (q := (yX5_lengthRepeating_, 17)) (i := 15) (by decide +kernel)
theorem s_X5_nextDecimals : Cond.selects yX5_nextDecimals.cls yX5_nextDecimals yX5_nextDecimals ∈ TB := TB_sel (q := (yX5_nextDecimals, 17)) (i := 24) (by decide +kernel)
theorem s_X5_startDecimals : Cond.selects yX5_startDecimals.cls yX5_startDecimals yX5_startDecimals ∈ TB := TB_sel (q := (yX5_startDecimals, 17)) (i := 21) (by decide +kernel)
theorem s_X5_lengthAhead : Cond.selects yX5_lengthAhead.cls yX5_lengthAhead yX5_lengthAhead ∈ TB := TB_sel (q := (yX5_lengthAhead, 17)) (i := 8) (by decide +kernel)
theorem s_X5_lengthRepeating : Cond.selects yX5_lengthRepeating.cls yX5_lengthRepeating yX5_lengthRepeating ∈ TB := TB_sel (q := (yX5_lengthRepeating, 17)) (i := 12) (by decide +kernel)
theorem s_X11_writeDecimals : Cond.selects yX11_writeDecimals.cls yX11_writeDecimals yX11_writeDecimals ∈ TB := TB_sel (q := (yX11_writeDecimals, 19)) (i := 20) (by decide +kernel)
theorem s_X12_isOne : Cond.selects yX12_isOne.cls yX12_isOne yX12_isOne ∈ TB := TB_sel (q := (yX12_isOne, 83)) (i := 222) (by decide +kernel)
theorem s_X12_aheadLength : Cond.selects yX12_aheadLength.cls yX12_aheadLength yX12_aheadLength ∈ TB := TB_sel (q := (yX12_aheadLength, 83)) (i := 220) (by decide +kernel)
theorem s_X12_nextDecimal : Cond.selects yX12_nextDecimal.cls yX12_nextDecimal yX12_nextDecimal ∈ TB := TB_sel (q := (yX12_nextDecimal, 83)) (i := 224) (by decide +kernel)
theorem s_X12_writesDecimals : Cond.selects yX12_writesDecimals.cls yX12_writesDecimals yX12_writesDecimals ∈ TB := TB_sel (q := (yX12_writesDecimals, 83)) (i := 223) (by decide +kernel)
theorem s_X12_repeats : Cond.selects yX12_repeats.cls yX12_repeats yX12_repeats ∈ TB := TB_sel (q := (yX12_repeats, 83)) (i := 221) (by decide +kernel)
theorem s_X11_isSlot : Cond.selects yX11_isSlot.cls yX11_isSlot yX11_isSlot ∈ TB := TB_sel (q := (yX11_isSlot, 19)) (i := 121) (by decide +kernel)
theorem s_X12_noSlot : Cond.selects yX12_noSlot.cls yX12_noSlot yX12_noSlot ∈ TB := TB_sel (q := (yX12_noSlot, 83)) (i := 225) (by decide +kernel)
theorem s_X12_becomes : Cond.selects yX12_becomes.cls yX12_becomes yX12_becomes ∈ TB := TB_sel (q := (yX12_becomes, 83)) (i := 226) (by decide +kernel)
theorem s_X0_without : Cond.selects yX0_without.cls yX0_without yX0_without ∈ TB := TB_sel (q := (yX0_without, 4)) (i := 122) (by decide +kernel)
theorem s_X12_noStep : Cond.selects yX12_noStep.cls yX12_noStep yX12_noStep ∈ TB := TB_sel (q := (yX12_noStep, 83)) (i := 227) (by decide +kernel)
theorem s_X11_takeCopy : Cond.selects yX11_takeCopy.cls yX11_takeCopy yX11_takeCopy ∈ TB := TB_sel (q := (yX11_takeCopy, 19)) (i := 123) (by decide +kernel)
theorem s_X5_setAboveFloor : Cond.selects yX5_setAboveFloor.cls yX5_setAboveFloor yX5_setAboveFloor ∈ TB := TB_sel (q := (yX5_setAboveFloor, 17)) (i := 33) (by decide +kernel)
theorem s_X5_continuedForm : Cond.selects yX5_continuedForm.cls yX5_continuedForm yX5_continuedForm ∈ TB := TB_sel (q := (yX5_continuedForm, 17)) (i := 29) (by decide +kernel)
theorem s_X12_continues : Cond.selects yX12_continues.cls yX12_continues yX12_continues ∈ TB := TB_sel (q := (yX12_continues, 83)) (i := 228) (by decide +kernel)
theorem s_X5_addSmall : Cond.selects yX5_addSmall.cls yX5_addSmall yX5_addSmall ∈ TB := TB_sel (q := (yX5_addSmall, 17)) (i := 125) (by decide +kernel)
theorem s_X5_bestWithin : Cond.selects yX5_bestWithin.cls yX5_bestWithin yX5_bestWithin ∈ TB := TB_sel (q := (yX5_bestWithin, 17)) (i := 124) (by decide +kernel)
theorem s_X12_looks : Cond.selects yX12_looks.cls yX12_looks yX12_looks ∈ TB := TB_sel (q := (yX12_looks, 83)) (i := 229) (by decide +kernel)
theorem s_X5_unitFractions : Cond.selects yX5_unitFractions.cls yX5_unitFractions yX5_unitFractions ∈ TB := TB_sel (q := (yX5_unitFractions, 17)) (i := 34) (by decide +kernel)
theorem s_X12_findsUnits : Cond.selects yX12_findsUnits.cls yX12_findsUnits yX12_findsUnits ∈ TB := TB_sel (q := (yX12_findsUnits, 83)) (i := 230) (by decide +kernel)
theorem s_X11_isRow : Cond.selects yX11_isRow.cls yX11_isRow yX11_isRow ∈ TB := TB_sel (q := (yX11_isRow, 19)) (i := 126) (by decide +kernel)
theorem s_X5_countBelow : Cond.selects yX5_countBelow.cls yX5_countBelow yX5_countBelow ∈ TB := TB_sel (q := (yX5_countBelow, 17)) (i := 127) (by decide +kernel)
theorem s_X6_with : Cond.selects yX6_with.cls yX6_with yX6_with ∈ TB := TB_sel (q := (yX6_with, 1)) (i := 128) (by decide +kernel)
theorem s_X7_withRow : Cond.selects yX7_withRow.cls yX7_withRow yX7_withRow ∈ TB := TB_sel (q := (yX7_withRow, 2)) (i := 129) (by decide +kernel)
theorem s_X12_manyBelow : Cond.selects yX12_manyBelow.cls yX12_manyBelow yX12_manyBelow ∈ TB := TB_sel (q := (yX12_manyBelow, 83)) (i := 232) (by decide +kernel)
theorem s_X12_noRow : Cond.selects yX12_noRow.cls yX12_noRow yX12_noRow ∈ TB := TB_sel (q := (yX12_noRow, 83)) (i := 231) (by decide +kernel)
theorem s_X1_isSame : Cond.selects yX1_isSame.cls yX1_isSame yX1_isSame ∈ TB := TB_sel (q := (yX1_isSame, 3)) (i := 67) (by decide +kernel)
theorem s_X6_countSame : Cond.selects yX6_countSame.cls yX6_countSame yX6_countSame ∈ TB := TB_sel (q := (yX6_countSame, 1)) (i := 130) (by decide +kernel)
theorem s_X6_without : Cond.selects yX6_without.cls yX6_without yX6_without ∈ TB := TB_sel (q := (yX6_without, 1)) (i := 131) (by decide +kernel)
theorem s_X12_manySame : Cond.selects yX12_manySame.cls yX12_manySame yX12_manySame ∈ TB := TB_sel (q := (yX12_manySame, 83)) (i := 233) (by decide +kernel)
theorem s_X5_totalOf : Cond.selects yX5_totalOf.cls yX5_totalOf yX5_totalOf ∈ TB := TB_sel (q := (yX5_totalOf, 17)) (i := 133) (by decide +kernel)
theorem s_X5_meanOf : Cond.selects yX5_meanOf.cls yX5_meanOf yX5_meanOf ∈ TB := TB_sel (q := (yX5_meanOf, 17)) (i := 132) (by decide +kernel)
theorem s_X12_joinsAll : Cond.selects yX12_joinsAll.cls yX12_joinsAll yX12_joinsAll ∈ TB := TB_sel (q := (yX12_joinsAll, 83)) (i := 234) (by decide +kernel)
theorem s_X5_isLawful : Cond.selects yX5_isLawful.cls yX5_isLawful yX5_isLawful ∈ TB := TB_sel (q := (yX5_isLawful, 17)) (i := 69) (by decide +kernel)
theorem s_X11_readFraction : Cond.selects yX11_readFraction.cls yX11_readFraction yX11_readFraction ∈ TB := TB_sel (q := (yX11_readFraction, 19)) (i := 71) (by decide +kernel)
theorem s_X11_wrongNames : Cond.selects yX11_wrongNames.cls yX11_wrongNames yX11_wrongNames ∈ TB := TB_sel (q := (yX11_wrongNames, 19)) (i := 43) (by decide +kernel)
theorem s_X11_wrongPairs : Cond.selects yX11_wrongPairs.cls yX11_wrongPairs yX11_wrongPairs ∈ TB := TB_sel (q := (yX11_wrongPairs, 19)) (i := 68) (by decide +kernel)
theorem s_X11_wrongTexts : Cond.selects yX11_wrongTexts.cls yX11_wrongTexts yX11_wrongTexts ∈ TB := TB_sel (q := (yX11_wrongTexts, 19)) (i := 70) (by decide +kernel)
