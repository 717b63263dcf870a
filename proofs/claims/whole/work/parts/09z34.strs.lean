/-! Strings. -/
def rn_String : String := "java/lang/String"
def rn_Preconditions : String := "jdk/internal/util/Preconditions"
def rn_StringLatin1 : String := "java/lang/StringLatin1"
theorem wn_1_20 : (Jvm.Cond.initialized "java/util/Arrays") ∈ xw_G := xw_c1 (List.mem_of_getElem? (i := 20) rfl) rfl
theorem wn_1_21 : (Jvm.Cond.initialized "java/lang/String") ∈ xw_G := xw_c1 (List.mem_of_getElem? (i := 21) rfl) rfl
theorem wn_1_22 : (Jvm.Cond.initialized "java/lang/StringLatin1") ∈ xw_G := xw_c1 (List.mem_of_getElem? (i := 22) rfl) rfl
theorem wn_1_23 : (Jvm.Cond.initialized "jdk/internal/util/Preconditions") ∈ xw_G := xw_c1 (List.mem_of_getElem? (i := 23) rfl) rfl
theorem wn_3_187 : (Jvm.Cond.methodLink "CircuitCycles$Scanner" (56 : Nat) ({ cls := "java/util/Arrays", name := "fill", desc := "([II)V" } : Jvm.MethodName)) ∈ xw_G := xw_c3 (List.mem_of_getElem? (i := 187) rfl) rfl
theorem wn_3_188 : (Jvm.Cond.static ({ cls := "java/util/Arrays", name := "fill", desc := "([II)V" } : Jvm.MethodName)) ∈ xw_G := xw_c3 (List.mem_of_getElem? (i := 188) rfl) rfl
theorem wn_3_189 : (Jvm.Cond.code ({ cls := "java/util/Arrays", name := "fill", desc := "([II)V" } : Jvm.MethodName) prog_29_method_103_code (4 : Nat) (Option.none : Option Jvm.ClassFile.FieldType)) ∈ xw_G := xw_c3 (List.mem_of_getElem? (i := 189) rfl) rfl
theorem wn_3_190 : (Jvm.Cond.methodLink "CircuitCycles$Scanner" (65 : Nat) ({ cls := "CircuitCycles$Scanner", name := "skipped", desc := "(I)I" } : Jvm.MethodName)) ∈ xw_G := xw_c3 (List.mem_of_getElem? (i := 190) rfl) rfl
theorem wn_3_192 : (Jvm.Cond.instanceMethod ({ cls := "CircuitCycles$Scanner", name := "skipped", desc := "(I)I" } : Jvm.MethodName)) ∈ xw_G := xw_c3 (List.mem_of_getElem? (i := 192) rfl) rfl
theorem wn_3_193 : (Jvm.Cond.code ({ cls := "CircuitCycles$Scanner", name := "skipped", desc := "(I)I" } : Jvm.MethodName) prog_11_method_4_code (4 : Nat) (Option.some Jvm.ClassFile.FieldType.int)) ∈ xw_G := xw_c3 (List.mem_of_getElem? (i := 193) rfl) rfl
theorem wn_3_198 : (Jvm.Cond.methodLink "CircuitCycles$Scanner" (69 : Nat) ({ cls := "CircuitCycles$Scanner", name := "token", desc := "(I)I" } : Jvm.MethodName)) ∈ xw_G := xw_c3 (List.mem_of_getElem? (i := 198) rfl) rfl
theorem wn_3_200 : (Jvm.Cond.instanceMethod ({ cls := "CircuitCycles$Scanner", name := "token", desc := "(I)I" } : Jvm.MethodName)) ∈ xw_G := xw_c3 (List.mem_of_getElem? (i := 200) rfl) rfl
theorem wn_3_201 : (Jvm.Cond.code ({ cls := "CircuitCycles$Scanner", name := "token", desc := "(I)I" } : Jvm.MethodName) prog_11_method_5_code (4 : Nat) (Option.some Jvm.ClassFile.FieldType.int)) ∈ xw_G := xw_c3 (List.mem_of_getElem? (i := 201) rfl) rfl
theorem wn_3_205 : (Jvm.Cond.methodLink "CircuitCycles$Scanner" (83 : Nat) ({ cls := "CircuitCycles$Scanner", name := "word", desc := "(I)I" } : Jvm.MethodName)) ∈ xw_G := xw_c3 (List.mem_of_getElem? (i := 205) rfl) rfl
theorem wn_3_207 : (Jvm.Cond.instanceMethod ({ cls := "CircuitCycles$Scanner", name := "word", desc := "(I)I" } : Jvm.MethodName)) ∈ xw_G := xw_c3 (List.mem_of_getElem? (i := 207) rfl) rfl
theorem wn_3_208 : (Jvm.Cond.code ({ cls := "CircuitCycles$Scanner", name := "word", desc := "(I)I" } : Jvm.MethodName) prog_11_method_7_code (6 : Nat) (Option.some Jvm.ClassFile.FieldType.int)) ∈ xw_G := xw_c3 (List.mem_of_getElem? (i := 208) rfl) rfl
theorem wn_3_224 : (Jvm.Cond.methodLink "CircuitCycles$Scanner" (109 : Nat) ({ cls := "CircuitCycles$Scanner", name := "added", desc := "(III)I" } : Jvm.MethodName)) ∈ xw_G := xw_c3 (List.mem_of_getElem? (i := 224) rfl) rfl
theorem wn_3_226 : (Jvm.Cond.instanceMethod ({ cls := "CircuitCycles$Scanner", name := "added", desc := "(III)I" } : Jvm.MethodName)) ∈ xw_G := xw_c3 (List.mem_of_getElem? (i := 226) rfl) rfl
theorem wn_3_227 : (Jvm.Cond.code ({ cls := "CircuitCycles$Scanner", name := "added", desc := "(III)I" } : Jvm.MethodName) prog_11_method_10_code (4 : Nat) (Option.some Jvm.ClassFile.FieldType.int)) ∈ xw_G := xw_c3 (List.mem_of_getElem? (i := 227) rfl) rfl
theorem wn_3_228 : (Jvm.Cond.methodLink "CircuitCycles$Scanner" (116 : Nat) ({ cls := "CircuitCycles$Scanner", name := "kindOf", desc := "(II)I" } : Jvm.MethodName)) ∈ xw_G := xw_c3 (List.mem_of_getElem? (i := 228) rfl) rfl
theorem wn_3_230 : (Jvm.Cond.instanceMethod ({ cls := "CircuitCycles$Scanner", name := "kindOf", desc := "(II)I" } : Jvm.MethodName)) ∈ xw_G := xw_c3 (List.mem_of_getElem? (i := 230) rfl) rfl
theorem wn_3_231 : (Jvm.Cond.code ({ cls := "CircuitCycles$Scanner", name := "kindOf", desc := "(II)I" } : Jvm.MethodName) prog_11_method_11_code (6 : Nat) (Option.some Jvm.ClassFile.FieldType.int)) ∈ xw_G := xw_c3 (List.mem_of_getElem? (i := 231) rfl) rfl
theorem wn_3_233 : (Jvm.Cond.methodLink "CircuitCycles$Scanner" (121 : Nat) ({ cls := "java/lang/String", name := "length", desc := "()I" } : Jvm.MethodName)) ∈ xw_G := xw_c3 (List.mem_of_getElem? (i := 233) rfl) rfl
theorem wn_3_234 : (Jvm.Cond.instanceMethod ({ cls := "java/lang/String", name := "length", desc := "()I" } : Jvm.MethodName)) ∈ xw_G := xw_c3 (List.mem_of_getElem? (i := 234) rfl) rfl
theorem wn_3_235 : (Jvm.Cond.selects "java/lang/String" ({ cls := "java/lang/String", name := "length", desc := "()I" } : Jvm.MethodName) ({ cls := "java/lang/String", name := "length", desc := "()I" } : Jvm.MethodName)) ∈ xw_G := xw_c3 (List.mem_of_getElem? (i := 235) rfl) rfl
theorem wn_3_236 : (Jvm.Cond.code ({ cls := "java/lang/String", name := "length", desc := "()I" } : Jvm.MethodName) prog_23_method_54_code (1 : Nat) (Option.some Jvm.ClassFile.FieldType.int)) ∈ xw_G := xw_c3 (List.mem_of_getElem? (i := 236) rfl) rfl
theorem wn_3_237 : (Jvm.Cond.methodLink "java/lang/String" (335 : Nat) ({ cls := "java/lang/String", name := "coder", desc := "()B" } : Jvm.MethodName)) ∈ xw_G := xw_c3 (List.mem_of_getElem? (i := 237) rfl) rfl
theorem wn_3_238 : (Jvm.Cond.instanceMethod ({ cls := "java/lang/String", name := "coder", desc := "()B" } : Jvm.MethodName)) ∈ xw_G := xw_c3 (List.mem_of_getElem? (i := 238) rfl) rfl
theorem wn_3_239 : (Jvm.Cond.selects "java/lang/String" ({ cls := "java/lang/String", name := "coder", desc := "()B" } : Jvm.MethodName) ({ cls := "java/lang/String", name := "coder", desc := "()B" } : Jvm.MethodName)) ∈ xw_G := xw_c3 (List.mem_of_getElem? (i := 239) rfl) rfl
theorem wn_4_0 : (Jvm.Cond.code ({ cls := "java/lang/String", name := "coder", desc := "()B" } : Jvm.MethodName) prog_23_method_152_code (1 : Nat) (Option.some Jvm.ClassFile.FieldType.byte)) ∈ xw_G := xw_c4 (List.mem_of_getElem? (i := 0) rfl) rfl
theorem wn_4_1 : (Jvm.Cond.fieldLink "java/lang/String" (38 : Nat) "java/lang/String" "COMPACT_STRINGS" "Z") ∈ xw_G := xw_c4 (List.mem_of_getElem? (i := 1) rfl) rfl
theorem wn_4_3 : (Jvm.Cond.methodLink "CircuitCycles$Scanner" (124 : Nat) ({ cls := "java/lang/String", name := "charAt", desc := "(I)C" } : Jvm.MethodName)) ∈ xw_G := xw_c4 (List.mem_of_getElem? (i := 3) rfl) rfl
theorem wn_4_4 : (Jvm.Cond.instanceMethod ({ cls := "java/lang/String", name := "charAt", desc := "(I)C" } : Jvm.MethodName)) ∈ xw_G := xw_c4 (List.mem_of_getElem? (i := 4) rfl) rfl
theorem wn_4_5 : (Jvm.Cond.selects "java/lang/String" ({ cls := "java/lang/String", name := "charAt", desc := "(I)C" } : Jvm.MethodName) ({ cls := "java/lang/String", name := "charAt", desc := "(I)C" } : Jvm.MethodName)) ∈ xw_G := xw_c4 (List.mem_of_getElem? (i := 5) rfl) rfl
theorem wn_4_6 : (Jvm.Cond.code ({ cls := "java/lang/String", name := "charAt", desc := "(I)C" } : Jvm.MethodName) prog_23_method_56_code (2 : Nat) (Option.some Jvm.ClassFile.FieldType.char)) ∈ xw_G := xw_c4 (List.mem_of_getElem? (i := 6) rfl) rfl
theorem wn_4_7 : (Jvm.Cond.methodLink "java/lang/String" (492 : Nat) ({ cls := "java/lang/String", name := "isLatin1", desc := "()Z" } : Jvm.MethodName)) ∈ xw_G := xw_c4 (List.mem_of_getElem? (i := 7) rfl) rfl
theorem wn_4_8 : (Jvm.Cond.instanceMethod ({ cls := "java/lang/String", name := "isLatin1", desc := "()Z" } : Jvm.MethodName)) ∈ xw_G := xw_c4 (List.mem_of_getElem? (i := 8) rfl) rfl
theorem wn_4_9 : (Jvm.Cond.selects "java/lang/String" ({ cls := "java/lang/String", name := "isLatin1", desc := "()Z" } : Jvm.MethodName) ({ cls := "java/lang/String", name := "isLatin1", desc := "()Z" } : Jvm.MethodName)) ∈ xw_G := xw_c4 (List.mem_of_getElem? (i := 9) rfl) rfl
theorem wn_4_10 : (Jvm.Cond.code ({ cls := "java/lang/String", name := "isLatin1", desc := "()Z" } : Jvm.MethodName) prog_23_method_154_code (1 : Nat) (Option.some Jvm.ClassFile.FieldType.boolean)) ∈ xw_G := xw_c4 (List.mem_of_getElem? (i := 10) rfl) rfl
theorem wn_4_11 : (Jvm.Cond.methodLink "java/lang/String" (495 : Nat) ({ cls := "java/lang/StringLatin1", name := "charAt", desc := "([BI)C" } : Jvm.MethodName)) ∈ xw_G := xw_c4 (List.mem_of_getElem? (i := 11) rfl) rfl
theorem wn_4_12 : (Jvm.Cond.static ({ cls := "java/lang/StringLatin1", name := "charAt", desc := "([BI)C" } : Jvm.MethodName)) ∈ xw_G := xw_c4 (List.mem_of_getElem? (i := 12) rfl) rfl
theorem wn_4_13 : (Jvm.Cond.code ({ cls := "java/lang/StringLatin1", name := "charAt", desc := "([BI)C" } : Jvm.MethodName) prog_24_method_2_code (2 : Nat) (Option.some Jvm.ClassFile.FieldType.char)) ∈ xw_G := xw_c4 (List.mem_of_getElem? (i := 13) rfl) rfl
theorem wn_4_14 : (Jvm.Cond.methodLink "java/lang/StringLatin1" (9 : Nat) ({ cls := "java/lang/String", name := "checkIndex", desc := "(II)V" } : Jvm.MethodName)) ∈ xw_G := xw_c4 (List.mem_of_getElem? (i := 14) rfl) rfl
theorem wn_4_15 : (Jvm.Cond.static ({ cls := "java/lang/String", name := "checkIndex", desc := "(II)V" } : Jvm.MethodName)) ∈ xw_G := xw_c4 (List.mem_of_getElem? (i := 15) rfl) rfl
theorem wn_4_16 : (Jvm.Cond.code ({ cls := "java/lang/String", name := "checkIndex", desc := "(II)V" } : Jvm.MethodName) prog_23_method_155_code (2 : Nat) (Option.none : Option Jvm.ClassFile.FieldType)) ∈ xw_G := xw_c4 (List.mem_of_getElem? (i := 16) rfl) rfl
theorem wn_4_17 : (Jvm.Cond.fieldLink "java/lang/String" (1053 : Nat) "jdk/internal/util/Preconditions" "SIOOBE_FORMATTER" "Ljava/util/function/BiFunction;") ∈ xw_G := xw_c4 (List.mem_of_getElem? (i := 17) rfl) rfl
theorem wn_4_19 : (Jvm.Cond.methodLink "java/lang/String" (1059 : Nat) ({ cls := "jdk/internal/util/Preconditions", name := "checkIndex", desc := "(IILjava/util/function/BiFunction;)I" } : Jvm.MethodName)) ∈ xw_G := xw_c4 (List.mem_of_getElem? (i := 19) rfl) rfl
theorem wn_4_20 : (Jvm.Cond.static ({ cls := "jdk/internal/util/Preconditions", name := "checkIndex", desc := "(IILjava/util/function/BiFunction;)I" } : Jvm.MethodName)) ∈ xw_G := xw_c4 (List.mem_of_getElem? (i := 20) rfl) rfl
theorem wn_4_21 : (Jvm.Cond.code ({ cls := "jdk/internal/util/Preconditions", name := "checkIndex", desc := "(IILjava/util/function/BiFunction;)I" } : Jvm.MethodName) prog_30_method_11_code (3 : Nat) (Option.some Jvm.ClassFile.FieldType.int)) ∈ xw_G := xw_c4 (List.mem_of_getElem? (i := 21) rfl) rfl
theorem wn_4_41 : (Jvm.Cond.methodLink "CircuitCycles$Scanner" (128 : Nat) ({ cls := "CircuitCycles$Scanner", name := "spells", desc := "(III)Z" } : Jvm.MethodName)) ∈ xw_G := xw_c4 (List.mem_of_getElem? (i := 41) rfl) rfl
theorem wn_4_43 : (Jvm.Cond.instanceMethod ({ cls := "CircuitCycles$Scanner", name := "spells", desc := "(III)Z" } : Jvm.MethodName)) ∈ xw_G := xw_c4 (List.mem_of_getElem? (i := 43) rfl) rfl
theorem wn_4_44 : (Jvm.Cond.code ({ cls := "CircuitCycles$Scanner", name := "spells", desc := "(III)Z" } : Jvm.MethodName) prog_11_method_12_code (5 : Nat) (Option.some Jvm.ClassFile.FieldType.boolean)) ∈ xw_G := xw_c4 (List.mem_of_getElem? (i := 44) rfl) rfl
theorem wn_4_50 : (Jvm.Cond.methodLink "CircuitCycles$Scanner" (89 : Nat) ({ cls := "CircuitCycles$Scanner", name := "number", desc := "(I)I" } : Jvm.MethodName)) ∈ xw_G := xw_c4 (List.mem_of_getElem? (i := 50) rfl) rfl
theorem wn_4_52 : (Jvm.Cond.instanceMethod ({ cls := "CircuitCycles$Scanner", name := "number", desc := "(I)I" } : Jvm.MethodName)) ∈ xw_G := xw_c4 (List.mem_of_getElem? (i := 52) rfl) rfl
theorem wn_4_53 : (Jvm.Cond.code ({ cls := "CircuitCycles$Scanner", name := "number", desc := "(I)I" } : Jvm.MethodName) prog_11_method_13_code (5 : Nat) (Option.some Jvm.ClassFile.FieldType.int)) ∈ xw_G := xw_c4 (List.mem_of_getElem? (i := 53) rfl) rfl
theorem wn_4_83 : (Jvm.Cond.methodLink "CircuitCycles$Scanner" (97 : Nat) ({ cls := "java/lang/String", name := "indexOf", desc := "(I)I" } : Jvm.MethodName)) ∈ xw_G := xw_c4 (List.mem_of_getElem? (i := 83) rfl) rfl
theorem wn_4_84 : (Jvm.Cond.instanceMethod ({ cls := "java/lang/String", name := "indexOf", desc := "(I)I" } : Jvm.MethodName)) ∈ xw_G := xw_c4 (List.mem_of_getElem? (i := 84) rfl) rfl
theorem wn_4_85 : (Jvm.Cond.selects "java/lang/String" ({ cls := "java/lang/String", name := "indexOf", desc := "(I)I" } : Jvm.MethodName) ({ cls := "java/lang/String", name := "indexOf", desc := "(I)I" } : Jvm.MethodName)) ∈ xw_G := xw_c4 (List.mem_of_getElem? (i := 85) rfl) rfl
theorem wn_4_86 : (Jvm.Cond.code ({ cls := "java/lang/String", name := "indexOf", desc := "(I)I" } : Jvm.MethodName) prog_23_method_79_code (2 : Nat) (Option.some Jvm.ClassFile.FieldType.int)) ∈ xw_G := xw_c4 (List.mem_of_getElem? (i := 86) rfl) rfl
theorem wn_4_87 : (Jvm.Cond.methodLink "java/lang/String" (633 : Nat) ({ cls := "java/lang/String", name := "indexOf", desc := "(II)I" } : Jvm.MethodName)) ∈ xw_G := xw_c4 (List.mem_of_getElem? (i := 87) rfl) rfl
theorem wn_4_88 : (Jvm.Cond.instanceMethod ({ cls := "java/lang/String", name := "indexOf", desc := "(II)I" } : Jvm.MethodName)) ∈ xw_G := xw_c4 (List.mem_of_getElem? (i := 88) rfl) rfl
theorem wn_4_89 : (Jvm.Cond.selects "java/lang/String" ({ cls := "java/lang/String", name := "indexOf", desc := "(II)I" } : Jvm.MethodName) ({ cls := "java/lang/String", name := "indexOf", desc := "(II)I" } : Jvm.MethodName)) ∈ xw_G := xw_c4 (List.mem_of_getElem? (i := 89) rfl) rfl
theorem wn_4_90 : (Jvm.Cond.code ({ cls := "java/lang/String", name := "indexOf", desc := "(II)I" } : Jvm.MethodName) prog_23_method_80_code (3 : Nat) (Option.some Jvm.ClassFile.FieldType.int)) ∈ xw_G := xw_c4 (List.mem_of_getElem? (i := 90) rfl) rfl
theorem wn_4_91 : (Jvm.Cond.methodLink "java/lang/String" (505 : Nat) ({ cls := "java/lang/String", name := "length", desc := "()I" } : Jvm.MethodName)) ∈ xw_G := xw_c4 (List.mem_of_getElem? (i := 91) rfl) rfl
theorem wn_4_92 : (Jvm.Cond.methodLink "java/lang/String" (637 : Nat) ({ cls := "java/lang/StringLatin1", name := "indexOf", desc := "([BIII)I" } : Jvm.MethodName)) ∈ xw_G := xw_c4 (List.mem_of_getElem? (i := 92) rfl) rfl
theorem wn_4_93 : (Jvm.Cond.static ({ cls := "java/lang/StringLatin1", name := "indexOf", desc := "([BIII)I" } : Jvm.MethodName)) ∈ xw_G := xw_c4 (List.mem_of_getElem? (i := 93) rfl) rfl
theorem wn_4_94 : (Jvm.Cond.code ({ cls := "java/lang/StringLatin1", name := "indexOf", desc := "([BIII)I" } : Jvm.MethodName) prog_24_method_22_code (4 : Nat) (Option.some Jvm.ClassFile.FieldType.int)) ∈ xw_G := xw_c4 (List.mem_of_getElem? (i := 94) rfl) rfl
theorem wn_4_95 : (Jvm.Cond.methodLink "java/lang/StringLatin1" (88 : Nat) ({ cls := "java/lang/StringLatin1", name := "canEncode", desc := "(I)Z" } : Jvm.MethodName)) ∈ xw_G := xw_c4 (List.mem_of_getElem? (i := 95) rfl) rfl
theorem wn_4_96 : (Jvm.Cond.static ({ cls := "java/lang/StringLatin1", name := "canEncode", desc := "(I)Z" } : Jvm.MethodName)) ∈ xw_G := xw_c4 (List.mem_of_getElem? (i := 96) rfl) rfl
theorem wn_4_97 : (Jvm.Cond.code ({ cls := "java/lang/StringLatin1", name := "canEncode", desc := "(I)Z" } : Jvm.MethodName) prog_24_method_4_code (1 : Nat) (Option.some Jvm.ClassFile.FieldType.boolean)) ∈ xw_G := xw_c4 (List.mem_of_getElem? (i := 97) rfl) rfl
theorem wn_4_98 : (Jvm.Cond.methodLink "java/lang/StringLatin1" (92 : Nat) ({ cls := "java/lang/Math", name := "max", desc := "(II)I" } : Jvm.MethodName)) ∈ xw_G := xw_c4 (List.mem_of_getElem? (i := 98) rfl) rfl
theorem wn_4_101 : (Jvm.Cond.methodLink "java/lang/StringLatin1" (38 : Nat) ({ cls := "java/lang/Math", name := "min", desc := "(II)I" } : Jvm.MethodName)) ∈ xw_G := xw_c4 (List.mem_of_getElem? (i := 101) rfl) rfl
theorem wn_4_102 : (Jvm.Cond.methodLink "java/lang/StringLatin1" (95 : Nat) ({ cls := "java/lang/StringLatin1", name := "indexOfChar", desc := "([BIII)I" } : Jvm.MethodName)) ∈ xw_G := xw_c4 (List.mem_of_getElem? (i := 102) rfl) rfl
theorem wn_4_103 : (Jvm.Cond.static ({ cls := "java/lang/StringLatin1", name := "indexOfChar", desc := "([BIII)I" } : Jvm.MethodName)) ∈ xw_G := xw_c4 (List.mem_of_getElem? (i := 103) rfl) rfl
theorem wn_4_104 : (Jvm.Cond.code ({ cls := "java/lang/StringLatin1", name := "indexOfChar", desc := "([BIII)I" } : Jvm.MethodName) prog_24_method_23_code (6 : Nat) (Option.some Jvm.ClassFile.FieldType.int)) ∈ xw_G := xw_c4 (List.mem_of_getElem? (i := 104) rfl) rfl
theorem wn_11_68 : (Jvm.Cond.fieldLink "java/lang/String" (9 : Nat) "java/lang/String" "value" "[B") ∈ xw_G := xw_c11 (List.mem_of_getElem? (i := 68) rfl) rfl
theorem wn_11_69 : (Jvm.Cond.fieldLink "java/lang/String" (15 : Nat) "java/lang/String" "coder" "B") ∈ xw_G := xw_c11 (List.mem_of_getElem? (i := 69) rfl) rfl
def yn_Preconditions_checkIndex : MethodName := ⟨rn_Preconditions, "checkIndex", "(IILjava/util/function/BiFunction;)I"⟩
abbrev bn_Preconditions_checkIndex : ByteArray := prog_30_method_11_code
def yn_StringLatin1_canEncode : MethodName := ⟨rn_StringLatin1, "canEncode", "(I)Z"⟩
abbrev bn_StringLatin1_canEncode : ByteArray := prog_24_method_4_code
def yn_StringLatin1_charAt : MethodName := ⟨rn_StringLatin1, "charAt", "([BI)C"⟩
abbrev bn_StringLatin1_charAt : ByteArray := prog_24_method_2_code
def yn_StringLatin1_indexOf : MethodName := ⟨rn_StringLatin1, "indexOf", "([BIII)I"⟩
abbrev bn_StringLatin1_indexOf : ByteArray := prog_24_method_22_code
def yn_StringLatin1_indexOfChar : MethodName := ⟨rn_StringLatin1, "indexOfChar", "([BIII)I"⟩
abbrev bn_StringLatin1_indexOfChar : ByteArray := prog_24_method_23_code
def yn_String_charAt : MethodName := ⟨rn_String, "charAt", "(I)C"⟩
abbrev bn_String_charAt : ByteArray := prog_23_method_56_code
def yn_String_checkIndex : MethodName := ⟨rn_String, "checkIndex", "(II)V"⟩
abbrev bn_String_checkIndex : ByteArray := prog_23_method_155_code
def yn_String_coder : MethodName := ⟨rn_String, "coder", "()B"⟩
abbrev bn_String_coder : ByteArray := prog_23_method_152_code
def yn_String_indexOf_II : MethodName := ⟨rn_String, "indexOf", "(I)I"⟩
abbrev bn_String_indexOf_II : ByteArray := prog_23_method_79_code
def yn_String_indexOf_III : MethodName := ⟨rn_String, "indexOf", "(II)I"⟩
abbrev bn_String_indexOf_III : ByteArray := prog_23_method_80_code
def yn_String_isLatin1 : MethodName := ⟨rn_String, "isLatin1", "()Z"⟩
abbrev bn_String_isLatin1 : ByteArray := prog_23_method_154_code
def yn_String_length : MethodName := ⟨rn_String, "length", "()I"⟩
abbrev bn_String_length : ByteArray := prog_23_method_54_code
theorem sn_Scanner_added : Cond.selects rn_Scanner yn_Scanner_added yn_Scanner_added ∈ xw_G := xw_s1 (q := (yn_Scanner_added, 9)) (List.mem_of_getElem? (i := 6) rfl)
theorem sn_Scanner_kindOf : Cond.selects rn_Scanner yn_Scanner_kindOf yn_Scanner_kindOf ∈ xw_G := xw_s1 (q := (yn_Scanner_kindOf, 9)) (List.mem_of_getElem? (i := 7) rfl)
theorem sn_Scanner_number : Cond.selects rn_Scanner yn_Scanner_number yn_Scanner_number ∈ xw_G := xw_s1 (q := (yn_Scanner_number, 9)) (List.mem_of_getElem? (i := 9) rfl)
theorem sn_Scanner_skipped : Cond.selects rn_Scanner yn_Scanner_skipped yn_Scanner_skipped ∈ xw_G := xw_s1 (q := (yn_Scanner_skipped, 9)) (List.mem_of_getElem? (i := 0) rfl)
theorem sn_Scanner_spells : Cond.selects rn_Scanner yn_Scanner_spells yn_Scanner_spells ∈ xw_G := xw_s1 (q := (yn_Scanner_spells, 9)) (List.mem_of_getElem? (i := 8) rfl)
theorem sn_Scanner_token : Cond.selects rn_Scanner yn_Scanner_token yn_Scanner_token ∈ xw_G := xw_s1 (q := (yn_Scanner_token, 9)) (List.mem_of_getElem? (i := 2) rfl)
theorem sn_Scanner_word : Cond.selects rn_Scanner yn_Scanner_word yn_Scanner_word ∈ xw_G := xw_s1 (q := (yn_Scanner_word, 9)) (List.mem_of_getElem? (i := 3) rfl)
theorem dn_Preconditions_checkIndex_0 : decode bn_Preconditions_checkIndex 0 = .ok (.iload_n 0, 1) := by decide +kernel
theorem dn_Preconditions_checkIndex_1 : decode bn_Preconditions_checkIndex 1 = .ok (.ifCond .lt 8, 3) := by decide +kernel
theorem dn_Preconditions_checkIndex_4 : decode bn_Preconditions_checkIndex 4 = .ok (.iload_n 0, 1) := by decide +kernel
theorem dn_Preconditions_checkIndex_5 : decode bn_Preconditions_checkIndex 5 = .ok (.iload_n 1, 1) := by decide +kernel
theorem dn_Preconditions_checkIndex_6 : decode bn_Preconditions_checkIndex 6 = .ok (.if_icmp .lt 10, 3) := by decide +kernel
theorem dn_Preconditions_checkIndex_9 : decode bn_Preconditions_checkIndex 9 = .ok (.aload_n 2, 1) := by decide +kernel
theorem dn_Preconditions_checkIndex_10 : decode bn_Preconditions_checkIndex 10 = .ok (.iload_n 0, 1) := by decide +kernel
theorem dn_Preconditions_checkIndex_11 : decode bn_Preconditions_checkIndex 11 = .ok (.iload_n 1, 1) := by decide +kernel
theorem dn_Preconditions_checkIndex_12 : decode bn_Preconditions_checkIndex 12 = .ok (.invokestatic 95, 3) := by decide +kernel
theorem dn_Preconditions_checkIndex_16 : decode bn_Preconditions_checkIndex 16 = .ok (.iload_n 0, 1) := by decide +kernel
theorem dn_Preconditions_checkIndex_17 : decode bn_Preconditions_checkIndex 17 = .ok (.ireturn, 1) := by decide +kernel
theorem dn_Scanner_added_10 : decode bn_Scanner_added 10 = .ok (.iconst (-1), 1) := by decide +kernel
theorem dn_Scanner_added_11 : decode bn_Scanner_added 11 = .ok (.ireturn, 1) := by decide +kernel
theorem dn_Scanner_added_36 : decode bn_Scanner_added 36 = .ok (.iastore, 1) := by decide +kernel
theorem dn_Scanner_added_37 : decode bn_Scanner_added 37 = .ok (.aload_n 0, 1) := by decide +kernel
theorem dn_Scanner_added_38 : decode bn_Scanner_added 38 = .ok (.getfield 19, 3) := by decide +kernel
theorem dn_Scanner_added_41 : decode bn_Scanner_added 41 = .ok (.aload_n 0, 1) := by decide +kernel
theorem dn_Scanner_added_42 : decode bn_Scanner_added 42 = .ok (.getfield 62, 3) := by decide +kernel
theorem dn_Scanner_added_45 : decode bn_Scanner_added 45 = .ok (.aload_n 0, 1) := by decide +kernel
theorem dn_Scanner_added_46 : decode bn_Scanner_added 46 = .ok (.getfield 15, 3) := by decide +kernel
theorem dn_Scanner_added_49 : decode bn_Scanner_added 49 = .ok (.iload_n 1, 1) := by decide +kernel
theorem dn_Scanner_added_50 : decode bn_Scanner_added 50 = .ok (.iaload, 1) := by decide +kernel
theorem dn_Scanner_added_51 : decode bn_Scanner_added 51 = .ok (.iastore, 1) := by decide +kernel
theorem dn_Scanner_added_52 : decode bn_Scanner_added 52 = .ok (.aload_n 0, 1) := by decide +kernel
theorem dn_Scanner_added_53 : decode bn_Scanner_added 53 = .ok (.getfield 15, 3) := by decide +kernel
theorem dn_Scanner_added_56 : decode bn_Scanner_added 56 = .ok (.iload_n 1, 1) := by decide +kernel
theorem dn_Scanner_added_57 : decode bn_Scanner_added 57 = .ok (.aload_n 0, 1) := by decide +kernel
theorem dn_Scanner_added_58 : decode bn_Scanner_added 58 = .ok (.getfield 62, 3) := by decide +kernel
theorem dn_Scanner_added_61 : decode bn_Scanner_added 61 = .ok (.iastore, 1) := by decide +kernel
theorem dn_Scanner_added_62 : decode bn_Scanner_added 62 = .ok (.aload_n 0, 1) := by decide +kernel
theorem dn_Scanner_added_63 : decode bn_Scanner_added 63 = .ok (.dup, 1) := by decide +kernel
theorem dn_Scanner_added_64 : decode bn_Scanner_added 64 = .ok (.getfield 62, 3) := by decide +kernel
theorem dn_Scanner_added_67 : decode bn_Scanner_added 67 = .ok (.iconst 1, 1) := by decide +kernel
theorem dn_Scanner_added_68 : decode bn_Scanner_added 68 = .ok (.iadd, 1) := by decide +kernel
theorem dn_Scanner_added_69 : decode bn_Scanner_added 69 = .ok (.putfield 62, 3) := by decide +kernel
theorem dn_Scanner_added_72 : decode bn_Scanner_added 72 = .ok (.aload_n 0, 1) := by decide +kernel
theorem dn_Scanner_added_73 : decode bn_Scanner_added 73 = .ok (.getfield 62, 3) := by decide +kernel
theorem dn_Scanner_added_76 : decode bn_Scanner_added 76 = .ok (.iconst 1, 1) := by decide +kernel
theorem dn_Scanner_added_77 : decode bn_Scanner_added 77 = .ok (.isub, 1) := by decide +kernel
theorem dn_Scanner_added_78 : decode bn_Scanner_added 78 = .ok (.ireturn, 1) := by decide +kernel
theorem dn_Scanner_kindOf_14 : decode bn_Scanner_kindOf 14 = .ok (.invokevirtual 121, 3) := by decide +kernel
theorem dn_Scanner_kindOf_17 : decode bn_Scanner_kindOf 17 = .ok (.if_icmp .ge 57, 3) := by decide +kernel
theorem dn_Scanner_kindOf_20 : decode bn_Scanner_kindOf 20 = .ok (.ldc 119, 2) := by decide +kernel
theorem dn_Scanner_kindOf_22 : decode bn_Scanner_kindOf 22 = .ok (.iload 5, 2) := by decide +kernel
theorem dn_Scanner_kindOf_24 : decode bn_Scanner_kindOf 24 = .ok (.invokevirtual 124, 3) := by decide +kernel
theorem dn_Scanner_kindOf_27 : decode bn_Scanner_kindOf 27 = .ok (.bipush 32, 2) := by decide +kernel
theorem dn_Scanner_kindOf_29 : decode bn_Scanner_kindOf 29 = .ok (.if_icmp .eq 6, 3) := by decide +kernel
theorem dn_Scanner_kindOf_32 : decode bn_Scanner_kindOf 32 = .ok (.goto 36, 3) := by decide +kernel
theorem dn_Scanner_kindOf_35 : decode bn_Scanner_kindOf 35 = .ok (.iload 5, 2) := by decide +kernel
theorem dn_Scanner_kindOf_37 : decode bn_Scanner_kindOf 37 = .ok (.iload 4, 2) := by decide +kernel
theorem dn_Scanner_kindOf_39 : decode bn_Scanner_kindOf 39 = .ok (.isub, 1) := by decide +kernel
theorem dn_Scanner_kindOf_40 : decode bn_Scanner_kindOf 40 = .ok (.iload_n 2, 1) := by decide +kernel
theorem dn_Scanner_kindOf_41 : decode bn_Scanner_kindOf 41 = .ok (.iload_n 1, 1) := by decide +kernel
theorem dn_Scanner_kindOf_42 : decode bn_Scanner_kindOf 42 = .ok (.isub, 1) := by decide +kernel
theorem dn_Scanner_kindOf_43 : decode bn_Scanner_kindOf 43 = .ok (.if_icmp .ne 16, 3) := by decide +kernel
theorem dn_Scanner_kindOf_46 : decode bn_Scanner_kindOf 46 = .ok (.aload_n 0, 1) := by decide +kernel
theorem dn_Scanner_kindOf_47 : decode bn_Scanner_kindOf 47 = .ok (.iload 4, 2) := by decide +kernel
theorem dn_Scanner_kindOf_49 : decode bn_Scanner_kindOf 49 = .ok (.iload_n 1, 1) := by decide +kernel
theorem dn_Scanner_kindOf_50 : decode bn_Scanner_kindOf 50 = .ok (.iload_n 2, 1) := by decide +kernel
theorem dn_Scanner_kindOf_51 : decode bn_Scanner_kindOf 51 = .ok (.invokevirtual 128, 3) := by decide +kernel
theorem dn_Scanner_kindOf_54 : decode bn_Scanner_kindOf 54 = .ok (.ifCond .eq 5, 3) := by decide +kernel
theorem dn_Scanner_kindOf_57 : decode bn_Scanner_kindOf 57 = .ok (.iload_n 3, 1) := by decide +kernel
theorem dn_Scanner_kindOf_58 : decode bn_Scanner_kindOf 58 = .ok (.ireturn, 1) := by decide +kernel
theorem dn_Scanner_kindOf_59 : decode bn_Scanner_kindOf 59 = .ok (.iinc 3 1, 3) := by decide +kernel
theorem dn_Scanner_kindOf_62 : decode bn_Scanner_kindOf 62 = .ok (.iload 5, 2) := by decide +kernel
theorem dn_Scanner_kindOf_64 : decode bn_Scanner_kindOf 64 = .ok (.iconst 1, 1) := by decide +kernel
theorem dn_Scanner_kindOf_65 : decode bn_Scanner_kindOf 65 = .ok (.iadd, 1) := by decide +kernel
theorem dn_Scanner_kindOf_66 : decode bn_Scanner_kindOf 66 = .ok (.istore 4, 2) := by decide +kernel
theorem dn_Scanner_kindOf_68 : decode bn_Scanner_kindOf 68 = .ok (.iinc 5 1, 3) := by decide +kernel
theorem dn_Scanner_kindOf_71 : decode bn_Scanner_kindOf 71 = .ok (.goto (-61), 3) := by decide +kernel
theorem dn_Scanner_kindOf_74 : decode bn_Scanner_kindOf 74 = .ok (.iconst 2, 1) := by decide +kernel
theorem dn_Scanner_kindOf_75 : decode bn_Scanner_kindOf 75 = .ok (.ireturn, 1) := by decide +kernel
theorem dn_Scanner_scan_47 : decode bn_Scanner_scan 47 = .ok (.aload_n 0, 1) := by decide +kernel
theorem dn_Scanner_scan_48 : decode bn_Scanner_scan 48 = .ok (.iconst 0, 1) := by decide +kernel
theorem dn_Scanner_scan_49 : decode bn_Scanner_scan 49 = .ok (.putfield 62, 3) := by decide +kernel
theorem dn_Scanner_scan_52 : decode bn_Scanner_scan 52 = .ok (.iconst 0, 1) := by decide +kernel
theorem dn_Scanner_scan_53 : decode bn_Scanner_scan 53 = .ok (.istore_n 2, 1) := by decide +kernel
theorem dn_Scanner_scan_54 : decode bn_Scanner_scan 54 = .ok (.iconst 1, 1) := by decide +kernel
theorem dn_Scanner_scan_55 : decode bn_Scanner_scan 55 = .ok (.istore_n 3, 1) := by decide +kernel
theorem dn_Scanner_scan_56 : decode bn_Scanner_scan 56 = .ok (.iload_n 3, 1) := by decide +kernel
theorem dn_Scanner_scan_57 : decode bn_Scanner_scan 57 = .ok (.ifCond .eq 53, 3) := by decide +kernel
theorem dn_Scanner_scan_60 : decode bn_Scanner_scan 60 = .ok (.iload_n 2, 1) := by decide +kernel
theorem dn_Scanner_scan_61 : decode bn_Scanner_scan 61 = .ok (.aload_n 0, 1) := by decide +kernel
theorem dn_Scanner_scan_62 : decode bn_Scanner_scan 62 = .ok (.getfield 45, 3) := by decide +kernel
theorem dn_Scanner_scan_65 : decode bn_Scanner_scan 65 = .ok (.if_icmp .ge 45, 3) := by decide +kernel
theorem dn_Scanner_scan_68 : decode bn_Scanner_scan 68 = .ok (.aload_n 0, 1) := by decide +kernel
theorem dn_Scanner_scan_69 : decode bn_Scanner_scan 69 = .ok (.iload_n 2, 1) := by decide +kernel
theorem dn_Scanner_scan_70 : decode bn_Scanner_scan 70 = .ok (.invokevirtual 65, 3) := by decide +kernel
theorem dn_Scanner_scan_73 : decode bn_Scanner_scan 73 = .ok (.istore 4, 2) := by decide +kernel
theorem dn_Scanner_scan_75 : decode bn_Scanner_scan 75 = .ok (.iload 4, 2) := by decide +kernel
theorem dn_Scanner_scan_77 : decode bn_Scanner_scan 77 = .ok (.iload_n 2, 1) := by decide +kernel
theorem dn_Scanner_scan_78 : decode bn_Scanner_scan 78 = .ok (.if_icmp .ne 10, 3) := by decide +kernel
theorem dn_Scanner_scan_81 : decode bn_Scanner_scan 81 = .ok (.aload_n 0, 1) := by decide +kernel
theorem dn_Scanner_scan_82 : decode bn_Scanner_scan 82 = .ok (.iload_n 2, 1) := by decide +kernel
theorem dn_Scanner_scan_83 : decode bn_Scanner_scan 83 = .ok (.invokevirtual 69, 3) := by decide +kernel
theorem dn_Scanner_scan_86 : decode bn_Scanner_scan 86 = .ok (.istore 4, 2) := by decide +kernel
theorem dn_Scanner_scan_88 : decode bn_Scanner_scan 88 = .ok (.iload 4, 2) := by decide +kernel
theorem dn_Scanner_scan_90 : decode bn_Scanner_scan 90 = .ok (.iload_n 2, 1) := by decide +kernel
theorem dn_Scanner_scan_91 : decode bn_Scanner_scan 91 = .ok (.if_icmp .le 7, 3) := by decide +kernel
theorem dn_Scanner_scan_94 : decode bn_Scanner_scan 94 = .ok (.iconst 1, 1) := by decide +kernel
theorem dn_Scanner_scan_95 : decode bn_Scanner_scan 95 = .ok (.goto 4, 3) := by decide +kernel
theorem dn_Scanner_scan_98 : decode bn_Scanner_scan 98 = .ok (.iconst 0, 1) := by decide +kernel
theorem dn_Scanner_scan_99 : decode bn_Scanner_scan 99 = .ok (.istore_n 3, 1) := by decide +kernel
theorem dn_Scanner_scan_100 : decode bn_Scanner_scan 100 = .ok (.iload_n 3, 1) := by decide +kernel
theorem dn_Scanner_scan_101 : decode bn_Scanner_scan 101 = .ok (.ifCond .eq 6, 3) := by decide +kernel
theorem dn_Scanner_scan_104 : decode bn_Scanner_scan 104 = .ok (.iload 4, 2) := by decide +kernel
theorem dn_Scanner_scan_106 : decode bn_Scanner_scan 106 = .ok (.istore_n 2, 1) := by decide +kernel
theorem dn_Scanner_scan_107 : decode bn_Scanner_scan 107 = .ok (.goto (-51), 3) := by decide +kernel
theorem dn_Scanner_scan_110 : decode bn_Scanner_scan 110 = .ok (.aload_n 0, 1) := by decide +kernel
theorem dn_Scanner_scan_111 : decode bn_Scanner_scan 111 = .ok (.getfield 28, 3) := by decide +kernel
theorem dn_Scanner_scan_114 : decode bn_Scanner_scan 114 = .ok (.iload_n 3, 1) := by decide +kernel
theorem dn_Scanner_scan_115 : decode bn_Scanner_scan 115 = .ok (.ifCond .eq 7, 3) := by decide +kernel
theorem dn_Scanner_scan_118 : decode bn_Scanner_scan 118 = .ok (.iconst 0, 1) := by decide +kernel
theorem dn_Scanner_scan_119 : decode bn_Scanner_scan 119 = .ok (.goto 4, 3) := by decide +kernel
theorem dn_Scanner_scan_122 : decode bn_Scanner_scan 122 = .ok (.iconst 1, 1) := by decide +kernel
theorem dn_Scanner_scan_123 : decode bn_Scanner_scan 123 = .ok (.iload_n 2, 1) := by decide +kernel
theorem dn_Scanner_scan_124 : decode bn_Scanner_scan 124 = .ok (.iconst (-1), 1) := by decide +kernel
theorem dn_Scanner_scan_125 : decode bn_Scanner_scan 125 = .ok (.invokevirtual 72, 3) := by decide +kernel
theorem dn_Scanner_scan_128 : decode bn_Scanner_scan 128 = .ok (.return_, 1) := by decide +kernel
theorem dn_Scanner_spells_11 : decode bn_Scanner_spells 11 = .ok (.iload_n 1, 1) := by decide +kernel
theorem dn_Scanner_spells_12 : decode bn_Scanner_spells 12 = .ok (.iload 4, 2) := by decide +kernel
theorem dn_Scanner_spells_14 : decode bn_Scanner_spells 14 = .ok (.iadd, 1) := by decide +kernel
theorem dn_Scanner_spells_15 : decode bn_Scanner_spells 15 = .ok (.iload_n 2, 1) := by decide +kernel
theorem dn_Scanner_spells_16 : decode bn_Scanner_spells 16 = .ok (.isub, 1) := by decide +kernel
theorem dn_Scanner_spells_17 : decode bn_Scanner_spells 17 = .ok (.invokevirtual 124, 3) := by decide +kernel
theorem dn_Scanner_spells_20 : decode bn_Scanner_spells 20 = .ok (.aload_n 0, 1) := by decide +kernel
theorem dn_Scanner_spells_21 : decode bn_Scanner_spells 21 = .ok (.iload 4, 2) := by decide +kernel
theorem dn_Scanner_spells_23 : decode bn_Scanner_spells 23 = .ok (.invokevirtual 76, 3) := by decide +kernel
theorem dn_Scanner_spells_26 : decode bn_Scanner_spells 26 = .ok (.if_icmp .eq 5, 3) := by decide +kernel
theorem dn_Scanner_spells_29 : decode bn_Scanner_spells 29 = .ok (.iconst 0, 1) := by decide +kernel
theorem dn_Scanner_spells_30 : decode bn_Scanner_spells 30 = .ok (.ireturn, 1) := by decide +kernel
theorem dn_Scanner_spells_31 : decode bn_Scanner_spells 31 = .ok (.iinc 4 1, 3) := by decide +kernel
theorem dn_Scanner_spells_34 : decode bn_Scanner_spells 34 = .ok (.goto (-31), 3) := by decide +kernel
theorem dn_Scanner_token_13 : decode bn_Scanner_token 13 = .ok (.aload_n 0, 1) := by decide +kernel
theorem dn_Scanner_token_14 : decode bn_Scanner_token 14 = .ok (.iload_n 1, 1) := by decide +kernel
theorem dn_Scanner_token_15 : decode bn_Scanner_token 15 = .ok (.invokevirtual 83, 3) := by decide +kernel
theorem dn_Scanner_token_18 : decode bn_Scanner_token 18 = .ok (.ireturn, 1) := by decide +kernel
theorem dn_Scanner_token_26 : decode bn_Scanner_token 26 = .ok (.aload_n 0, 1) := by decide +kernel
theorem dn_Scanner_token_27 : decode bn_Scanner_token 27 = .ok (.iload_n 1, 1) := by decide +kernel
theorem dn_Scanner_token_28 : decode bn_Scanner_token 28 = .ok (.invokevirtual 89, 3) := by decide +kernel
theorem dn_Scanner_token_31 : decode bn_Scanner_token 31 = .ok (.ireturn, 1) := by decide +kernel
theorem dn_Scanner_token_49 : decode bn_Scanner_token 49 = .ok (.aload_n 0, 1) := by decide +kernel
theorem dn_Scanner_token_50 : decode bn_Scanner_token 50 = .ok (.getfield 28, 3) := by decide +kernel
theorem dn_Scanner_token_53 : decode bn_Scanner_token 53 = .ok (.iload_n 3, 1) := by decide +kernel
theorem dn_Scanner_token_54 : decode bn_Scanner_token 54 = .ok (.iload_n 1, 1) := by decide +kernel
theorem dn_Scanner_token_55 : decode bn_Scanner_token 55 = .ok (.iconst (-1), 1) := by decide +kernel
theorem dn_Scanner_token_56 : decode bn_Scanner_token 56 = .ok (.invokevirtual 72, 3) := by decide +kernel
theorem dn_Scanner_token_59 : decode bn_Scanner_token 59 = .ok (.iload_n 1, 1) := by decide +kernel
theorem dn_Scanner_token_60 : decode bn_Scanner_token 60 = .ok (.iconst 2, 1) := by decide +kernel
theorem dn_Scanner_token_61 : decode bn_Scanner_token 61 = .ok (.iadd, 1) := by decide +kernel
theorem dn_Scanner_token_62 : decode bn_Scanner_token 62 = .ok (.ireturn, 1) := by decide +kernel
theorem dn_Scanner_token_69 : decode bn_Scanner_token 69 = .ok (.iload_n 2, 1) := by decide +kernel
theorem dn_Scanner_token_70 : decode bn_Scanner_token 70 = .ok (.i2c, 1) := by decide +kernel
theorem dn_Scanner_token_71 : decode bn_Scanner_token 71 = .ok (.invokevirtual 97, 3) := by decide +kernel
theorem dn_Scanner_token_74 : decode bn_Scanner_token 74 = .ok (.ifCond .ge 5, 3) := by decide +kernel
theorem dn_Scanner_token_79 : decode bn_Scanner_token 79 = .ok (.aload_n 0, 1) := by decide +kernel
theorem dn_Scanner_token_80 : decode bn_Scanner_token 80 = .ok (.getfield 28, 3) := by decide +kernel
theorem dn_Scanner_token_83 : decode bn_Scanner_token 83 = .ok (.iload_n 2, 1) := by decide +kernel
theorem dn_Scanner_token_84 : decode bn_Scanner_token 84 = .ok (.iload_n 1, 1) := by decide +kernel
theorem dn_Scanner_token_85 : decode bn_Scanner_token 85 = .ok (.iconst (-1), 1) := by decide +kernel
theorem dn_Scanner_token_86 : decode bn_Scanner_token 86 = .ok (.invokevirtual 72, 3) := by decide +kernel
theorem dn_Scanner_token_89 : decode bn_Scanner_token 89 = .ok (.iload_n 1, 1) := by decide +kernel
theorem dn_Scanner_token_90 : decode bn_Scanner_token 90 = .ok (.iconst 1, 1) := by decide +kernel
theorem dn_Scanner_token_91 : decode bn_Scanner_token 91 = .ok (.iadd, 1) := by decide +kernel
theorem dn_Scanner_token_92 : decode bn_Scanner_token 92 = .ok (.ireturn, 1) := by decide +kernel
theorem dn_Scanner_word_78 : decode bn_Scanner_word 78 = .ok (.istore 5, 2) := by decide +kernel
theorem dn_Scanner_word_80 : decode bn_Scanner_word 80 = .ok (.iload 5, 2) := by decide +kernel
theorem dn_Scanner_word_82 : decode bn_Scanner_word 82 = .ok (.ifCond .lt 29, 3) := by decide +kernel
theorem dn_Scanner_word_85 : decode bn_Scanner_word 85 = .ok (.iload 5, 2) := by decide +kernel
theorem dn_Scanner_word_87 : decode bn_Scanner_word 87 = .ok (.aload_n 0, 1) := by decide +kernel
theorem dn_Scanner_word_88 : decode bn_Scanner_word 88 = .ok (.getfield 62, 3) := by decide +kernel
theorem dn_Scanner_word_91 : decode bn_Scanner_word 91 = .ok (.if_icmp .ge 20, 3) := by decide +kernel
theorem dn_Scanner_word_94 : decode bn_Scanner_word 94 = .ok (.aload_n 0, 1) := by decide +kernel
theorem dn_Scanner_word_95 : decode bn_Scanner_word 95 = .ok (.getfield 28, 3) := by decide +kernel
theorem dn_Scanner_word_98 : decode bn_Scanner_word 98 = .ok (.aload_n 0, 1) := by decide +kernel
theorem dn_Scanner_word_99 : decode bn_Scanner_word 99 = .ok (.getfield 25, 3) := by decide +kernel
theorem dn_Scanner_word_102 : decode bn_Scanner_word 102 = .ok (.iload 5, 2) := by decide +kernel
theorem dn_Scanner_word_104 : decode bn_Scanner_word 104 = .ok (.iaload, 1) := by decide +kernel
theorem dn_Scanner_word_105 : decode bn_Scanner_word 105 = .ok (.iload_n 1, 1) := by decide +kernel
theorem dn_Scanner_word_106 : decode bn_Scanner_word 106 = .ok (.iload 5, 2) := by decide +kernel
theorem dn_Scanner_word_108 : decode bn_Scanner_word 108 = .ok (.invokevirtual 72, 3) := by decide +kernel
theorem dn_Scanner_word_111 : decode bn_Scanner_word 111 = .ok (.iload_n 2, 1) := by decide +kernel
theorem dn_Scanner_word_112 : decode bn_Scanner_word 112 = .ok (.ireturn, 1) := by decide +kernel
theorem dn_StringLatin1_canEncode_0 : decode bn_StringLatin1_canEncode 0 = .ok (.iload_n 0, 1) := by decide +kernel
theorem dn_StringLatin1_canEncode_1 : decode bn_StringLatin1_canEncode 1 = .ok (.ifCond .lt 14, 3) := by decide +kernel
theorem dn_StringLatin1_canEncode_4 : decode bn_StringLatin1_canEncode 4 = .ok (.iload_n 0, 1) := by decide +kernel
theorem dn_StringLatin1_canEncode_5 : decode bn_StringLatin1_canEncode 5 = .ok (.sipush 255, 3) := by decide +kernel
theorem dn_StringLatin1_canEncode_8 : decode bn_StringLatin1_canEncode 8 = .ok (.if_icmp .gt 7, 3) := by decide +kernel
theorem dn_StringLatin1_canEncode_11 : decode bn_StringLatin1_canEncode 11 = .ok (.iconst 1, 1) := by decide +kernel
theorem dn_StringLatin1_canEncode_12 : decode bn_StringLatin1_canEncode 12 = .ok (.goto 4, 3) := by decide +kernel
theorem dn_StringLatin1_canEncode_15 : decode bn_StringLatin1_canEncode 15 = .ok (.iconst 0, 1) := by decide +kernel
theorem dn_StringLatin1_canEncode_16 : decode bn_StringLatin1_canEncode 16 = .ok (.ireturn, 1) := by decide +kernel
theorem dn_StringLatin1_charAt_0 : decode bn_StringLatin1_charAt 0 = .ok (.iload_n 1, 1) := by decide +kernel
theorem dn_StringLatin1_charAt_1 : decode bn_StringLatin1_charAt 1 = .ok (.aload_n 0, 1) := by decide +kernel
theorem dn_StringLatin1_charAt_2 : decode bn_StringLatin1_charAt 2 = .ok (.arraylength, 1) := by decide +kernel
theorem dn_StringLatin1_charAt_3 : decode bn_StringLatin1_charAt 3 = .ok (.invokestatic 9, 3) := by decide +kernel
theorem dn_StringLatin1_charAt_6 : decode bn_StringLatin1_charAt 6 = .ok (.aload_n 0, 1) := by decide +kernel
theorem dn_StringLatin1_charAt_7 : decode bn_StringLatin1_charAt 7 = .ok (.iload_n 1, 1) := by decide +kernel
theorem dn_StringLatin1_charAt_8 : decode bn_StringLatin1_charAt 8 = .ok (.baload, 1) := by decide +kernel
theorem dn_StringLatin1_charAt_9 : decode bn_StringLatin1_charAt 9 = .ok (.sipush 255, 3) := by decide +kernel
theorem dn_StringLatin1_charAt_12 : decode bn_StringLatin1_charAt 12 = .ok (.iand, 1) := by decide +kernel
theorem dn_StringLatin1_charAt_13 : decode bn_StringLatin1_charAt 13 = .ok (.i2c, 1) := by decide +kernel
theorem dn_StringLatin1_charAt_14 : decode bn_StringLatin1_charAt 14 = .ok (.ireturn, 1) := by decide +kernel
theorem dn_StringLatin1_indexOf_0 : decode bn_StringLatin1_indexOf 0 = .ok (.iload_n 1, 1) := by decide +kernel
theorem dn_StringLatin1_indexOf_1 : decode bn_StringLatin1_indexOf 1 = .ok (.invokestatic 88, 3) := by decide +kernel
theorem dn_StringLatin1_indexOf_4 : decode bn_StringLatin1_indexOf 4 = .ok (.ifCond .ne 5, 3) := by decide +kernel
theorem dn_StringLatin1_indexOf_7 : decode bn_StringLatin1_indexOf 7 = .ok (.iconst (-1), 1) := by decide +kernel
theorem dn_StringLatin1_indexOf_8 : decode bn_StringLatin1_indexOf 8 = .ok (.ireturn, 1) := by decide +kernel
theorem dn_StringLatin1_indexOf_9 : decode bn_StringLatin1_indexOf 9 = .ok (.iload_n 2, 1) := by decide +kernel
theorem dn_StringLatin1_indexOf_10 : decode bn_StringLatin1_indexOf 10 = .ok (.iconst 0, 1) := by decide +kernel
theorem dn_StringLatin1_indexOf_11 : decode bn_StringLatin1_indexOf 11 = .ok (.invokestatic 92, 3) := by decide +kernel
theorem dn_StringLatin1_indexOf_14 : decode bn_StringLatin1_indexOf 14 = .ok (.istore_n 2, 1) := by decide +kernel
theorem dn_StringLatin1_indexOf_15 : decode bn_StringLatin1_indexOf 15 = .ok (.iload_n 3, 1) := by decide +kernel
theorem dn_StringLatin1_indexOf_16 : decode bn_StringLatin1_indexOf 16 = .ok (.aload_n 0, 1) := by decide +kernel
theorem dn_StringLatin1_indexOf_17 : decode bn_StringLatin1_indexOf 17 = .ok (.arraylength, 1) := by decide +kernel
theorem dn_StringLatin1_indexOf_18 : decode bn_StringLatin1_indexOf 18 = .ok (.invokestatic 38, 3) := by decide +kernel
theorem dn_StringLatin1_indexOf_21 : decode bn_StringLatin1_indexOf 21 = .ok (.istore_n 3, 1) := by decide +kernel
theorem dn_StringLatin1_indexOf_22 : decode bn_StringLatin1_indexOf 22 = .ok (.iload_n 2, 1) := by decide +kernel
theorem dn_StringLatin1_indexOf_23 : decode bn_StringLatin1_indexOf 23 = .ok (.iload_n 3, 1) := by decide +kernel
theorem dn_StringLatin1_indexOf_24 : decode bn_StringLatin1_indexOf 24 = .ok (.if_icmp .lt 5, 3) := by decide +kernel
theorem dn_StringLatin1_indexOf_27 : decode bn_StringLatin1_indexOf 27 = .ok (.iconst (-1), 1) := by decide +kernel
theorem dn_StringLatin1_indexOf_28 : decode bn_StringLatin1_indexOf 28 = .ok (.ireturn, 1) := by decide +kernel
theorem dn_StringLatin1_indexOf_29 : decode bn_StringLatin1_indexOf 29 = .ok (.aload_n 0, 1) := by decide +kernel
theorem dn_StringLatin1_indexOf_30 : decode bn_StringLatin1_indexOf 30 = .ok (.iload_n 1, 1) := by decide +kernel
theorem dn_StringLatin1_indexOf_31 : decode bn_StringLatin1_indexOf 31 = .ok (.iload_n 2, 1) := by decide +kernel
theorem dn_StringLatin1_indexOf_32 : decode bn_StringLatin1_indexOf 32 = .ok (.iload_n 3, 1) := by decide +kernel
theorem dn_StringLatin1_indexOf_33 : decode bn_StringLatin1_indexOf 33 = .ok (.invokestatic 95, 3) := by decide +kernel
theorem dn_StringLatin1_indexOf_36 : decode bn_StringLatin1_indexOf 36 = .ok (.ireturn, 1) := by decide +kernel
theorem dn_StringLatin1_indexOfChar_0 : decode bn_StringLatin1_indexOfChar 0 = .ok (.iload_n 1, 1) := by decide +kernel
theorem dn_StringLatin1_indexOfChar_1 : decode bn_StringLatin1_indexOfChar 1 = .ok (.i2b, 1) := by decide +kernel
theorem dn_StringLatin1_indexOfChar_2 : decode bn_StringLatin1_indexOfChar 2 = .ok (.istore 4, 2) := by decide +kernel
theorem dn_StringLatin1_indexOfChar_4 : decode bn_StringLatin1_indexOfChar 4 = .ok (.iload_n 2, 1) := by decide +kernel
theorem dn_StringLatin1_indexOfChar_5 : decode bn_StringLatin1_indexOfChar 5 = .ok (.istore 5, 2) := by decide +kernel
theorem dn_StringLatin1_indexOfChar_7 : decode bn_StringLatin1_indexOfChar 7 = .ok (.iload 5, 2) := by decide +kernel
theorem dn_StringLatin1_indexOfChar_9 : decode bn_StringLatin1_indexOfChar 9 = .ok (.iload_n 3, 1) := by decide +kernel
theorem dn_StringLatin1_indexOfChar_10 : decode bn_StringLatin1_indexOfChar 10 = .ok (.if_icmp .ge 21, 3) := by decide +kernel
theorem dn_StringLatin1_indexOfChar_13 : decode bn_StringLatin1_indexOfChar 13 = .ok (.aload_n 0, 1) := by decide +kernel
theorem dn_StringLatin1_indexOfChar_14 : decode bn_StringLatin1_indexOfChar 14 = .ok (.iload 5, 2) := by decide +kernel
theorem dn_StringLatin1_indexOfChar_16 : decode bn_StringLatin1_indexOfChar 16 = .ok (.baload, 1) := by decide +kernel
theorem dn_StringLatin1_indexOfChar_17 : decode bn_StringLatin1_indexOfChar 17 = .ok (.iload 4, 2) := by decide +kernel
theorem dn_StringLatin1_indexOfChar_19 : decode bn_StringLatin1_indexOfChar 19 = .ok (.if_icmp .ne 6, 3) := by decide +kernel
theorem dn_StringLatin1_indexOfChar_22 : decode bn_StringLatin1_indexOfChar 22 = .ok (.iload 5, 2) := by decide +kernel
theorem dn_StringLatin1_indexOfChar_24 : decode bn_StringLatin1_indexOfChar 24 = .ok (.ireturn, 1) := by decide +kernel
theorem dn_StringLatin1_indexOfChar_25 : decode bn_StringLatin1_indexOfChar 25 = .ok (.iinc 5 1, 3) := by decide +kernel
theorem dn_StringLatin1_indexOfChar_28 : decode bn_StringLatin1_indexOfChar 28 = .ok (.goto (-21), 3) := by decide +kernel
theorem dn_StringLatin1_indexOfChar_31 : decode bn_StringLatin1_indexOfChar 31 = .ok (.iconst (-1), 1) := by decide +kernel
theorem dn_StringLatin1_indexOfChar_32 : decode bn_StringLatin1_indexOfChar 32 = .ok (.ireturn, 1) := by decide +kernel
theorem dn_String_charAt_0 : decode bn_String_charAt 0 = .ok (.aload_n 0, 1) := by decide +kernel
theorem dn_String_charAt_1 : decode bn_String_charAt 1 = .ok (.invokevirtual 492, 3) := by decide +kernel
theorem dn_String_charAt_4 : decode bn_String_charAt 4 = .ok (.ifCond .eq 12, 3) := by decide +kernel
theorem dn_String_charAt_7 : decode bn_String_charAt 7 = .ok (.aload_n 0, 1) := by decide +kernel
theorem dn_String_charAt_8 : decode bn_String_charAt 8 = .ok (.getfield 9, 3) := by decide +kernel
theorem dn_String_charAt_11 : decode bn_String_charAt 11 = .ok (.iload_n 1, 1) := by decide +kernel
theorem dn_String_charAt_12 : decode bn_String_charAt 12 = .ok (.invokestatic 495, 3) := by decide +kernel
theorem dn_String_charAt_15 : decode bn_String_charAt 15 = .ok (.ireturn, 1) := by decide +kernel
theorem dn_String_checkIndex_0 : decode bn_String_checkIndex 0 = .ok (.iload_n 0, 1) := by decide +kernel
theorem dn_String_checkIndex_1 : decode bn_String_checkIndex 1 = .ok (.iload_n 1, 1) := by decide +kernel
theorem dn_String_checkIndex_2 : decode bn_String_checkIndex 2 = .ok (.getstatic 1053, 3) := by decide +kernel
theorem dn_String_checkIndex_5 : decode bn_String_checkIndex 5 = .ok (.invokestatic 1059, 3) := by decide +kernel
theorem dn_String_checkIndex_8 : decode bn_String_checkIndex 8 = .ok (.pop, 1) := by decide +kernel
theorem dn_String_checkIndex_9 : decode bn_String_checkIndex 9 = .ok (.return_, 1) := by decide +kernel
theorem dn_String_coder_0 : decode bn_String_coder 0 = .ok (.getstatic 38, 3) := by decide +kernel
theorem dn_String_coder_3 : decode bn_String_coder 3 = .ok (.ifCond .eq 10, 3) := by decide +kernel
theorem dn_String_coder_6 : decode bn_String_coder 6 = .ok (.aload_n 0, 1) := by decide +kernel
theorem dn_String_coder_7 : decode bn_String_coder 7 = .ok (.getfield 15, 3) := by decide +kernel
theorem dn_String_coder_10 : decode bn_String_coder 10 = .ok (.goto 4, 3) := by decide +kernel
theorem dn_String_coder_14 : decode bn_String_coder 14 = .ok (.ireturn, 1) := by decide +kernel
theorem dn_String_indexOf_II_0 : decode bn_String_indexOf_II 0 = .ok (.aload_n 0, 1) := by decide +kernel
theorem dn_String_indexOf_II_1 : decode bn_String_indexOf_II 1 = .ok (.iload_n 1, 1) := by decide +kernel
theorem dn_String_indexOf_II_2 : decode bn_String_indexOf_II 2 = .ok (.iconst 0, 1) := by decide +kernel
theorem dn_String_indexOf_II_3 : decode bn_String_indexOf_II 3 = .ok (.invokevirtual 633, 3) := by decide +kernel
theorem dn_String_indexOf_II_6 : decode bn_String_indexOf_II 6 = .ok (.ireturn, 1) := by decide +kernel
theorem dn_String_indexOf_III_0 : decode bn_String_indexOf_III 0 = .ok (.aload_n 0, 1) := by decide +kernel
theorem dn_String_indexOf_III_1 : decode bn_String_indexOf_III 1 = .ok (.invokevirtual 492, 3) := by decide +kernel
theorem dn_String_indexOf_III_4 : decode bn_String_indexOf_III 4 = .ok (.ifCond .eq 19, 3) := by decide +kernel
theorem dn_String_indexOf_III_7 : decode bn_String_indexOf_III 7 = .ok (.aload_n 0, 1) := by decide +kernel
theorem dn_String_indexOf_III_8 : decode bn_String_indexOf_III 8 = .ok (.getfield 9, 3) := by decide +kernel
theorem dn_String_indexOf_III_11 : decode bn_String_indexOf_III 11 = .ok (.iload_n 1, 1) := by decide +kernel
theorem dn_String_indexOf_III_12 : decode bn_String_indexOf_III 12 = .ok (.iload_n 2, 1) := by decide +kernel
theorem dn_String_indexOf_III_13 : decode bn_String_indexOf_III 13 = .ok (.aload_n 0, 1) := by decide +kernel
theorem dn_String_indexOf_III_14 : decode bn_String_indexOf_III 14 = .ok (.invokevirtual 505, 3) := by decide +kernel
theorem dn_String_indexOf_III_17 : decode bn_String_indexOf_III 17 = .ok (.invokestatic 637, 3) := by decide +kernel
theorem dn_String_indexOf_III_20 : decode bn_String_indexOf_III 20 = .ok (.goto 16, 3) := by decide +kernel
theorem dn_String_indexOf_III_36 : decode bn_String_indexOf_III 36 = .ok (.ireturn, 1) := by decide +kernel
theorem dn_String_isLatin1_0 : decode bn_String_isLatin1 0 = .ok (.getstatic 38, 3) := by decide +kernel
theorem dn_String_isLatin1_3 : decode bn_String_isLatin1 3 = .ok (.ifCond .eq 14, 3) := by decide +kernel
theorem dn_String_isLatin1_6 : decode bn_String_isLatin1 6 = .ok (.aload_n 0, 1) := by decide +kernel
theorem dn_String_isLatin1_7 : decode bn_String_isLatin1 7 = .ok (.getfield 15, 3) := by decide +kernel
theorem dn_String_isLatin1_10 : decode bn_String_isLatin1 10 = .ok (.ifCond .ne 7, 3) := by decide +kernel
theorem dn_String_isLatin1_13 : decode bn_String_isLatin1 13 = .ok (.iconst 1, 1) := by decide +kernel
theorem dn_String_isLatin1_14 : decode bn_String_isLatin1 14 = .ok (.goto 4, 3) := by decide +kernel
theorem dn_String_isLatin1_18 : decode bn_String_isLatin1 18 = .ok (.ireturn, 1) := by decide +kernel
theorem dn_String_length_0 : decode bn_String_length 0 = .ok (.aload_n 0, 1) := by decide +kernel
theorem dn_String_length_1 : decode bn_String_length 1 = .ok (.getfield 9, 3) := by decide +kernel
theorem dn_String_length_4 : decode bn_String_length 4 = .ok (.arraylength, 1) := by decide +kernel
theorem dn_String_length_5 : decode bn_String_length 5 = .ok (.aload_n 0, 1) := by decide +kernel
theorem dn_String_length_6 : decode bn_String_length 6 = .ok (.invokevirtual 335, 3) := by decide +kernel
theorem dn_String_length_9 : decode bn_String_length 9 = .ok (.ishr, 1) := by decide +kernel
theorem dn_String_length_10 : decode bn_String_length 10 = .ok (.ireturn, 1) := by decide +kernel
theorem dc_rec {k : Nat} {A : Nat → Prop} {s : State} {H : Heap} {locs : List Loc} (h : va_O "java/lang/String" k A s s.heap) (hS : va_S A s.heap H locs) : ∃ cellB : Cell, H[k]? = some cellB ∧ cellB.vm.isStatics = false ∧ s.vm.findClass "java/lang/String" = some cellB.cls := by
  obtain ⟨cell, h1, h2, h3, -⟩ := h.kept hS.2.1
  exact ⟨cell, h1, h2, h3⟩
section DCT
variable {p : Program} {l : Launch} {e : Env} {R : Room} {s : State} {m : MethodId} {args : Array Value} {below : List Frame} {meth : Method} {c : Code} {H : Heap} {locs : List Loc} {cells slots : Nat} {Q : State → Prop}
variable {cc : ByteArray} {pc : Nat} {ls : Array Slot} {rest st0 : List Value} {D : va_G} {cl : List vw_C} {A : Nat → Prop} {tys : List (ClassId × FieldType)} {ws : va_W}
theorem dc_runVT {y : MethodName} {b2 : ByteArray} {nL n2 i ar mc ms : Nat} {r2 : Option FieldType} {rm : Room} {own C : String} {b : Addr} {ad : Nat → Nat} {As : List Value} {Qc : Array Value → State → Outcome → State → Prop} (S : CallFix p m c cc nL s args xw_G own) (hK : va_K D cl tys s) (hN : xn_St s) (hT : dc_St A s s.heap) (hG : dc_Str ad A s s.heap) (hS : va_S A s.heap H locs) (hA : ∀ q : Nat, s.heap.size ≤ q → A q)
    (M : Met l y (xw y b2 n2 r2) rm (dc_PS D cl tys (.ref b :: As) H.size ws ad) Qc mc ms (va_A ws H.size)) (hP : va_P D cl ws H) (hD : va_D A ws) (hrec : ∃ cellB : Cell, H[b]? = some cellB ∧ cellB.vm.isStatics = false ∧ s.vm.findClass C = some cellB.cls)
    (h1 : Cond.methodLink own i y ∈ xw_G) (h2 : Cond.instanceMethod y ∈ xw_G) (h3 : Cond.selects C y y ∈ xw_G) (h4 : Cond.initialized C ∈ xw_G) (h5 : Cond.code y b2 n2 r2 ∈ xw_G) (hrc : rm.cells = mc) (hrs : rm.slots = ms)
    (hd : y.cls = C ∧ y.cls ≠ "java/lang/invoke/MethodHandle" ∧ y.cls ≠ "java/lang/invoke/VarHandle" ∧ (parseMethodDescriptor y.desc).map (fun d => d.parameters.length) = some ar) (hR : rm.frames + 1 ≤ R.frames ∧ 8 + (n2 + 11) + rm.locals ≤ R.locals)
    (hn : As.length = ar) (hsize : ls.size = nL) (hst : st0 = As.reverse ++ .ref b :: rest) (hw : (rest.map fun v => v.category).sum ≤ 8) (hdg : decode cc pc = .ok (.invokevirtual i, 3)) (hf : cells + mc ≤ R.cells ∧ slots + ms ≤ R.slots) :
    va_Run p l e R s m args below meth c H locs cells slots mc ms (F0 m pc ls st0) rest (Qc (Value.ref b :: As).toArray) (va_A ws H.size) :=
  va_runV (As := As) (rest := rest) S M (cwV ar S.2.2.2.2 (xw_gV h1 h2 h3 h4 h5) rfl hrc hrs hd hR) ⟨dc_blindS, hrec, fun U hU hW => ⟨rfl, by rw [hU], by rw [hU]; exact hP, va_K.moved hW.alike hK, hD.weaken (fun _ _ _ _ => trivial), xn_moved hW hN, by rw [hU]; exact hT.at hS hW (va_free hD hS hA (List.range ws.length) (dc_all ws)), by rw [hU]; exact hG.at hS hW (va_free hD hS hA (List.range ws.length) (dc_all ws))⟩⟩ rfl hn hsize hst (lv_room hw) hdg hf
end DCT
set_option maxHeartbeats 8000000 in
set_option maxRecDepth 100000 in
theorem ct_String_coder_SG (l : Launch) (dC : Nat → ClassId) (dI : Nat → Nat → Nat) (cI cB cJ cZ cQ : ClassId) (N sz : Nat) (a : Nat → Nat) (v : Nat → Value) (ad : Nat → Nat) (s : ms) (y : (Int32 × ms)) (hf : fn_String_coder_SG N s = some y) : Met l yn_String_coder (xw yn_String_coder bn_String_coder 1 (some .byte)) ({ frames := 0, cells := 0, slots := 0, locals := 0 }) (dc_PS (dC, dI) xcl (xt cI cB cJ cZ cQ) [.ref ((ad 3))] sz (wC a v cI cB cJ cZ cQ s) ad) (xk_Qi (dC, dI) xcl (xt cI cB cJ cZ cQ) (fun (r : Int32) (_ : Unit) => r = y.1) (fun u : Unit => (wC a v cI cB cJ cZ cQ y.2)) (va_A (wC a v cI cB cJ cZ cQ s) sz)) 0 0 (va_A (wC a v cI cB cJ cZ cQ s) sz) := by
  refine dc_ofS (ad := ad) (QA := xk_Qi (dC, dI) xcl (xt cI cB cJ cZ cQ) (fun (r : Int32) (_ : Unit) => r = y.1) (fun u : Unit => (wC a v cI cB cJ cZ cQ y.2))) (by decide) (Nat.le_of_ble_eq_true rfl) ?_
  intro p e s0 m below meth c hx hb hml hown hg hr hlocks hin hP hK hN A hA hD hT hG ls hl
  have hown : s0.vm.findClass rn_String = some m.cls := hown
  obtain ⟨H, hH⟩ : ∃ z, z = s0.heap := ⟨_, rfl⟩
  rw [← hH] at hP
  have hS : va_S A s0.heap H [] := by rw [hH]; exact va_S.rf
  suffices kk : ∀ QQ : State → Prop, QQ = MQ below (xk_Qi (dC, dI) xcl (xt cI cB cJ cZ cQ) (fun (r : Int32) (_ : Unit) => r = y.1) (fun u : Unit => (wC a v cI cB cJ cZ cQ y.2)) A) [.ref ((ad 3))].toArray s0 0 0 A → dcC p l e ({ frames := 0, cells := 0, slots := 0, locals := 0 }) s0 m [.ref ((ad 3))].toArray below meth c QQ (dC, dI) A (wC a v cI cB cJ cZ cQ s) 0 1 [(0, .ref ((ad 3)))] [] by
    have k9 := kk _ rfl H [] ls hP hD hS hl
    rw [hH] at k9; exact k9
  clear hP hD hS hl hH H ls
  intro QQ hQQ
  obtain ⟨tw, hZ, hTT⟩ := id hT
  intro H locs ls hP hD hS hl
  unfold fn_String_coder_SG at hf
  refine va_gets hx hb hG.2.2.1 hS hown (hg _ wn_4_1) (fun _ h9 => h9) dn_String_coder_0 ?_
  refine lv_if_eq (tgt := 13) hx hb dn_String_coder_3 (by decide) (fun h9 => absurd h9 (by decide)) (fun _ => ?_)
  refine lv_aload_n hx hb dn_String_coder_6 rfl (lv_at hl 0 rfl) ?_
  refine vk_getf hx hb hG.2.2.2.2.2.2.1 hS hown (hg _ wn_11_69) (fun _ h9 => h9) dn_String_coder_7 ?_
  refine lv_goto (tgt := 14) hx hb dn_String_coder_10 (by decide) ?_
  rw [hQQ, ← Option.some.inj hf]
  exact xk_zret (w1 := fun u : Unit => (wC a v cI cB cJ cZ cQ s)) () hx hb hr rfl hlocks hK hS dn_String_coder_14 hP hD rfl (Nat.le_refl _) (Nat.le_refl _)
set_option maxHeartbeats 8000000 in
set_option maxRecDepth 100000 in
theorem ct_String_isLatin1_SG (l : Launch) (dC : Nat → ClassId) (dI : Nat → Nat → Nat) (cI cB cJ cZ cQ : ClassId) (N sz : Nat) (a : Nat → Nat) (v : Nat → Value) (ad : Nat → Nat) (s : ms) (y : (Int32 × ms)) (hf : fn_String_isLatin1_SG N s = some y) : Met l yn_String_isLatin1 (xw yn_String_isLatin1 bn_String_isLatin1 1 (some .boolean)) ({ frames := 0, cells := 0, slots := 0, locals := 0 }) (dc_PS (dC, dI) xcl (xt cI cB cJ cZ cQ) [.ref ((ad 3))] sz (wC a v cI cB cJ cZ cQ s) ad) (xk_Qi (dC, dI) xcl (xt cI cB cJ cZ cQ) (fun (r : Int32) (_ : Unit) => r = y.1) (fun u : Unit => (wC a v cI cB cJ cZ cQ y.2)) (va_A (wC a v cI cB cJ cZ cQ s) sz)) 0 0 (va_A (wC a v cI cB cJ cZ cQ s) sz) := by
  refine dc_ofS (ad := ad) (QA := xk_Qi (dC, dI) xcl (xt cI cB cJ cZ cQ) (fun (r : Int32) (_ : Unit) => r = y.1) (fun u : Unit => (wC a v cI cB cJ cZ cQ y.2))) (by decide) (Nat.le_of_ble_eq_true rfl) ?_
  intro p e s0 m below meth c hx hb hml hown hg hr hlocks hin hP hK hN A hA hD hT hG ls hl
  have hown : s0.vm.findClass rn_String = some m.cls := hown
  obtain ⟨H, hH⟩ : ∃ z, z = s0.heap := ⟨_, rfl⟩
  rw [← hH] at hP
  have hS : va_S A s0.heap H [] := by rw [hH]; exact va_S.rf
  suffices kk : ∀ QQ : State → Prop, QQ = MQ below (xk_Qi (dC, dI) xcl (xt cI cB cJ cZ cQ) (fun (r : Int32) (_ : Unit) => r = y.1) (fun u : Unit => (wC a v cI cB cJ cZ cQ y.2)) A) [.ref ((ad 3))].toArray s0 0 0 A → dcC p l e ({ frames := 0, cells := 0, slots := 0, locals := 0 }) s0 m [.ref ((ad 3))].toArray below meth c QQ (dC, dI) A (wC a v cI cB cJ cZ cQ s) 0 1 [(0, .ref ((ad 3)))] [] by
    have k9 := kk _ rfl H [] ls hP hD hS hl
    rw [hH] at k9; exact k9
  clear hP hD hS hl hH H ls
  intro QQ hQQ
  obtain ⟨tw, hZ, hTT⟩ := id hT
  intro H locs ls hP hD hS hl
  unfold fn_String_isLatin1_SG at hf
  refine va_gets hx hb hG.2.2.1 hS hown (hg _ wn_4_1) (fun _ h9 => h9) dn_String_isLatin1_0 ?_
  refine lv_if_eq (tgt := 17) hx hb dn_String_isLatin1_3 (by decide) (fun h9 => absurd h9 (by decide)) (fun _ => ?_)
  refine lv_aload_n hx hb dn_String_isLatin1_6 rfl (lv_at hl 0 rfl) ?_
  refine vk_getf hx hb hG.2.2.2.2.2.2.1 hS hown (hg _ wn_11_69) (fun _ h9 => h9) dn_String_isLatin1_7 ?_
  refine lv_if_ne (tgt := 17) hx hb dn_String_isLatin1_10 (by decide) (fun h9 => absurd h9 (by decide)) (fun _ => ?_)
  refine lv_iconst (v := 1) hx hb dn_String_isLatin1_13 (by decide) ?_
  refine lv_goto (tgt := 18) hx hb dn_String_isLatin1_14 (by decide) ?_
  rw [hQQ, ← Option.some.inj hf]
  exact xk_zret (w1 := fun u : Unit => (wC a v cI cB cJ cZ cQ s)) () hx hb hr rfl hlocks hK hS dn_String_isLatin1_18 hP hD rfl (Nat.le_refl _) (Nat.le_refl _)
set_option maxHeartbeats 8000000 in
set_option maxRecDepth 100000 in
theorem ct_String_length_SG (l : Launch) (dC : Nat → ClassId) (dI : Nat → Nat → Nat) (cI cB cJ cZ cQ : ClassId) (N sz : Nat) (a : Nat → Nat) (v : Nat → Value) (ad : Nat → Nat) (s : ms) (y : (Int32 × ms)) (hf : fn_String_length_SG N s = some y) : Met l yn_String_length (xw yn_String_length bn_String_length 1 (some .int)) ({ frames := 1, cells := 0, slots := 0, locals := 20 }) (dc_PS (dC, dI) xcl (xt cI cB cJ cZ cQ) [.ref ((ad 3))] sz (wC a v cI cB cJ cZ cQ s) ad) (xk_Qi (dC, dI) xcl (xt cI cB cJ cZ cQ) (fun (r : Int32) (_ : Unit) => r = y.1) (fun u : Unit => (wC a v cI cB cJ cZ cQ y.2)) (va_A (wC a v cI cB cJ cZ cQ s) sz)) 0 0 (va_A (wC a v cI cB cJ cZ cQ s) sz) := by
  refine dc_ofS (ad := ad) (QA := xk_Qi (dC, dI) xcl (xt cI cB cJ cZ cQ) (fun (r : Int32) (_ : Unit) => r = y.1) (fun u : Unit => (wC a v cI cB cJ cZ cQ y.2))) (by decide) (Nat.le_of_ble_eq_true rfl) ?_
  intro p e s0 m below meth c hx hb hml hown hg hr hlocks hin hP hK hN A hA hD hT hG ls hl
  have hown : s0.vm.findClass rn_String = some m.cls := hown
  obtain ⟨H, hH⟩ : ∃ z, z = s0.heap := ⟨_, rfl⟩
  rw [← hH] at hP
  have hS : va_S A s0.heap H [] := by rw [hH]; exact va_S.rf
  suffices kk : ∀ QQ : State → Prop, QQ = MQ below (xk_Qi (dC, dI) xcl (xt cI cB cJ cZ cQ) (fun (r : Int32) (_ : Unit) => r = y.1) (fun u : Unit => (wC a v cI cB cJ cZ cQ y.2)) A) [.ref ((ad 3))].toArray s0 0 0 A → dcC p l e ({ frames := 1, cells := 0, slots := 0, locals := 20 }) s0 m [.ref ((ad 3))].toArray below meth c QQ (dC, dI) A (wC a v cI cB cJ cZ cQ s) 0 1 [(0, .ref ((ad 3)))] [] by
    have k9 := kk _ rfl H [] ls hP hD hS hl
    rw [hH] at k9; exact k9
  clear hP hD hS hl hH H ls
  intro QQ hQQ
  intro H locs ls hP hD hS hl
  unfold fn_String_length_SG at hf
  refine lv_aload_n hx hb dn_String_length_0 rfl (lv_at hl 0 rfl) ?_
  refine vk_getf hx hb hG.2.2.2.2.2.2.2.1 hS hown (hg _ wn_11_68) (fun _ h9 => h9) dn_String_length_1 ?_
  refine va_tlen (v := 23) hx hb hG.2.2.2.2.2.2.2.2 hS rfl dn_String_length_4 ?_
  refine lv_aload_n hx hb dn_String_length_5 rfl (lv_at hl 0 rfl) ?_
  refine dc_calli (dc_runVT (C := "java/lang/String") (ar := 0) (As := []) (rest := [.int 23]) ⟨hx, hb, hml, hown, hg⟩ hK hN hT hG hS hA (ct_String_coder_SG l dC dI cI cB cJ cZ cQ N H.size a v ad s (0, s) rfl) hP hD (dc_rec hG.2.2.2.2.2.1 hS) wn_3_237 wn_3_238 wn_3_239 wn_1_21 wn_4_0 rfl rfl (by decide +kernel) ⟨Nat.le_of_ble_eq_true rfl, Nat.le_of_ble_eq_true rfl⟩ rfl hl.1 rfl (Nat.le_of_ble_eq_true rfl) dn_String_length_6 ⟨Nat.le_of_ble_eq_true rfl, Nat.le_of_ble_eq_true rfl⟩) hP hD hS hA (fun r_1 _ H locs hw hP hD hS => ?_)
  have hw : r_1 = 0 := hw
  subst hw
  refine lv_ishr hx hb dn_String_length_9 ?_
  rw [hQQ, ← Option.some.inj hf]
  exact xk_iret (w1 := fun u : Unit => (wC a v cI cB cJ cZ cQ s)) () hx hb hr hlocks hK hS dn_String_length_10 hP hD rfl (Nat.le_refl _) (Nat.le_refl _)
set_option maxHeartbeats 8000000 in
set_option maxRecDepth 100000 in
theorem ct_StringLatin1_canEncode (l : Launch) (dC : Nat → ClassId) (dI : Nat → Nat → Nat) (cI cB cJ cZ cQ : ClassId) (N sz : Nat) (a : Nat → Nat) (v : Nat → Value) (v0 : Int32) (s : ms) (y : (Int32 × ms)) (hf : fn_StringLatin1_canEncode N v0 s = some y) : Met l yn_StringLatin1_canEncode (xw yn_StringLatin1_canEncode bn_StringLatin1_canEncode 1 (some .boolean)) ({ frames := 0, cells := 0, slots := 0, locals := 0 }) (dc_P (dC, dI) xcl (xt cI cB cJ cZ cQ) [.int v0] sz (wC a v cI cB cJ cZ cQ s)) (xk_Qi (dC, dI) xcl (xt cI cB cJ cZ cQ) (fun (r : Int32) (_ : Unit) => r = y.1) (fun u : Unit => (wC a v cI cB cJ cZ cQ y.2)) (va_A (wC a v cI cB cJ cZ cQ s) sz)) 0 0 (va_A (wC a v cI cB cJ cZ cQ s) sz) := by
  refine dc_of (QA := xk_Qi (dC, dI) xcl (xt cI cB cJ cZ cQ) (fun (r : Int32) (_ : Unit) => r = y.1) (fun u : Unit => (wC a v cI cB cJ cZ cQ y.2))) (by decide) (Nat.le_of_ble_eq_true rfl) ?_
  intro p e s0 m below meth c hx hb hml hown hg hr hlocks hin hP hK hN A hA hD hT ls hl
  have hown : s0.vm.findClass rn_StringLatin1 = some m.cls := hown
  obtain ⟨H, hH⟩ : ∃ z, z = s0.heap := ⟨_, rfl⟩
  rw [← hH] at hP
  have hS : va_S A s0.heap H [] := by rw [hH]; exact va_S.rf
  suffices kk : ∀ QQ : State → Prop, QQ = MQ below (xk_Qi (dC, dI) xcl (xt cI cB cJ cZ cQ) (fun (r : Int32) (_ : Unit) => r = y.1) (fun u : Unit => (wC a v cI cB cJ cZ cQ y.2)) A) [.int v0].toArray s0 0 0 A → dcC p l e ({ frames := 0, cells := 0, slots := 0, locals := 0 }) s0 m [.int v0].toArray below meth c QQ (dC, dI) A (wC a v cI cB cJ cZ cQ s) 0 1 [(0, .int v0)] [] by
    have k9 := kk _ rfl H [] ls hP hD hS hl
    rw [hH] at k9; exact k9
  clear hP hD hS hl hH H ls
  intro QQ hQQ
  intro H locs ls hP hD hS hl
  unfold fn_StringLatin1_canEncode at hf
  refine lv_iload_n hx hb dn_StringLatin1_canEncode_0 rfl (lv_at hl 0 rfl) ?_
  refine lv_if_lt (tgt := 15) hx hb dn_StringLatin1_canEncode_1 (by decide) (fun h => ?_) (fun h => ?_)
  · have hf := (if_pos h).symm.trans hf
    refine lv_iconst (v := 0) hx hb dn_StringLatin1_canEncode_15 (by decide) ?_
    rw [hQQ, ← Option.some.inj hf]
    exact xk_zret (w1 := fun u : Unit => (wC a v cI cB cJ cZ cQ s)) () hx hb hr rfl hlocks hK hS dn_StringLatin1_canEncode_16 hP hD rfl (Nat.le_refl _) (Nat.le_refl _)
  · have hf := (if_neg h).symm.trans hf
    refine lv_iload_n hx hb dn_StringLatin1_canEncode_4 rfl (lv_at hl 0 rfl) ?_
    refine lv_sipush (v := 255) hx hb dn_StringLatin1_canEncode_5 (by decide) ?_
    refine lv_icmp_gt (tgt := 15) hx hb dn_StringLatin1_canEncode_8 (by decide) (fun h => ?_) (fun h => ?_)
    · have hf := (if_pos h).symm.trans hf
      refine lv_iconst (v := 0) hx hb dn_StringLatin1_canEncode_15 (by decide) ?_
      rw [hQQ, ← Option.some.inj hf]
      exact xk_zret (w1 := fun u : Unit => (wC a v cI cB cJ cZ cQ s)) () hx hb hr rfl hlocks hK hS dn_StringLatin1_canEncode_16 hP hD rfl (Nat.le_refl _) (Nat.le_refl _)
    · have hf := (if_neg h).symm.trans hf
      refine lv_iconst (v := 1) hx hb dn_StringLatin1_canEncode_11 (by decide) ?_
      refine lv_goto (tgt := 16) hx hb dn_StringLatin1_canEncode_12 (by decide) ?_
      rw [hQQ, ← Option.some.inj hf]
      exact xk_zret (w1 := fun u : Unit => (wC a v cI cB cJ cZ cQ s)) () hx hb hr rfl hlocks hK hS dn_StringLatin1_canEncode_16 hP hD rfl (Nat.le_refl _) (Nat.le_refl _)
set_option maxHeartbeats 8000000 in
set_option maxRecDepth 100000 in
theorem ct_StringLatin1_indexOfChar_SGB (l : Launch) (dC : Nat → ClassId) (dI : Nat → Nat → Nat) (cI cB cJ cZ cQ : ClassId) (N sz : Nat) (a : Nat → Nat) (v : Nat → Value) (ad : Nat → Nat) (v1 : Int32) (v2 : Int32) (v3 : Int32) (s : ms) (y : (Int32 × ms)) (hf : fn_StringLatin1_indexOfChar_SGB N v1 v2 v3 s = some y) : Met l yn_StringLatin1_indexOfChar (xw yn_StringLatin1_indexOfChar bn_StringLatin1_indexOfChar 6 (some .int)) ({ frames := 0, cells := 0, slots := 0, locals := 0 }) (dc_PS (dC, dI) xcl (xt cI cB cJ cZ cQ) [.ref ((ad 4)), .int v1, .int v2, .int v3] sz (wC a v cI cB cJ cZ cQ s) ad) (xk_Qi (dC, dI) xcl (xt cI cB cJ cZ cQ) (fun (r : Int32) (_ : Unit) => r = y.1) (fun u : Unit => (wC a v cI cB cJ cZ cQ y.2)) (va_A (wC a v cI cB cJ cZ cQ s) sz)) 0 0 (va_A (wC a v cI cB cJ cZ cQ s) sz) := by
  refine dc_ofS (ad := ad) (QA := xk_Qi (dC, dI) xcl (xt cI cB cJ cZ cQ) (fun (r : Int32) (_ : Unit) => r = y.1) (fun u : Unit => (wC a v cI cB cJ cZ cQ y.2))) (by decide) (Nat.le_of_ble_eq_true rfl) ?_
  intro p e s0 m below meth c hx hb hml hown hg hr hlocks hin hP hK hN A hA hD hT hG ls hl
  have hown : s0.vm.findClass rn_StringLatin1 = some m.cls := hown
  obtain ⟨H, hH⟩ : ∃ z, z = s0.heap := ⟨_, rfl⟩
  rw [← hH] at hP
  have hS : va_S A s0.heap H [] := by rw [hH]; exact va_S.rf
  suffices kk : ∀ QQ : State → Prop, QQ = MQ below (xk_Qi (dC, dI) xcl (xt cI cB cJ cZ cQ) (fun (r : Int32) (_ : Unit) => r = y.1) (fun u : Unit => (wC a v cI cB cJ cZ cQ y.2)) A) [.ref ((ad 4)), .int v1, .int v2, .int v3].toArray s0 0 0 A → dcC p l e ({ frames := 0, cells := 0, slots := 0, locals := 0 }) s0 m [.ref ((ad 4)), .int v1, .int v2, .int v3].toArray below meth c QQ (dC, dI) A (wC a v cI cB cJ cZ cQ s) 0 6 [(0, .ref ((ad 4))), (1, .int v1), (2, .int v2), (3, .int v3)] [] by
    have k9 := kk _ rfl H [] ls hP hD hS hl
    rw [hH] at k9; exact k9
  clear hP hD hS hl hH H ls
  intro QQ hQQ
  have hd_7 : ∀ (n : Nat) (x3 : Int32) (x4 : Int32) (x5 : Int32) (s : ms), hd_StringLatin1_indexOfChar_SGB_7 N n x3 x4 x5 s = some y → dcC p l e ({ frames := 0, cells := 0, slots := 0, locals := 0 }) s0 m [.ref ((ad 4)), .int v1, .int v2, .int v3].toArray below meth c QQ (dC, dI) A (wC a v cI cB cJ cZ cQ s) 7 6 [(0, .ref ((ad 4))), (3, .int x3), (4, .int x4), (5, .int x5)] [] := by
    intro n
    induction n with
    | zero => intro x3 x4 x5 s hf; cases hf
    | succ n ih =>
      intro x3 x4 x5 s hf H locs ls hP hD hS hl
      have hf : bd_StringLatin1_indexOfChar_SGB_7 N (hd_StringLatin1_indexOfChar_SGB_7 N n) x3 x4 x5 s = some y := hf
      have hk_7 := ih
      generalize hd_StringLatin1_indexOfChar_SGB_7 N n = k_7 at hf hk_7
      unfold bd_StringLatin1_indexOfChar_SGB_7 at hf
      refine lv_iload hx hb dn_StringLatin1_indexOfChar_7 (lv_at hl 3 rfl) ?_
      refine lv_iload_n hx hb dn_StringLatin1_indexOfChar_9 rfl (lv_at hl 1 rfl) ?_
      refine lv_icmp_ge (tgt := 31) hx hb dn_StringLatin1_indexOfChar_10 (by decide) (fun h => ?_) (fun h => ?_)
      · have hf := (if_pos h).symm.trans hf
        refine lv_iconst (v := (-1)) hx hb dn_StringLatin1_indexOfChar_31 (by decide) ?_
        rw [hQQ, ← Option.some.inj hf]
        exact xk_iret (w1 := fun u : Unit => (wC a v cI cB cJ cZ cQ s)) () hx hb hr hlocks hK hS dn_StringLatin1_indexOfChar_32 hP hD rfl (Nat.le_refl _) (Nat.le_refl _)
      · have hf := (if_neg h).symm.trans hf
        refine lv_aload_n hx hb dn_StringLatin1_indexOfChar_13 rfl (lv_at hl 0 rfl) ?_
        refine lv_iload hx hb dn_StringLatin1_indexOfChar_14 (lv_at hl 3 rfl) ?_
        obtain ⟨hg_1, hf⟩ := dc_g hf
        refine va_tb hx hb hG.2.2.2.2.2.2.2.2 hS hg_1 rfl dn_StringLatin1_indexOfChar_16 ?_
        refine W.eq (g2 := F0 m 17 _ (.int ((dc_sg (Int32.toNatClampNeg x5))) :: [])) rfl ?_
        refine lv_iload hx hb dn_StringLatin1_indexOfChar_17 (lv_at hl 2 rfl) ?_
        refine lv_icmp_ne (tgt := 25) hx hb dn_StringLatin1_indexOfChar_19 (by decide) (fun h => ?_) (fun h => ?_)
        · have hf := (if_neg h).symm.trans hf
          refine lv_iinc (v := (x5 + 1)) (lv' := [(5, .int ((x5 + 1))), (0, .ref ((ad 4))), (3, .int x3), (4, .int x4)]) hx hb dn_StringLatin1_indexOfChar_25 hl (k := 3) rfl (dc_inc (by decide)) (by decide) rfl (fun ls hl => ?_)
          refine lv_goto (tgt := 7) hx hb dn_StringLatin1_indexOfChar_28 (by decide) ?_
          exact hk_7 x3 x4 ((x5 + 1)) s hf H locs ls hP hD hS (lv_sub hl [1, 2, 3, 0] rfl)
        · have hf := (if_pos h).symm.trans hf
          refine lv_iload hx hb dn_StringLatin1_indexOfChar_22 (lv_at hl 3 rfl) ?_
          rw [hQQ, ← Option.some.inj hf]
          exact xk_iret (w1 := fun u : Unit => (wC a v cI cB cJ cZ cQ s)) () hx hb hr hlocks hK hS dn_StringLatin1_indexOfChar_24 hP hD rfl (Nat.le_refl _) (Nat.le_refl _)
  intro H locs ls hP hD hS hl
  unfold fn_StringLatin1_indexOfChar_SGB at hf
  refine lv_iload_n hx hb dn_StringLatin1_indexOfChar_0 rfl (lv_at hl 1 rfl) ?_
  refine lv_i2b (v := (Int32.toInt8 v1).toInt32) hx hb dn_StringLatin1_indexOfChar_1 rfl ?_
  refine lv_istore (lv' := [(4, .int (((Int32.toInt8 v1).toInt32))), (0, .ref ((ad 4))), (1, .int v1), (2, .int v2), (3, .int v3)]) hx hb dn_StringLatin1_indexOfChar_2 hl (by decide) rfl (fun ls hl => ?_)
  refine lv_iload_n hx hb dn_StringLatin1_indexOfChar_4 rfl (lv_at hl 3 rfl) ?_
  refine lv_istore (lv' := [(5, .int v2), (4, .int (((Int32.toInt8 v1).toInt32))), (0, .ref ((ad 4))), (1, .int v1), (2, .int v2), (3, .int v3)]) hx hb dn_StringLatin1_indexOfChar_5 hl (by decide) rfl (fun ls hl => ?_)
  exact hd_7 N v3 (((Int32.toInt8 v1).toInt32)) v2 s hf H locs ls hP hD hS (lv_sub hl [2, 5, 1, 0] rfl)
set_option maxHeartbeats 8000000 in
set_option maxRecDepth 100000 in
theorem ct_StringLatin1_indexOf_SGB (l : Launch) (dC : Nat → ClassId) (dI : Nat → Nat → Nat) (cI cB cJ cZ cQ : ClassId) (N sz : Nat) (a : Nat → Nat) (v : Nat → Value) (ad : Nat → Nat) (v1 : Int32) (v2 : Int32) (v3 : Int32) (s : ms) (y : (Int32 × ms)) (hf : fn_StringLatin1_indexOf_SGB N v1 v2 v3 s = some y) : Met l yn_StringLatin1_indexOf (xw yn_StringLatin1_indexOf bn_StringLatin1_indexOf 4 (some .int)) ({ frames := 1, cells := 0, slots := 0, locals := 40 }) (dc_PS (dC, dI) xcl (xt cI cB cJ cZ cQ) [.ref ((ad 4)), .int v1, .int v2, .int v3] sz (wC a v cI cB cJ cZ cQ s) ad) (xk_Qi (dC, dI) xcl (xt cI cB cJ cZ cQ) (fun (r : Int32) (_ : Unit) => r = y.1) (fun u : Unit => (wC a v cI cB cJ cZ cQ y.2)) (va_A (wC a v cI cB cJ cZ cQ s) sz)) 0 0 (va_A (wC a v cI cB cJ cZ cQ s) sz) := by
  refine dc_ofS (ad := ad) (QA := xk_Qi (dC, dI) xcl (xt cI cB cJ cZ cQ) (fun (r : Int32) (_ : Unit) => r = y.1) (fun u : Unit => (wC a v cI cB cJ cZ cQ y.2))) (by decide) (Nat.le_of_ble_eq_true rfl) ?_
  intro p e s0 m below meth c hx hb hml hown hg hr hlocks hin hP hK hN A hA hD hT hG ls hl
  have hown : s0.vm.findClass rn_StringLatin1 = some m.cls := hown
  obtain ⟨H, hH⟩ : ∃ z, z = s0.heap := ⟨_, rfl⟩
  rw [← hH] at hP
  have hS : va_S A s0.heap H [] := by rw [hH]; exact va_S.rf
  suffices kk : ∀ QQ : State → Prop, QQ = MQ below (xk_Qi (dC, dI) xcl (xt cI cB cJ cZ cQ) (fun (r : Int32) (_ : Unit) => r = y.1) (fun u : Unit => (wC a v cI cB cJ cZ cQ y.2)) A) [.ref ((ad 4)), .int v1, .int v2, .int v3].toArray s0 0 0 A → dcC p l e ({ frames := 1, cells := 0, slots := 0, locals := 40 }) s0 m [.ref ((ad 4)), .int v1, .int v2, .int v3].toArray below meth c QQ (dC, dI) A (wC a v cI cB cJ cZ cQ s) 0 4 [(0, .ref ((ad 4))), (1, .int v1), (2, .int v2), (3, .int v3)] [] by
    have k9 := kk _ rfl H [] ls hP hD hS hl
    rw [hH] at k9; exact k9
  clear hP hD hS hl hH H ls
  intro QQ hQQ
  intro H locs ls hP hD hS hl
  unfold fn_StringLatin1_indexOf_SGB at hf
  refine lv_iload_n hx hb dn_StringLatin1_indexOf_0 rfl (lv_at hl 1 rfl) ?_
  obtain ⟨q_1, hc_2, hf⟩ := dc_b hf
  refine dc_calli (dc_runS (ar := 1) (As := [.int v1]) (rest := []) ⟨hx, hb, hml, hown, hg⟩ hK hN hT hS hA (ct_StringLatin1_canEncode l dC dI cI cB cJ cZ cQ N H.size a v v1 s q_1 hc_2) hP hD wn_4_95 wn_4_96 wn_1_22 wn_4_97 rfl rfl (by decide +kernel) ⟨Nat.le_of_ble_eq_true rfl, Nat.le_of_ble_eq_true rfl⟩ rfl hl.1 rfl (Nat.le_of_ble_eq_true rfl) dn_StringLatin1_indexOf_1 ⟨Nat.le_of_ble_eq_true rfl, Nat.le_of_ble_eq_true rfl⟩) hP hD hS hA (fun r_3 _ H locs hw hP hD hS => ?_)
  have hw : r_3 = q_1.1 := hw
  subst hw
  refine lv_if_ne (tgt := 9) hx hb dn_StringLatin1_indexOf_4 (by decide) (fun h => ?_) (fun h => ?_)
  · have hf := (if_neg h).symm.trans hf
    refine lv_iload_n hx hb dn_StringLatin1_indexOf_9 rfl (lv_at hl 2 rfl) ?_
    refine lv_iconst (v := 0) hx hb dn_StringLatin1_indexOf_10 (by decide) ?_
    refine va_mmax (x := v2) (y := 0) (rest := []) hx hb (by rw [hml]; exact hl.1.symm) hown (hg _ wn_4_98) (hg _ wn_4_99) (hg _ wn_1_19) (hg _ wn_4_100) (Nat.le_of_ble_eq_true rfl) (Nat.le_of_ble_eq_true rfl) (Nat.zero_le _) (Nat.zero_le _) dn_StringLatin1_indexOf_11 ?_
    refine lv_istore_n (lv' := [(2, .int ((if v2 < 0 then 0 else v2))), (0, .ref ((ad 4))), (1, .int v1), (3, .int v3)]) hx hb dn_StringLatin1_indexOf_14 rfl hl (by decide) rfl (fun ls hl => ?_)
    refine lv_iload_n hx hb dn_StringLatin1_indexOf_15 rfl (lv_at hl 3 rfl) ?_
    refine lv_aload_n hx hb dn_StringLatin1_indexOf_16 rfl (lv_at hl 1 rfl) ?_
    refine va_tlen (v := 23) hx hb hG.2.2.2.2.2.2.2.2 hS rfl dn_StringLatin1_indexOf_17 ?_
    refine va_mmin (x := v3) (y := 23) (rest := []) hx hb (by rw [hml]; exact hl.1.symm) hown (hg _ wn_4_101) (hg _ wn_3_168) (hg _ wn_1_19) (hg _ wn_3_169) (Nat.le_of_ble_eq_true rfl) (Nat.le_of_ble_eq_true rfl) (Nat.zero_le _) (Nat.zero_le _) dn_StringLatin1_indexOf_18 ?_
    refine lv_istore_n (lv' := [(3, .int ((if 23 < v3 then 23 else v3))), (2, .int ((if v2 < 0 then 0 else v2))), (0, .ref ((ad 4))), (1, .int v1)]) hx hb dn_StringLatin1_indexOf_21 rfl hl (by decide) rfl (fun ls hl => ?_)
    refine lv_iload_n hx hb dn_StringLatin1_indexOf_22 rfl (lv_at hl 1 rfl) ?_
    refine lv_iload_n hx hb dn_StringLatin1_indexOf_23 rfl (lv_at hl 0 rfl) ?_
    refine lv_icmp_lt (tgt := 29) hx hb dn_StringLatin1_indexOf_24 (by decide) (fun h => ?_) (fun h => ?_)
    · have hf := (if_pos h).symm.trans hf
      refine lv_aload_n hx hb dn_StringLatin1_indexOf_29 rfl (lv_at hl 2 rfl) ?_
      refine lv_iload_n hx hb dn_StringLatin1_indexOf_30 rfl (lv_at hl 3 rfl) ?_
      refine lv_iload_n hx hb dn_StringLatin1_indexOf_31 rfl (lv_at hl 1 rfl) ?_
      refine lv_iload_n hx hb dn_StringLatin1_indexOf_32 rfl (lv_at hl 0 rfl) ?_
      obtain ⟨q_4, hc_5, hf⟩ := dc_b hf
      refine dc_calli (dc_runSS (ar := 4) (As := [.ref ((ad 4)), .int v1, .int ((if v2 < 0 then 0 else v2)), .int ((if 23 < v3 then 23 else v3))]) (rest := []) ⟨hx, hb, hml, hown, hg⟩ hK hN hT hG hS hA (ct_StringLatin1_indexOfChar_SGB l dC dI cI cB cJ cZ cQ N H.size a v ad v1 ((if v2 < 0 then 0 else v2)) ((if 23 < v3 then 23 else v3)) q_1.2 q_4 hc_5) hP hD wn_4_102 wn_4_103 wn_1_22 wn_4_104 rfl rfl (by decide +kernel) ⟨Nat.le_of_ble_eq_true rfl, Nat.le_of_ble_eq_true rfl⟩ rfl hl.1 rfl (Nat.le_of_ble_eq_true rfl) dn_StringLatin1_indexOf_33 ⟨Nat.le_of_ble_eq_true rfl, Nat.le_of_ble_eq_true rfl⟩) hP hD hS hA (fun r_6 _ H locs hw hP hD hS => ?_)
      have hw : r_6 = q_4.1 := hw
      subst hw
      rw [hQQ, ← Option.some.inj hf]
      exact xk_iret (w1 := fun u : Unit => (wC a v cI cB cJ cZ cQ q_4.2)) () hx hb hr hlocks hK hS dn_StringLatin1_indexOf_36 hP hD rfl (Nat.le_refl _) (Nat.le_refl _)
    · have hf := (if_neg h).symm.trans hf
      refine lv_iconst (v := (-1)) hx hb dn_StringLatin1_indexOf_27 (by decide) ?_
      rw [hQQ, ← Option.some.inj hf]
      exact xk_iret (w1 := fun u : Unit => (wC a v cI cB cJ cZ cQ q_1.2)) () hx hb hr hlocks hK hS dn_StringLatin1_indexOf_28 hP hD rfl (Nat.le_refl _) (Nat.le_refl _)
  · have hf := (if_pos h).symm.trans hf
    refine lv_iconst (v := (-1)) hx hb dn_StringLatin1_indexOf_7 (by decide) ?_
    rw [hQQ, ← Option.some.inj hf]
    exact xk_iret (w1 := fun u : Unit => (wC a v cI cB cJ cZ cQ q_1.2)) () hx hb hr hlocks hK hS dn_StringLatin1_indexOf_8 hP hD rfl (Nat.le_refl _) (Nat.le_refl _)
set_option maxHeartbeats 8000000 in
set_option maxRecDepth 100000 in
theorem ct_String_indexOf_III_SG (l : Launch) (dC : Nat → ClassId) (dI : Nat → Nat → Nat) (cI cB cJ cZ cQ : ClassId) (N sz : Nat) (a : Nat → Nat) (v : Nat → Value) (ad : Nat → Nat) (v1 : Int32) (v2 : Int32) (s : ms) (y : (Int32 × ms)) (hf : fn_String_indexOf_III_SG N v1 v2 s = some y) : Met l yn_String_indexOf_III (xw yn_String_indexOf_III bn_String_indexOf_III 3 (some .int)) ({ frames := 2, cells := 0, slots := 0, locals := 63 }) (dc_PS (dC, dI) xcl (xt cI cB cJ cZ cQ) [.ref ((ad 3)), .int v1, .int v2] sz (wC a v cI cB cJ cZ cQ s) ad) (xk_Qi (dC, dI) xcl (xt cI cB cJ cZ cQ) (fun (r : Int32) (_ : Unit) => r = y.1) (fun u : Unit => (wC a v cI cB cJ cZ cQ y.2)) (va_A (wC a v cI cB cJ cZ cQ s) sz)) 0 0 (va_A (wC a v cI cB cJ cZ cQ s) sz) := by
  refine dc_ofS (ad := ad) (QA := xk_Qi (dC, dI) xcl (xt cI cB cJ cZ cQ) (fun (r : Int32) (_ : Unit) => r = y.1) (fun u : Unit => (wC a v cI cB cJ cZ cQ y.2))) (by decide) (Nat.le_of_ble_eq_true rfl) ?_
  intro p e s0 m below meth c hx hb hml hown hg hr hlocks hin hP hK hN A hA hD hT hG ls hl
  have hown : s0.vm.findClass rn_String = some m.cls := hown
  obtain ⟨H, hH⟩ : ∃ z, z = s0.heap := ⟨_, rfl⟩
  rw [← hH] at hP
  have hS : va_S A s0.heap H [] := by rw [hH]; exact va_S.rf
  suffices kk : ∀ QQ : State → Prop, QQ = MQ below (xk_Qi (dC, dI) xcl (xt cI cB cJ cZ cQ) (fun (r : Int32) (_ : Unit) => r = y.1) (fun u : Unit => (wC a v cI cB cJ cZ cQ y.2)) A) [.ref ((ad 3)), .int v1, .int v2].toArray s0 0 0 A → dcC p l e ({ frames := 2, cells := 0, slots := 0, locals := 63 }) s0 m [.ref ((ad 3)), .int v1, .int v2].toArray below meth c QQ (dC, dI) A (wC a v cI cB cJ cZ cQ s) 0 3 [(0, .ref ((ad 3))), (1, .int v1), (2, .int v2)] [] by
    have k9 := kk _ rfl H [] ls hP hD hS hl
    rw [hH] at k9; exact k9
  clear hP hD hS hl hH H ls
  intro QQ hQQ
  intro H locs ls hP hD hS hl
  unfold fn_String_indexOf_III_SG at hf
  refine lv_aload_n hx hb dn_String_indexOf_III_0 rfl (lv_at hl 0 rfl) ?_
  refine dc_calli (dc_runVT (C := "java/lang/String") (ar := 0) (As := []) (rest := []) ⟨hx, hb, hml, hown, hg⟩ hK hN hT hG hS hA (ct_String_isLatin1_SG l dC dI cI cB cJ cZ cQ N H.size a v ad s (1, s) rfl) hP hD (dc_rec hG.2.2.2.2.2.1 hS) wn_4_7 wn_4_8 wn_4_9 wn_1_21 wn_4_10 rfl rfl (by decide +kernel) ⟨Nat.le_of_ble_eq_true rfl, Nat.le_of_ble_eq_true rfl⟩ rfl hl.1 rfl (Nat.le_of_ble_eq_true rfl) dn_String_indexOf_III_1 ⟨Nat.le_of_ble_eq_true rfl, Nat.le_of_ble_eq_true rfl⟩) hP hD hS hA (fun r_1 _ H locs hw hP hD hS => ?_)
  have hw : r_1 = 1 := hw
  subst hw
  refine lv_if_eq (tgt := 23) hx hb dn_String_indexOf_III_4 (by decide) (fun h9 => absurd h9 (by decide)) (fun _ => ?_)
  refine lv_aload_n hx hb dn_String_indexOf_III_7 rfl (lv_at hl 0 rfl) ?_
  refine vk_getf hx hb hG.2.2.2.2.2.2.2.1 hS hown (hg _ wn_11_68) (fun _ h9 => h9) dn_String_indexOf_III_8 ?_
  refine lv_iload_n hx hb dn_String_indexOf_III_11 rfl (lv_at hl 1 rfl) ?_
  refine lv_iload_n hx hb dn_String_indexOf_III_12 rfl (lv_at hl 2 rfl) ?_
  refine lv_aload_n hx hb dn_String_indexOf_III_13 rfl (lv_at hl 0 rfl) ?_
  obtain ⟨q_2, hc_3, hf⟩ := dc_b hf
  refine dc_calli (dc_runVT (C := "java/lang/String") (ar := 0) (As := []) (rest := [.int v2, .int v1, .ref ((ad 4))]) ⟨hx, hb, hml, hown, hg⟩ hK hN hT hG hS hA (ct_String_length_SG l dC dI cI cB cJ cZ cQ N H.size a v ad s q_2 hc_3) hP hD (dc_rec hG.2.2.2.2.2.1 hS) wn_4_91 wn_3_234 wn_3_235 wn_1_21 wn_3_236 rfl rfl (by decide +kernel) ⟨Nat.le_of_ble_eq_true rfl, Nat.le_of_ble_eq_true rfl⟩ rfl hl.1 rfl (Nat.le_of_ble_eq_true rfl) dn_String_indexOf_III_14 ⟨Nat.le_of_ble_eq_true rfl, Nat.le_of_ble_eq_true rfl⟩) hP hD hS hA (fun r_4 _ H locs hw hP hD hS => ?_)
  have hw : r_4 = q_2.1 := hw
  subst hw
  obtain ⟨q_5, hc_6, hf⟩ := dc_b hf
  refine dc_calli (dc_runSS (ar := 4) (As := [.ref ((ad 4)), .int v1, .int v2, .int q_2.1]) (rest := []) ⟨hx, hb, hml, hown, hg⟩ hK hN hT hG hS hA (ct_StringLatin1_indexOf_SGB l dC dI cI cB cJ cZ cQ N H.size a v ad v1 v2 q_2.1 q_2.2 q_5 hc_6) hP hD wn_4_92 wn_4_93 wn_1_22 wn_4_94 rfl rfl (by decide +kernel) ⟨Nat.le_of_ble_eq_true rfl, Nat.le_of_ble_eq_true rfl⟩ rfl hl.1 rfl (Nat.le_of_ble_eq_true rfl) dn_String_indexOf_III_17 ⟨Nat.le_of_ble_eq_true rfl, Nat.le_of_ble_eq_true rfl⟩) hP hD hS hA (fun r_7 _ H locs hw hP hD hS => ?_)
  have hw : r_7 = q_5.1 := hw
  subst hw
  refine lv_goto (tgt := 36) hx hb dn_String_indexOf_III_20 (by decide) ?_
  rw [hQQ, ← Option.some.inj hf]
  exact xk_iret (w1 := fun u : Unit => (wC a v cI cB cJ cZ cQ q_5.2)) () hx hb hr hlocks hK hS dn_String_indexOf_III_36 hP hD rfl (Nat.le_refl _) (Nat.le_refl _)
set_option maxHeartbeats 8000000 in
set_option maxRecDepth 100000 in
theorem ct_String_indexOf_II_SG (l : Launch) (dC : Nat → ClassId) (dI : Nat → Nat → Nat) (cI cB cJ cZ cQ : ClassId) (N sz : Nat) (a : Nat → Nat) (v : Nat → Value) (ad : Nat → Nat) (v1 : Int32) (s : ms) (y : (Int32 × ms)) (hf : fn_String_indexOf_II_SG N v1 s = some y) : Met l yn_String_indexOf_II (xw yn_String_indexOf_II bn_String_indexOf_II 2 (some .int)) ({ frames := 3, cells := 0, slots := 0, locals := 85 }) (dc_PS (dC, dI) xcl (xt cI cB cJ cZ cQ) [.ref ((ad 3)), .int v1] sz (wC a v cI cB cJ cZ cQ s) ad) (xk_Qi (dC, dI) xcl (xt cI cB cJ cZ cQ) (fun (r : Int32) (_ : Unit) => r = y.1) (fun u : Unit => (wC a v cI cB cJ cZ cQ y.2)) (va_A (wC a v cI cB cJ cZ cQ s) sz)) 0 0 (va_A (wC a v cI cB cJ cZ cQ s) sz) := by
  refine dc_ofS (ad := ad) (QA := xk_Qi (dC, dI) xcl (xt cI cB cJ cZ cQ) (fun (r : Int32) (_ : Unit) => r = y.1) (fun u : Unit => (wC a v cI cB cJ cZ cQ y.2))) (by decide) (Nat.le_of_ble_eq_true rfl) ?_
  intro p e s0 m below meth c hx hb hml hown hg hr hlocks hin hP hK hN A hA hD hT hG ls hl
  have hown : s0.vm.findClass rn_String = some m.cls := hown
  obtain ⟨H, hH⟩ : ∃ z, z = s0.heap := ⟨_, rfl⟩
  rw [← hH] at hP
  have hS : va_S A s0.heap H [] := by rw [hH]; exact va_S.rf
  suffices kk : ∀ QQ : State → Prop, QQ = MQ below (xk_Qi (dC, dI) xcl (xt cI cB cJ cZ cQ) (fun (r : Int32) (_ : Unit) => r = y.1) (fun u : Unit => (wC a v cI cB cJ cZ cQ y.2)) A) [.ref ((ad 3)), .int v1].toArray s0 0 0 A → dcC p l e ({ frames := 3, cells := 0, slots := 0, locals := 85 }) s0 m [.ref ((ad 3)), .int v1].toArray below meth c QQ (dC, dI) A (wC a v cI cB cJ cZ cQ s) 0 2 [(0, .ref ((ad 3))), (1, .int v1)] [] by
    have k9 := kk _ rfl H [] ls hP hD hS hl
    rw [hH] at k9; exact k9
  clear hP hD hS hl hH H ls
  intro QQ hQQ
  intro H locs ls hP hD hS hl
  unfold fn_String_indexOf_II_SG at hf
  refine lv_aload_n hx hb dn_String_indexOf_II_0 rfl (lv_at hl 0 rfl) ?_
  refine lv_iload_n hx hb dn_String_indexOf_II_1 rfl (lv_at hl 1 rfl) ?_
  refine lv_iconst (v := 0) hx hb dn_String_indexOf_II_2 (by decide) ?_
  obtain ⟨q_1, hc_2, hf⟩ := dc_b hf
  refine dc_calli (dc_runVT (C := "java/lang/String") (ar := 2) (As := [.int v1, .int 0]) (rest := []) ⟨hx, hb, hml, hown, hg⟩ hK hN hT hG hS hA (ct_String_indexOf_III_SG l dC dI cI cB cJ cZ cQ N H.size a v ad v1 0 s q_1 hc_2) hP hD (dc_rec hG.2.2.2.2.2.1 hS) wn_4_87 wn_4_88 wn_4_89 wn_1_21 wn_4_90 rfl rfl (by decide +kernel) ⟨Nat.le_of_ble_eq_true rfl, Nat.le_of_ble_eq_true rfl⟩ rfl hl.1 rfl (Nat.le_of_ble_eq_true rfl) dn_String_indexOf_II_3 ⟨Nat.le_of_ble_eq_true rfl, Nat.le_of_ble_eq_true rfl⟩) hP hD hS hA (fun r_3 _ H locs hw hP hD hS => ?_)
  have hw : r_3 = q_1.1 := hw
  subst hw
  rw [hQQ, ← Option.some.inj hf]
  exact xk_iret (w1 := fun u : Unit => (wC a v cI cB cJ cZ cQ q_1.2)) () hx hb hr hlocks hK hS dn_String_indexOf_II_6 hP hD rfl (Nat.le_refl _) (Nat.le_refl _)
set_option maxHeartbeats 8000000 in
set_option maxRecDepth 100000 in
theorem ct_String_coder_KW (l : Launch) (dC : Nat → ClassId) (dI : Nat → Nat → Nat) (cI cB cJ cZ cQ : ClassId) (N sz : Nat) (a : Nat → Nat) (v : Nat → Value) (ad : Nat → Nat) (s : ms) (y : (Int32 × ms)) (hf : fn_String_coder_KW N s = some y) : Met l yn_String_coder (xw yn_String_coder bn_String_coder 1 (some .byte)) ({ frames := 0, cells := 0, slots := 0, locals := 0 }) (dc_PS (dC, dI) xcl (xt cI cB cJ cZ cQ) [.ref ((ad 1))] sz (wC a v cI cB cJ cZ cQ s) ad) (xk_Qi (dC, dI) xcl (xt cI cB cJ cZ cQ) (fun (r : Int32) (_ : Unit) => r = y.1) (fun u : Unit => (wC a v cI cB cJ cZ cQ y.2)) (va_A (wC a v cI cB cJ cZ cQ s) sz)) 0 0 (va_A (wC a v cI cB cJ cZ cQ s) sz) := by
  refine dc_ofS (ad := ad) (QA := xk_Qi (dC, dI) xcl (xt cI cB cJ cZ cQ) (fun (r : Int32) (_ : Unit) => r = y.1) (fun u : Unit => (wC a v cI cB cJ cZ cQ y.2))) (by decide) (Nat.le_of_ble_eq_true rfl) ?_
  intro p e s0 m below meth c hx hb hml hown hg hr hlocks hin hP hK hN A hA hD hT hG ls hl
  have hown : s0.vm.findClass rn_String = some m.cls := hown
  obtain ⟨H, hH⟩ : ∃ z, z = s0.heap := ⟨_, rfl⟩
  rw [← hH] at hP
  have hS : va_S A s0.heap H [] := by rw [hH]; exact va_S.rf
  suffices kk : ∀ QQ : State → Prop, QQ = MQ below (xk_Qi (dC, dI) xcl (xt cI cB cJ cZ cQ) (fun (r : Int32) (_ : Unit) => r = y.1) (fun u : Unit => (wC a v cI cB cJ cZ cQ y.2)) A) [.ref ((ad 1))].toArray s0 0 0 A → dcC p l e ({ frames := 0, cells := 0, slots := 0, locals := 0 }) s0 m [.ref ((ad 1))].toArray below meth c QQ (dC, dI) A (wC a v cI cB cJ cZ cQ s) 0 1 [(0, .ref ((ad 1)))] [] by
    have k9 := kk _ rfl H [] ls hP hD hS hl
    rw [hH] at k9; exact k9
  clear hP hD hS hl hH H ls
  intro QQ hQQ
  obtain ⟨tw, hZ, hTT⟩ := id hT
  intro H locs ls hP hD hS hl
  unfold fn_String_coder_KW at hf
  refine va_gets hx hb hG.2.2.1 hS hown (hg _ wn_4_1) (fun _ h9 => h9) dn_String_coder_0 ?_
  refine lv_if_eq (tgt := 13) hx hb dn_String_coder_3 (by decide) (fun h9 => absurd h9 (by decide)) (fun _ => ?_)
  refine lv_aload_n hx hb dn_String_coder_6 rfl (lv_at hl 0 rfl) ?_
  refine vk_getf hx hb hG.2.2.2.2.1.2.1 hS hown (hg _ wn_11_69) (fun _ h9 => h9) dn_String_coder_7 ?_
  refine lv_goto (tgt := 14) hx hb dn_String_coder_10 (by decide) ?_
  rw [hQQ, ← Option.some.inj hf]
  exact xk_zret (w1 := fun u : Unit => (wC a v cI cB cJ cZ cQ s)) () hx hb hr rfl hlocks hK hS dn_String_coder_14 hP hD rfl (Nat.le_refl _) (Nat.le_refl _)
set_option maxHeartbeats 8000000 in
set_option maxRecDepth 100000 in
theorem ct_String_length_KW (l : Launch) (dC : Nat → ClassId) (dI : Nat → Nat → Nat) (cI cB cJ cZ cQ : ClassId) (N sz : Nat) (a : Nat → Nat) (v : Nat → Value) (ad : Nat → Nat) (s : ms) (y : (Int32 × ms)) (hf : fn_String_length_KW N s = some y) : Met l yn_String_length (xw yn_String_length bn_String_length 1 (some .int)) ({ frames := 1, cells := 0, slots := 0, locals := 20 }) (dc_PS (dC, dI) xcl (xt cI cB cJ cZ cQ) [.ref ((ad 1))] sz (wC a v cI cB cJ cZ cQ s) ad) (xk_Qi (dC, dI) xcl (xt cI cB cJ cZ cQ) (fun (r : Int32) (_ : Unit) => r = y.1) (fun u : Unit => (wC a v cI cB cJ cZ cQ y.2)) (va_A (wC a v cI cB cJ cZ cQ s) sz)) 0 0 (va_A (wC a v cI cB cJ cZ cQ s) sz) := by
  refine dc_ofS (ad := ad) (QA := xk_Qi (dC, dI) xcl (xt cI cB cJ cZ cQ) (fun (r : Int32) (_ : Unit) => r = y.1) (fun u : Unit => (wC a v cI cB cJ cZ cQ y.2))) (by decide) (Nat.le_of_ble_eq_true rfl) ?_
  intro p e s0 m below meth c hx hb hml hown hg hr hlocks hin hP hK hN A hA hD hT hG ls hl
  have hown : s0.vm.findClass rn_String = some m.cls := hown
  obtain ⟨H, hH⟩ : ∃ z, z = s0.heap := ⟨_, rfl⟩
  rw [← hH] at hP
  have hS : va_S A s0.heap H [] := by rw [hH]; exact va_S.rf
  suffices kk : ∀ QQ : State → Prop, QQ = MQ below (xk_Qi (dC, dI) xcl (xt cI cB cJ cZ cQ) (fun (r : Int32) (_ : Unit) => r = y.1) (fun u : Unit => (wC a v cI cB cJ cZ cQ y.2)) A) [.ref ((ad 1))].toArray s0 0 0 A → dcC p l e ({ frames := 1, cells := 0, slots := 0, locals := 20 }) s0 m [.ref ((ad 1))].toArray below meth c QQ (dC, dI) A (wC a v cI cB cJ cZ cQ s) 0 1 [(0, .ref ((ad 1)))] [] by
    have k9 := kk _ rfl H [] ls hP hD hS hl
    rw [hH] at k9; exact k9
  clear hP hD hS hl hH H ls
  intro QQ hQQ
  intro H locs ls hP hD hS hl
  unfold fn_String_length_KW at hf
  refine lv_aload_n hx hb dn_String_length_0 rfl (lv_at hl 0 rfl) ?_
  refine vk_getf hx hb hG.2.2.2.2.1.2.2.1 hS hown (hg _ wn_11_68) (fun _ h9 => h9) dn_String_length_1 ?_
  refine va_tlen (v := 113) hx hb hG.2.2.2.2.1.2.2.2 hS rfl dn_String_length_4 ?_
  refine lv_aload_n hx hb dn_String_length_5 rfl (lv_at hl 0 rfl) ?_
  refine dc_calli (dc_runVT (C := "java/lang/String") (ar := 0) (As := []) (rest := [.int 113]) ⟨hx, hb, hml, hown, hg⟩ hK hN hT hG hS hA (ct_String_coder_KW l dC dI cI cB cJ cZ cQ N H.size a v ad s (0, s) rfl) hP hD (dc_rec hG.2.2.2.2.1.1 hS) wn_3_237 wn_3_238 wn_3_239 wn_1_21 wn_4_0 rfl rfl (by decide +kernel) ⟨Nat.le_of_ble_eq_true rfl, Nat.le_of_ble_eq_true rfl⟩ rfl hl.1 rfl (Nat.le_of_ble_eq_true rfl) dn_String_length_6 ⟨Nat.le_of_ble_eq_true rfl, Nat.le_of_ble_eq_true rfl⟩) hP hD hS hA (fun r_1 _ H locs hw hP hD hS => ?_)
  have hw : r_1 = 0 := hw
  subst hw
  refine lv_ishr hx hb dn_String_length_9 ?_
  rw [hQQ, ← Option.some.inj hf]
  exact xk_iret (w1 := fun u : Unit => (wC a v cI cB cJ cZ cQ s)) () hx hb hr hlocks hK hS dn_String_length_10 hP hD rfl (Nat.le_refl _) (Nat.le_refl _)
set_option maxHeartbeats 8000000 in
set_option maxRecDepth 100000 in
theorem ct_String_isLatin1_KW (l : Launch) (dC : Nat → ClassId) (dI : Nat → Nat → Nat) (cI cB cJ cZ cQ : ClassId) (N sz : Nat) (a : Nat → Nat) (v : Nat → Value) (ad : Nat → Nat) (s : ms) (y : (Int32 × ms)) (hf : fn_String_isLatin1_KW N s = some y) : Met l yn_String_isLatin1 (xw yn_String_isLatin1 bn_String_isLatin1 1 (some .boolean)) ({ frames := 0, cells := 0, slots := 0, locals := 0 }) (dc_PS (dC, dI) xcl (xt cI cB cJ cZ cQ) [.ref ((ad 1))] sz (wC a v cI cB cJ cZ cQ s) ad) (xk_Qi (dC, dI) xcl (xt cI cB cJ cZ cQ) (fun (r : Int32) (_ : Unit) => r = y.1) (fun u : Unit => (wC a v cI cB cJ cZ cQ y.2)) (va_A (wC a v cI cB cJ cZ cQ s) sz)) 0 0 (va_A (wC a v cI cB cJ cZ cQ s) sz) := by
  refine dc_ofS (ad := ad) (QA := xk_Qi (dC, dI) xcl (xt cI cB cJ cZ cQ) (fun (r : Int32) (_ : Unit) => r = y.1) (fun u : Unit => (wC a v cI cB cJ cZ cQ y.2))) (by decide) (Nat.le_of_ble_eq_true rfl) ?_
  intro p e s0 m below meth c hx hb hml hown hg hr hlocks hin hP hK hN A hA hD hT hG ls hl
  have hown : s0.vm.findClass rn_String = some m.cls := hown
  obtain ⟨H, hH⟩ : ∃ z, z = s0.heap := ⟨_, rfl⟩
  rw [← hH] at hP
  have hS : va_S A s0.heap H [] := by rw [hH]; exact va_S.rf
  suffices kk : ∀ QQ : State → Prop, QQ = MQ below (xk_Qi (dC, dI) xcl (xt cI cB cJ cZ cQ) (fun (r : Int32) (_ : Unit) => r = y.1) (fun u : Unit => (wC a v cI cB cJ cZ cQ y.2)) A) [.ref ((ad 1))].toArray s0 0 0 A → dcC p l e ({ frames := 0, cells := 0, slots := 0, locals := 0 }) s0 m [.ref ((ad 1))].toArray below meth c QQ (dC, dI) A (wC a v cI cB cJ cZ cQ s) 0 1 [(0, .ref ((ad 1)))] [] by
    have k9 := kk _ rfl H [] ls hP hD hS hl
    rw [hH] at k9; exact k9
  clear hP hD hS hl hH H ls
  intro QQ hQQ
  obtain ⟨tw, hZ, hTT⟩ := id hT
  intro H locs ls hP hD hS hl
  unfold fn_String_isLatin1_KW at hf
  refine va_gets hx hb hG.2.2.1 hS hown (hg _ wn_4_1) (fun _ h9 => h9) dn_String_isLatin1_0 ?_
  refine lv_if_eq (tgt := 17) hx hb dn_String_isLatin1_3 (by decide) (fun h9 => absurd h9 (by decide)) (fun _ => ?_)
  refine lv_aload_n hx hb dn_String_isLatin1_6 rfl (lv_at hl 0 rfl) ?_
  refine vk_getf hx hb hG.2.2.2.2.1.2.1 hS hown (hg _ wn_11_69) (fun _ h9 => h9) dn_String_isLatin1_7 ?_
  refine lv_if_ne (tgt := 17) hx hb dn_String_isLatin1_10 (by decide) (fun h9 => absurd h9 (by decide)) (fun _ => ?_)
  refine lv_iconst (v := 1) hx hb dn_String_isLatin1_13 (by decide) ?_
  refine lv_goto (tgt := 18) hx hb dn_String_isLatin1_14 (by decide) ?_
  rw [hQQ, ← Option.some.inj hf]
  exact xk_zret (w1 := fun u : Unit => (wC a v cI cB cJ cZ cQ s)) () hx hb hr rfl hlocks hK hS dn_String_isLatin1_18 hP hD rfl (Nat.le_refl _) (Nat.le_refl _)
set_option maxHeartbeats 8000000 in
set_option maxRecDepth 100000 in
theorem ct_Preconditions_checkIndex_NUL (l : Launch) (dC : Nat → ClassId) (dI : Nat → Nat → Nat) (cI cB cJ cZ cQ : ClassId) (N sz : Nat) (a : Nat → Nat) (v : Nat → Value) (ad : Nat → Nat) (v0 : Int32) (v1 : Int32) (s : ms) (y : (Int32 × ms)) (hf : fn_Preconditions_checkIndex_NUL N v0 v1 s = some y) : Met l yn_Preconditions_checkIndex (xw yn_Preconditions_checkIndex bn_Preconditions_checkIndex 3 (some .int)) ({ frames := 0, cells := 0, slots := 0, locals := 0 }) (dc_PS (dC, dI) xcl (xt cI cB cJ cZ cQ) [.int v0, .int v1, .null] sz (wC a v cI cB cJ cZ cQ s) ad) (xk_Qi (dC, dI) xcl (xt cI cB cJ cZ cQ) (fun (r : Int32) (_ : Unit) => r = y.1) (fun u : Unit => (wC a v cI cB cJ cZ cQ y.2)) (va_A (wC a v cI cB cJ cZ cQ s) sz)) 0 0 (va_A (wC a v cI cB cJ cZ cQ s) sz) := by
  refine dc_ofS (ad := ad) (QA := xk_Qi (dC, dI) xcl (xt cI cB cJ cZ cQ) (fun (r : Int32) (_ : Unit) => r = y.1) (fun u : Unit => (wC a v cI cB cJ cZ cQ y.2))) (by decide) (Nat.le_of_ble_eq_true rfl) ?_
  intro p e s0 m below meth c hx hb hml hown hg hr hlocks hin hP hK hN A hA hD hT hG ls hl
  have hown : s0.vm.findClass rn_Preconditions = some m.cls := hown
  obtain ⟨H, hH⟩ : ∃ z, z = s0.heap := ⟨_, rfl⟩
  rw [← hH] at hP
  have hS : va_S A s0.heap H [] := by rw [hH]; exact va_S.rf
  suffices kk : ∀ QQ : State → Prop, QQ = MQ below (xk_Qi (dC, dI) xcl (xt cI cB cJ cZ cQ) (fun (r : Int32) (_ : Unit) => r = y.1) (fun u : Unit => (wC a v cI cB cJ cZ cQ y.2)) A) [.int v0, .int v1, .null].toArray s0 0 0 A → dcC p l e ({ frames := 0, cells := 0, slots := 0, locals := 0 }) s0 m [.int v0, .int v1, .null].toArray below meth c QQ (dC, dI) A (wC a v cI cB cJ cZ cQ s) 0 3 [(0, .int v0), (1, .int v1), (2, .null)] [] by
    have k9 := kk _ rfl H [] ls hP hD hS hl
    rw [hH] at k9; exact k9
  clear hP hD hS hl hH H ls
  intro QQ hQQ
  have bl_9 : ∀ (x0 : Int32) (x1 : Int32) (s : ms), bk_Preconditions_checkIndex_NUL_9 N x0 x1 s = some y → dcC p l e ({ frames := 0, cells := 0, slots := 0, locals := 0 }) s0 m [.int v0, .int v1, .null].toArray below meth c QQ (dC, dI) A (wC a v cI cB cJ cZ cQ s) 9 3 [(0, .int x0), (1, .int x1), (2, .null)] [] := by
    intro x0 x1 s hf H locs ls hP hD hS hl
    unfold bk_Preconditions_checkIndex_NUL_9 at hf
    refine lv_aload_nN hx hb dn_Preconditions_checkIndex_9 rfl (lv_at hl 2 rfl) ?_
    refine lv_iload_n hx hb dn_Preconditions_checkIndex_10 rfl (lv_at hl 0 rfl) ?_
    refine lv_iload_n hx hb dn_Preconditions_checkIndex_11 rfl (lv_at hl 1 rfl) ?_
    cases hf
  intro H locs ls hP hD hS hl
  unfold fn_Preconditions_checkIndex_NUL at hf
  refine lv_iload_n hx hb dn_Preconditions_checkIndex_0 rfl (lv_at hl 0 rfl) ?_
  refine lv_if_lt (tgt := 9) hx hb dn_Preconditions_checkIndex_1 (by decide) (fun h => ?_) (fun h => ?_)
  · have hf := (if_pos h).symm.trans hf
    exact bl_9 v0 v1 s hf H locs ls hP hD hS hl
  · have hf := (if_neg h).symm.trans hf
    refine lv_iload_n hx hb dn_Preconditions_checkIndex_4 rfl (lv_at hl 0 rfl) ?_
    refine lv_iload_n hx hb dn_Preconditions_checkIndex_5 rfl (lv_at hl 1 rfl) ?_
    refine lv_icmp_lt (tgt := 16) hx hb dn_Preconditions_checkIndex_6 (by decide) (fun h => ?_) (fun h => ?_)
    · have hf := (if_pos h).symm.trans hf
      refine lv_iload_n hx hb dn_Preconditions_checkIndex_16 rfl (lv_at hl 0 rfl) ?_
      rw [hQQ, ← Option.some.inj hf]
      exact xk_iret (w1 := fun u : Unit => (wC a v cI cB cJ cZ cQ s)) () hx hb hr hlocks hK hS dn_Preconditions_checkIndex_17 hP hD rfl (Nat.le_refl _) (Nat.le_refl _)
    · have hf := (if_neg h).symm.trans hf
      exact bl_9 v0 v1 s hf H locs ls hP hD hS hl

set_option maxHeartbeats 8000000 in
set_option maxRecDepth 100000 in
theorem ct_Preconditions_checkIndex_ANY (l : Launch) (dC : Nat → ClassId) (dI : Nat → Nat → Nat) (cI cB cJ cZ cQ : ClassId) (N sz : Nat) (a : Nat → Nat) (v : Nat → Value) (ad : Nat → Nat) (tz : Nat) (v0 : Int32) (v1 : Int32) (s : ms) (y : (Int32 × ms)) (hf : fn_Preconditions_checkIndex_NUL N v0 v1 s = some y) : Met l yn_Preconditions_checkIndex (xw yn_Preconditions_checkIndex bn_Preconditions_checkIndex 3 (some .int)) ({ frames := 0, cells := 0, slots := 0, locals := 0 }) (dc_PS (dC, dI) xcl (xt cI cB cJ cZ cQ) [.int v0, .int v1, .ref tz] sz (wC a v cI cB cJ cZ cQ s) ad) (xk_Qi (dC, dI) xcl (xt cI cB cJ cZ cQ) (fun (r : Int32) (_ : Unit) => r = y.1) (fun u : Unit => (wC a v cI cB cJ cZ cQ y.2)) (va_A (wC a v cI cB cJ cZ cQ s) sz)) 0 0 (va_A (wC a v cI cB cJ cZ cQ s) sz) := by
  refine dc_ofS (ad := ad) (QA := xk_Qi (dC, dI) xcl (xt cI cB cJ cZ cQ) (fun (r : Int32) (_ : Unit) => r = y.1) (fun u : Unit => (wC a v cI cB cJ cZ cQ y.2))) (by decide) (Nat.le_of_ble_eq_true rfl) ?_
  intro p e s0 m below meth c hx hb hml hown hg hr hlocks hin hP hK hN A hA hD hT hG ls hl
  have hown : s0.vm.findClass rn_Preconditions = some m.cls := hown
  obtain ⟨H, hH⟩ : ∃ z, z = s0.heap := ⟨_, rfl⟩
  rw [← hH] at hP
  have hS : va_S A s0.heap H [] := by rw [hH]; exact va_S.rf
  suffices kk : ∀ QQ : State → Prop, QQ = MQ below (xk_Qi (dC, dI) xcl (xt cI cB cJ cZ cQ) (fun (r : Int32) (_ : Unit) => r = y.1) (fun u : Unit => (wC a v cI cB cJ cZ cQ y.2)) A) [.int v0, .int v1, .ref tz].toArray s0 0 0 A → dcC p l e ({ frames := 0, cells := 0, slots := 0, locals := 0 }) s0 m [.int v0, .int v1, .ref tz].toArray below meth c QQ (dC, dI) A (wC a v cI cB cJ cZ cQ s) 0 3 [(0, .int v0), (1, .int v1), (2, .ref tz)] [] by
    have k9 := kk _ rfl H [] ls hP hD hS hl
    rw [hH] at k9; exact k9
  clear hP hD hS hl hH H ls
  intro QQ hQQ
  have bl_9 : ∀ (x0 : Int32) (x1 : Int32) (s : ms), bk_Preconditions_checkIndex_NUL_9 N x0 x1 s = some y → dcC p l e ({ frames := 0, cells := 0, slots := 0, locals := 0 }) s0 m [.int v0, .int v1, .ref tz].toArray below meth c QQ (dC, dI) A (wC a v cI cB cJ cZ cQ s) 9 3 [(0, .int x0), (1, .int x1), (2, .ref tz)] [] := by
    intro x0 x1 s hf H locs ls hP hD hS hl
    unfold bk_Preconditions_checkIndex_NUL_9 at hf
    refine lv_aload_n hx hb dn_Preconditions_checkIndex_9 rfl (lv_at hl 2 rfl) ?_
    refine lv_iload_n hx hb dn_Preconditions_checkIndex_10 rfl (lv_at hl 0 rfl) ?_
    refine lv_iload_n hx hb dn_Preconditions_checkIndex_11 rfl (lv_at hl 1 rfl) ?_
    cases hf
  intro H locs ls hP hD hS hl
  unfold fn_Preconditions_checkIndex_NUL at hf
  refine lv_iload_n hx hb dn_Preconditions_checkIndex_0 rfl (lv_at hl 0 rfl) ?_
  refine lv_if_lt (tgt := 9) hx hb dn_Preconditions_checkIndex_1 (by decide) (fun h => ?_) (fun h => ?_)
  · have hf := (if_pos h).symm.trans hf
    exact bl_9 v0 v1 s hf H locs ls hP hD hS hl
  · have hf := (if_neg h).symm.trans hf
    refine lv_iload_n hx hb dn_Preconditions_checkIndex_4 rfl (lv_at hl 0 rfl) ?_
    refine lv_iload_n hx hb dn_Preconditions_checkIndex_5 rfl (lv_at hl 1 rfl) ?_
    refine lv_icmp_lt (tgt := 16) hx hb dn_Preconditions_checkIndex_6 (by decide) (fun h => ?_) (fun h => ?_)
    · have hf := (if_pos h).symm.trans hf
      refine lv_iload_n hx hb dn_Preconditions_checkIndex_16 rfl (lv_at hl 0 rfl) ?_
      rw [hQQ, ← Option.some.inj hf]
      exact xk_iret (w1 := fun u : Unit => (wC a v cI cB cJ cZ cQ s)) () hx hb hr hlocks hK hS dn_Preconditions_checkIndex_17 hP hD rfl (Nat.le_refl _) (Nat.le_refl _)
    · have hf := (if_neg h).symm.trans hf
      exact bl_9 v0 v1 s hf H locs ls hP hD hS hl
set_option maxHeartbeats 8000000 in
set_option maxRecDepth 100000 in
theorem ct_String_checkIndex (l : Launch) (dC : Nat → ClassId) (dI : Nat → Nat → Nat) (cI cB cJ cZ cQ : ClassId) (N sz : Nat) (a : Nat → Nat) (v : Nat → Value) (ad : Nat → Nat) (v0 : Int32) (v1 : Int32) (s : ms) (y : (Unit × ms)) (hf : fn_String_checkIndex N v0 v1 s = some y) : Met l yn_String_checkIndex (xw yn_String_checkIndex bn_String_checkIndex 2 none) ({ frames := 1, cells := 0, slots := 0, locals := 22 }) (dc_PS (dC, dI) xcl (xt cI cB cJ cZ cQ) [.int v0, .int v1] sz (wC a v cI cB cJ cZ cQ s) ad) (xk_Qv (dC, dI) xcl (xt cI cB cJ cZ cQ) (fun _ : Unit => True) (fun u : Unit => (wC a v cI cB cJ cZ cQ y.2)) (va_A (wC a v cI cB cJ cZ cQ s) sz)) 0 0 (va_A (wC a v cI cB cJ cZ cQ s) sz) := by
  refine dc_ofS (ad := ad) (QA := xk_Qv (dC, dI) xcl (xt cI cB cJ cZ cQ) (fun _ : Unit => True) (fun u : Unit => (wC a v cI cB cJ cZ cQ y.2))) (by decide) (Nat.le_of_ble_eq_true rfl) ?_
  intro p e s0 m below meth c hx hb hml hown hg hr hlocks hin hP hK hN A hA hD hT hG ls hl
  have hown : s0.vm.findClass rn_String = some m.cls := hown
  obtain ⟨H, hH⟩ : ∃ z, z = s0.heap := ⟨_, rfl⟩
  rw [← hH] at hP
  have hS : va_S A s0.heap H [] := by rw [hH]; exact va_S.rf
  suffices kk : ∀ QQ : State → Prop, QQ = MQ below (xk_Qv (dC, dI) xcl (xt cI cB cJ cZ cQ) (fun _ : Unit => True) (fun u : Unit => (wC a v cI cB cJ cZ cQ y.2)) A) [.int v0, .int v1].toArray s0 0 0 A → dcC p l e ({ frames := 1, cells := 0, slots := 0, locals := 22 }) s0 m [.int v0, .int v1].toArray below meth c QQ (dC, dI) A (wC a v cI cB cJ cZ cQ s) 0 2 [(0, .int v0), (1, .int v1)] [] by
    have k9 := kk _ rfl H [] ls hP hD hS hl
    rw [hH] at k9; exact k9
  clear hP hD hS hl hH H ls
  intro QQ hQQ
  obtain ⟨tw, hZ, hTT⟩ := id hT
  intro H locs ls hP hD hS hl
  unfold fn_String_checkIndex at hf
  refine lv_iload_n hx hb dn_String_checkIndex_0 rfl (lv_at hl 0 rfl) ?_
  refine lv_iload_n hx hb dn_String_checkIndex_1 rfl (lv_at hl 1 rfl) ?_
  rcases hG.2.2.2.1 with hz | ⟨tz, hz⟩
  · refine va_gets hx hb hz hS hown (hg _ wn_4_17) (fun _ h9 => h9) dn_String_checkIndex_2 ?_
    obtain ⟨q_1, hc_2, hf⟩ := dc_b hf
    refine dc_calli (dc_runSS (ar := 3) (As := [.int v0, .int v1, .null]) (rest := []) ⟨hx, hb, hml, hown, hg⟩ hK hN hT hG hS hA (ct_Preconditions_checkIndex_NUL l dC dI cI cB cJ cZ cQ N H.size a v ad v0 v1 s q_1 hc_2) hP hD wn_4_19 wn_4_20 wn_1_23 wn_4_21 rfl rfl (by decide +kernel) ⟨Nat.le_of_ble_eq_true rfl, Nat.le_of_ble_eq_true rfl⟩ rfl hl.1 rfl (Nat.le_of_ble_eq_true rfl) dn_String_checkIndex_5 ⟨Nat.le_of_ble_eq_true rfl, Nat.le_of_ble_eq_true rfl⟩) hP hD hS hA (fun r_3 _ H locs hw hP hD hS => ?_)
    have hw : r_3 = q_1.1 := hw
    subst hw
    refine lv_pop hx hb dn_String_checkIndex_8 rfl ?_
    rw [hQQ, ← Option.some.inj hf]
    exact xk_vret (w1 := fun u : Unit => (wC a v cI cB cJ cZ cQ q_1.2)) () hx hb hr hlocks hK hS dn_String_checkIndex_9 hP hD trivial (Nat.le_refl _) (Nat.le_refl _)
  · refine va_gets hx hb hz hS hown (hg _ wn_4_17) (fun _ h9 => h9) dn_String_checkIndex_2 ?_
    obtain ⟨q_1, hc_2, hf⟩ := dc_b hf
    refine dc_calli (dc_runSS (ar := 3) (As := [.int v0, .int v1, .ref tz]) (rest := []) ⟨hx, hb, hml, hown, hg⟩ hK hN hT hG hS hA (ct_Preconditions_checkIndex_ANY l dC dI cI cB cJ cZ cQ N H.size a v ad tz v0 v1 s q_1 hc_2) hP hD wn_4_19 wn_4_20 wn_1_23 wn_4_21 rfl rfl (by decide +kernel) ⟨Nat.le_of_ble_eq_true rfl, Nat.le_of_ble_eq_true rfl⟩ rfl hl.1 rfl (Nat.le_of_ble_eq_true rfl) dn_String_checkIndex_5 ⟨Nat.le_of_ble_eq_true rfl, Nat.le_of_ble_eq_true rfl⟩) hP hD hS hA (fun r_3 _ H locs hw hP hD hS => ?_)
    have hw : r_3 = q_1.1 := hw
    subst hw
    refine lv_pop hx hb dn_String_checkIndex_8 rfl ?_
    rw [hQQ, ← Option.some.inj hf]
    exact xk_vret (w1 := fun u : Unit => (wC a v cI cB cJ cZ cQ q_1.2)) () hx hb hr hlocks hK hS dn_String_checkIndex_9 hP hD trivial (Nat.le_refl _) (Nat.le_refl _)
set_option maxHeartbeats 8000000 in
set_option maxRecDepth 100000 in
theorem ct_StringLatin1_charAt_KWB (l : Launch) (dC : Nat → ClassId) (dI : Nat → Nat → Nat) (cI cB cJ cZ cQ : ClassId) (N sz : Nat) (a : Nat → Nat) (v : Nat → Value) (ad : Nat → Nat) (v1 : Int32) (s : ms) (y : (Int32 × ms)) (hf : fn_StringLatin1_charAt_KWB N v1 s = some y) : Met l yn_StringLatin1_charAt (xw yn_StringLatin1_charAt bn_StringLatin1_charAt 2 (some .char)) ({ frames := 2, cells := 0, slots := 0, locals := 43 }) (dc_PS (dC, dI) xcl (xt cI cB cJ cZ cQ) [.ref ((ad 2)), .int v1] sz (wC a v cI cB cJ cZ cQ s) ad) (xk_Qi (dC, dI) xcl (xt cI cB cJ cZ cQ) (fun (r : Int32) (_ : Unit) => r = y.1) (fun u : Unit => (wC a v cI cB cJ cZ cQ y.2)) (va_A (wC a v cI cB cJ cZ cQ s) sz)) 0 0 (va_A (wC a v cI cB cJ cZ cQ s) sz) := by
  refine dc_ofS (ad := ad) (QA := xk_Qi (dC, dI) xcl (xt cI cB cJ cZ cQ) (fun (r : Int32) (_ : Unit) => r = y.1) (fun u : Unit => (wC a v cI cB cJ cZ cQ y.2))) (by decide) (Nat.le_of_ble_eq_true rfl) ?_
  intro p e s0 m below meth c hx hb hml hown hg hr hlocks hin hP hK hN A hA hD hT hG ls hl
  have hown : s0.vm.findClass rn_StringLatin1 = some m.cls := hown
  obtain ⟨H, hH⟩ : ∃ z, z = s0.heap := ⟨_, rfl⟩
  rw [← hH] at hP
  have hS : va_S A s0.heap H [] := by rw [hH]; exact va_S.rf
  suffices kk : ∀ QQ : State → Prop, QQ = MQ below (xk_Qi (dC, dI) xcl (xt cI cB cJ cZ cQ) (fun (r : Int32) (_ : Unit) => r = y.1) (fun u : Unit => (wC a v cI cB cJ cZ cQ y.2)) A) [.ref ((ad 2)), .int v1].toArray s0 0 0 A → dcC p l e ({ frames := 2, cells := 0, slots := 0, locals := 43 }) s0 m [.ref ((ad 2)), .int v1].toArray below meth c QQ (dC, dI) A (wC a v cI cB cJ cZ cQ s) 0 2 [(0, .ref ((ad 2))), (1, .int v1)] [] by
    have k9 := kk _ rfl H [] ls hP hD hS hl
    rw [hH] at k9; exact k9
  clear hP hD hS hl hH H ls
  intro QQ hQQ
  intro H locs ls hP hD hS hl
  unfold fn_StringLatin1_charAt_KWB at hf
  refine lv_iload_n hx hb dn_StringLatin1_charAt_0 rfl (lv_at hl 1 rfl) ?_
  refine lv_aload_n hx hb dn_StringLatin1_charAt_1 rfl (lv_at hl 0 rfl) ?_
  refine va_tlen (v := 113) hx hb hG.2.2.2.2.1.2.2.2 hS rfl dn_StringLatin1_charAt_2 ?_
  obtain ⟨q_1, hc_2, hf⟩ := dc_b hf
  refine dc_callv (dc_runSS (ar := 2) (As := [.int v1, .int 113]) (rest := []) ⟨hx, hb, hml, hown, hg⟩ hK hN hT hG hS hA (ct_String_checkIndex l dC dI cI cB cJ cZ cQ N H.size a v ad v1 113 s q_1 hc_2) hP hD wn_4_14 wn_4_15 wn_1_21 wn_4_16 rfl rfl (by decide +kernel) ⟨Nat.le_of_ble_eq_true rfl, Nat.le_of_ble_eq_true rfl⟩ rfl hl.1 rfl (Nat.le_of_ble_eq_true rfl) dn_StringLatin1_charAt_3 ⟨Nat.le_of_ble_eq_true rfl, Nat.le_of_ble_eq_true rfl⟩) hP hD hS hA (fun _ H locs hw hP hD hS => ?_)
  refine lv_aload_n hx hb dn_StringLatin1_charAt_6 rfl (lv_at hl 0 rfl) ?_
  refine lv_iload_n hx hb dn_StringLatin1_charAt_7 rfl (lv_at hl 1 rfl) ?_
  obtain ⟨hg_3, hf⟩ := dc_g hf
  refine va_tb hx hb hG.2.2.2.2.1.2.2.2 hS hg_3 rfl dn_StringLatin1_charAt_8 ?_
  refine W.eq (g2 := F0 m 9 _ (.int ((dc_kw (Int32.toNatClampNeg v1))) :: [])) rfl ?_
  refine lv_sipush (v := 255) hx hb dn_StringLatin1_charAt_9 (by decide) ?_
  refine lv_iand hx hb dn_StringLatin1_charAt_12 ?_
  refine lv_i2c (v := (Int32.toUInt32 (((dc_kw (Int32.toNatClampNeg v1)) &&& 255)) % 65536).toInt32) hx hb dn_StringLatin1_charAt_13 rfl ?_
  obtain ⟨hg_4, hf⟩ := dc_g hf
  rw [hQQ, ← Option.some.inj hf]
  exact xk_zret (w1 := fun u : Unit => (wC a v cI cB cJ cZ cQ q_1.2)) () hx hb hr (Decidable.not_not.mp hg_4) hlocks hK hS dn_StringLatin1_charAt_14 hP hD rfl (Nat.le_refl _) (Nat.le_refl _)
set_option maxHeartbeats 8000000 in
set_option maxRecDepth 100000 in
theorem ct_String_charAt_KW (l : Launch) (dC : Nat → ClassId) (dI : Nat → Nat → Nat) (cI cB cJ cZ cQ : ClassId) (N sz : Nat) (a : Nat → Nat) (v : Nat → Value) (ad : Nat → Nat) (v1 : Int32) (s : ms) (y : (Int32 × ms)) (hf : fn_String_charAt_KW N v1 s = some y) : Met l yn_String_charAt (xw yn_String_charAt bn_String_charAt 2 (some .char)) ({ frames := 3, cells := 0, slots := 0, locals := 64 }) (dc_PS (dC, dI) xcl (xt cI cB cJ cZ cQ) [.ref ((ad 1)), .int v1] sz (wC a v cI cB cJ cZ cQ s) ad) (xk_Qi (dC, dI) xcl (xt cI cB cJ cZ cQ) (fun (r : Int32) (_ : Unit) => r = y.1) (fun u : Unit => (wC a v cI cB cJ cZ cQ y.2)) (va_A (wC a v cI cB cJ cZ cQ s) sz)) 0 0 (va_A (wC a v cI cB cJ cZ cQ s) sz) := by
  refine dc_ofS (ad := ad) (QA := xk_Qi (dC, dI) xcl (xt cI cB cJ cZ cQ) (fun (r : Int32) (_ : Unit) => r = y.1) (fun u : Unit => (wC a v cI cB cJ cZ cQ y.2))) (by decide) (Nat.le_of_ble_eq_true rfl) ?_
  intro p e s0 m below meth c hx hb hml hown hg hr hlocks hin hP hK hN A hA hD hT hG ls hl
  have hown : s0.vm.findClass rn_String = some m.cls := hown
  obtain ⟨H, hH⟩ : ∃ z, z = s0.heap := ⟨_, rfl⟩
  rw [← hH] at hP
  have hS : va_S A s0.heap H [] := by rw [hH]; exact va_S.rf
  suffices kk : ∀ QQ : State → Prop, QQ = MQ below (xk_Qi (dC, dI) xcl (xt cI cB cJ cZ cQ) (fun (r : Int32) (_ : Unit) => r = y.1) (fun u : Unit => (wC a v cI cB cJ cZ cQ y.2)) A) [.ref ((ad 1)), .int v1].toArray s0 0 0 A → dcC p l e ({ frames := 3, cells := 0, slots := 0, locals := 64 }) s0 m [.ref ((ad 1)), .int v1].toArray below meth c QQ (dC, dI) A (wC a v cI cB cJ cZ cQ s) 0 2 [(0, .ref ((ad 1))), (1, .int v1)] [] by
    have k9 := kk _ rfl H [] ls hP hD hS hl
    rw [hH] at k9; exact k9
  clear hP hD hS hl hH H ls
  intro QQ hQQ
  intro H locs ls hP hD hS hl
  unfold fn_String_charAt_KW at hf
  refine lv_aload_n hx hb dn_String_charAt_0 rfl (lv_at hl 0 rfl) ?_
  refine dc_calli (dc_runVT (C := "java/lang/String") (ar := 0) (As := []) (rest := []) ⟨hx, hb, hml, hown, hg⟩ hK hN hT hG hS hA (ct_String_isLatin1_KW l dC dI cI cB cJ cZ cQ N H.size a v ad s (1, s) rfl) hP hD (dc_rec hG.2.2.2.2.1.1 hS) wn_4_7 wn_4_8 wn_4_9 wn_1_21 wn_4_10 rfl rfl (by decide +kernel) ⟨Nat.le_of_ble_eq_true rfl, Nat.le_of_ble_eq_true rfl⟩ rfl hl.1 rfl (Nat.le_of_ble_eq_true rfl) dn_String_charAt_1 ⟨Nat.le_of_ble_eq_true rfl, Nat.le_of_ble_eq_true rfl⟩) hP hD hS hA (fun r_1 _ H locs hw hP hD hS => ?_)
  have hw : r_1 = 1 := hw
  subst hw
  refine lv_if_eq (tgt := 16) hx hb dn_String_charAt_4 (by decide) (fun h9 => absurd h9 (by decide)) (fun _ => ?_)
  refine lv_aload_n hx hb dn_String_charAt_7 rfl (lv_at hl 0 rfl) ?_
  refine vk_getf hx hb hG.2.2.2.2.1.2.2.1 hS hown (hg _ wn_11_68) (fun _ h9 => h9) dn_String_charAt_8 ?_
  refine lv_iload_n hx hb dn_String_charAt_11 rfl (lv_at hl 1 rfl) ?_
  obtain ⟨q_2, hc_3, hf⟩ := dc_b hf
  refine dc_calli (dc_runSS (ar := 2) (As := [.ref ((ad 2)), .int v1]) (rest := []) ⟨hx, hb, hml, hown, hg⟩ hK hN hT hG hS hA (ct_StringLatin1_charAt_KWB l dC dI cI cB cJ cZ cQ N H.size a v ad v1 s q_2 hc_3) hP hD wn_4_11 wn_4_12 wn_1_22 wn_4_13 rfl rfl (by decide +kernel) ⟨Nat.le_of_ble_eq_true rfl, Nat.le_of_ble_eq_true rfl⟩ rfl hl.1 rfl (Nat.le_of_ble_eq_true rfl) dn_String_charAt_12 ⟨Nat.le_of_ble_eq_true rfl, Nat.le_of_ble_eq_true rfl⟩) hP hD hS hA (fun r_4 _ H locs hw hP hD hS => ?_)
  have hw : r_4 = q_2.1 := hw
  subst hw
  obtain ⟨hg_5, hf⟩ := dc_g hf
  rw [hQQ, ← Option.some.inj hf]
  exact xk_zret (w1 := fun u : Unit => (wC a v cI cB cJ cZ cQ q_2.2)) () hx hb hr (Decidable.not_not.mp hg_5) hlocks hK hS dn_String_charAt_15 hP hD rfl (Nat.le_refl _) (Nat.le_refl _)
set_option maxHeartbeats 8000000 in
set_option maxRecDepth 100000 in
theorem ct_Scanner_spells_Sc (l : Launch) (dC : Nat → ClassId) (dI : Nat → Nat → Nat) (cI cB cJ cZ cQ : ClassId) (N sz : Nat) (a : Nat → Nat) (v : Nat → Value) (ad : Nat → Nat) (hv_0 : v 0 = .ref (a 307)) (v1 : Int32) (v2 : Int32) (v3 : Int32) (s : ms) (y : (Int32 × ms)) (hf : fn_Scanner_spells_Sc N v1 v2 v3 s = some y) : Met l yn_Scanner_spells (xw yn_Scanner_spells bn_Scanner_spells 5 (some .boolean)) ({ frames := 4, cells := 0, slots := 0, locals := 85 }) (dc_PS (dC, dI) xcl (xt cI cB cJ cZ cQ) [.ref ((a 102)), .int v1, .int v2, .int v3] sz (wC a v cI cB cJ cZ cQ s) ad) (xk_Qi (dC, dI) xcl (xt cI cB cJ cZ cQ) (fun (r : Int32) (_ : Unit) => r = y.1) (fun u : Unit => (wC a v cI cB cJ cZ cQ y.2)) (va_A (wC a v cI cB cJ cZ cQ s) sz)) 0 0 (va_A (wC a v cI cB cJ cZ cQ s) sz) := by
  refine dc_ofS (ad := ad) (QA := xk_Qi (dC, dI) xcl (xt cI cB cJ cZ cQ) (fun (r : Int32) (_ : Unit) => r = y.1) (fun u : Unit => (wC a v cI cB cJ cZ cQ y.2))) (by decide) (Nat.le_of_ble_eq_true rfl) ?_
  intro p e s0 m below meth c hx hb hml hown hg hr hlocks hin hP hK hN A hA hD hT hG ls hl
  have hown : s0.vm.findClass rn_Scanner = some m.cls := hown
  obtain ⟨H, hH⟩ : ∃ z, z = s0.heap := ⟨_, rfl⟩
  rw [← hH] at hP
  have hS : va_S A s0.heap H [] := by rw [hH]; exact va_S.rf
  suffices kk : ∀ QQ : State → Prop, QQ = MQ below (xk_Qi (dC, dI) xcl (xt cI cB cJ cZ cQ) (fun (r : Int32) (_ : Unit) => r = y.1) (fun u : Unit => (wC a v cI cB cJ cZ cQ y.2)) A) [.ref ((a 102)), .int v1, .int v2, .int v3].toArray s0 0 0 A → dcC p l e ({ frames := 4, cells := 0, slots := 0, locals := 85 }) s0 m [.ref ((a 102)), .int v1, .int v2, .int v3].toArray below meth c QQ (dC, dI) A (wC a v cI cB cJ cZ cQ s) 0 5 [(0, .ref ((a 102))), (1, .int v1), (2, .int v2), (3, .int v3)] [] by
    have k9 := kk _ rfl H [] ls hP hD hS hl
    rw [hH] at k9; exact k9
  clear hP hD hS hl hH H ls
  intro QQ hQQ
  have hd_3 : ∀ (n : Nat) (x1 : Int32) (x2 : Int32) (x3 : Int32) (x4 : Int32) (s : ms), hd_Scanner_spells_Sc_3 N n x1 x2 x3 x4 s = some y → dcC p l e ({ frames := 4, cells := 0, slots := 0, locals := 85 }) s0 m [.ref ((a 102)), .int v1, .int v2, .int v3].toArray below meth c QQ (dC, dI) A (wC a v cI cB cJ cZ cQ s) 3 5 [(0, .ref ((a 102))), (1, .int x1), (2, .int x2), (3, .int x3), (4, .int x4)] [] := by
    intro n
    induction n with
    | zero => intro x1 x2 x3 x4 s hf; cases hf
    | succ n ih =>
      intro x1 x2 x3 x4 s hf H locs ls hP hD hS hl
      have hf : bd_Scanner_spells_Sc_3 N (hd_Scanner_spells_Sc_3 N n) x1 x2 x3 x4 s = some y := hf
      have hk_3 := ih
      generalize hd_Scanner_spells_Sc_3 N n = k_3 at hf hk_3
      unfold bd_Scanner_spells_Sc_3 at hf
      refine lv_iload hx hb dn_Scanner_spells_3 (lv_at hl 4 rfl) ?_
      refine lv_iload_n hx hb dn_Scanner_spells_5 rfl (lv_at hl 3 rfl) ?_
      refine lv_icmp_ge (tgt := 37) hx hb dn_Scanner_spells_6 (by decide) (fun h => ?_) (fun h => ?_)
      · have hf := (if_pos h).symm.trans hf
        refine lv_iconst (v := 1) hx hb dn_Scanner_spells_37 (by decide) ?_
        rw [hQQ, ← Option.some.inj hf]
        exact xk_zret (w1 := fun u : Unit => (wC a v cI cB cJ cZ cQ s)) () hx hb hr rfl hlocks hK hS dn_Scanner_spells_38 hP hD rfl (Nat.le_refl _) (Nat.le_refl _)
      · have hf := (if_neg h).symm.trans hf
        refine va_ldcS hx hb hown hG.1 dn_Scanner_spells_9 ?_
        refine lv_iload_n hx hb dn_Scanner_spells_11 rfl (lv_at hl 1 rfl) ?_
        refine lv_iload hx hb dn_Scanner_spells_12 (lv_at hl 4 rfl) ?_
        refine lv_iadd hx hb dn_Scanner_spells_14 ?_
        refine lv_iload_n hx hb dn_Scanner_spells_15 rfl (lv_at hl 2 rfl) ?_
        refine lv_isub hx hb dn_Scanner_spells_16 ?_
        obtain ⟨q_1, hc_2, hf⟩ := dc_b hf
        refine dc_calli (dc_runVT (C := "java/lang/String") (ar := 1) (As := [.int (((x1 + x4) - x2))]) (rest := []) ⟨hx, hb, hml, hown, hg⟩ hK hN hT hG hS hA (ct_String_charAt_KW l dC dI cI cB cJ cZ cQ N H.size a v ad (((x1 + x4) - x2)) s q_1 hc_2) hP hD (dc_rec hG.2.2.2.2.1.1 hS) wn_4_3 wn_4_4 wn_4_5 wn_1_21 wn_4_6 rfl rfl (by decide +kernel) ⟨Nat.le_of_ble_eq_true rfl, Nat.le_of_ble_eq_true rfl⟩ rfl hl.1 rfl (Nat.le_of_ble_eq_true rfl) dn_Scanner_spells_17 ⟨Nat.le_of_ble_eq_true rfl, Nat.le_of_ble_eq_true rfl⟩) hP hD hS hA (fun r_3 _ H locs hw hP hD hS => ?_)
        have hw : r_3 = q_1.1 := hw
        subst hw
        refine lv_aload_n hx hb dn_Scanner_spells_20 rfl (lv_at hl 0 rfl) ?_
        refine lv_iload hx hb dn_Scanner_spells_21 (lv_at hl 4 rfl) ?_
        obtain ⟨q_4, hc_5, hf⟩ := dc_b hf
        refine dc_calli (dc_runV (ar := 1) (As := [.int x4]) (rest := [.int q_1.1]) (ci := 3) (q0 := 2) ⟨hx, hb, hml, hown, hg⟩ hK hN hT hS hA (ct_Scanner_byteAt_Sc l dC dI cI cB cJ cZ cQ N H.size a v hv_0 x4 q_1.2 q_4 hc_5) hP hD rfl rfl wn_3_194 wn_3_196 sn_Scanner_byteAt wn_1_3 wn_3_197 rfl rfl (by decide +kernel) ⟨Nat.le_of_ble_eq_true rfl, Nat.le_of_ble_eq_true rfl⟩ rfl hl.1 rfl (Nat.le_of_ble_eq_true rfl) dn_Scanner_spells_23 ⟨Nat.le_of_ble_eq_true rfl, Nat.le_of_ble_eq_true rfl⟩) hP hD hS hA (fun r_6 _ H locs hw hP hD hS => ?_)
        have hw : r_6 = q_4.1 := hw
        subst hw
        refine lv_icmp_eq (tgt := 31) hx hb dn_Scanner_spells_26 (by decide) (fun h => ?_) (fun h => ?_)
        · have hf := (if_pos h).symm.trans hf
          refine lv_iinc (v := (x4 + 1)) (lv' := [(4, .int ((x4 + 1))), (0, .ref ((a 102))), (1, .int x1), (2, .int x2), (3, .int x3)]) hx hb dn_Scanner_spells_31 hl (k := 4) rfl (dc_inc (by decide)) (by decide) rfl (fun ls hl => ?_)
          refine lv_goto (tgt := 3) hx hb dn_Scanner_spells_34 (by decide) ?_
          exact hk_3 x1 x2 x3 ((x4 + 1)) q_4.2 hf H locs ls hP hD hS (lv_sub hl [1, 2, 3, 4, 0] rfl)
        · have hf := (if_neg h).symm.trans hf
          refine lv_iconst (v := 0) hx hb dn_Scanner_spells_29 (by decide) ?_
          rw [hQQ, ← Option.some.inj hf]
          exact xk_zret (w1 := fun u : Unit => (wC a v cI cB cJ cZ cQ q_4.2)) () hx hb hr rfl hlocks hK hS dn_Scanner_spells_30 hP hD rfl (Nat.le_refl _) (Nat.le_refl _)
  intro H locs ls hP hD hS hl
  unfold fn_Scanner_spells_Sc at hf
  refine lv_iload_n hx hb dn_Scanner_spells_0 rfl (lv_at hl 2 rfl) ?_
  refine lv_istore (lv' := [(4, .int v2), (0, .ref ((a 102))), (1, .int v1), (2, .int v2), (3, .int v3)]) hx hb dn_Scanner_spells_1 hl (by decide) rfl (fun ls hl => ?_)
  exact hd_3 N v1 v2 v3 v2 s hf H locs ls hP hD hS (lv_sub hl [1, 2, 3, 4, 0] rfl)
set_option maxHeartbeats 8000000 in
set_option maxRecDepth 100000 in
theorem ct_Scanner_kindOf_Sc (l : Launch) (dC : Nat → ClassId) (dI : Nat → Nat → Nat) (cI cB cJ cZ cQ : ClassId) (N sz : Nat) (a : Nat → Nat) (v : Nat → Value) (ad : Nat → Nat) (hv_0 : v 0 = .ref (a 307)) (v1 : Int32) (v2 : Int32) (s : ms) (y : (Int32 × ms)) (hf : fn_Scanner_kindOf_Sc N v1 v2 s = some y) : Met l yn_Scanner_kindOf (xw yn_Scanner_kindOf bn_Scanner_kindOf 6 (some .int)) ({ frames := 5, cells := 0, slots := 0, locals := 109 }) (dc_PS (dC, dI) xcl (xt cI cB cJ cZ cQ) [.ref ((a 102)), .int v1, .int v2] sz (wC a v cI cB cJ cZ cQ s) ad) (xk_Qi (dC, dI) xcl (xt cI cB cJ cZ cQ) (fun (r : Int32) (_ : Unit) => r = y.1) (fun u : Unit => (wC a v cI cB cJ cZ cQ y.2)) (va_A (wC a v cI cB cJ cZ cQ s) sz)) 0 0 (va_A (wC a v cI cB cJ cZ cQ s) sz) := by
  refine dc_ofS (ad := ad) (QA := xk_Qi (dC, dI) xcl (xt cI cB cJ cZ cQ) (fun (r : Int32) (_ : Unit) => r = y.1) (fun u : Unit => (wC a v cI cB cJ cZ cQ y.2))) (by decide) (Nat.le_of_ble_eq_true rfl) ?_
  intro p e s0 m below meth c hx hb hml hown hg hr hlocks hin hP hK hN A hA hD hT hG ls hl
  have hown : s0.vm.findClass rn_Scanner = some m.cls := hown
  obtain ⟨H, hH⟩ : ∃ z, z = s0.heap := ⟨_, rfl⟩
  rw [← hH] at hP
  have hS : va_S A s0.heap H [] := by rw [hH]; exact va_S.rf
  suffices kk : ∀ QQ : State → Prop, QQ = MQ below (xk_Qi (dC, dI) xcl (xt cI cB cJ cZ cQ) (fun (r : Int32) (_ : Unit) => r = y.1) (fun u : Unit => (wC a v cI cB cJ cZ cQ y.2)) A) [.ref ((a 102)), .int v1, .int v2].toArray s0 0 0 A → dcC p l e ({ frames := 5, cells := 0, slots := 0, locals := 109 }) s0 m [.ref ((a 102)), .int v1, .int v2].toArray below meth c QQ (dC, dI) A (wC a v cI cB cJ cZ cQ s) 0 6 [(0, .ref ((a 102))), (1, .int v1), (2, .int v2)] [] by
    have k9 := kk _ rfl H [] ls hP hD hS hl
    rw [hH] at k9; exact k9
  clear hP hD hS hl hH H ls
  intro QQ hQQ
  have bl_59 : ∀ (k_10 : Int32 → Int32 → Int32 → Int32 → Int32 → ms → Option (Int32 × ms)) (hk_10 : ∀ (x1 : Int32) (x2 : Int32) (x3 : Int32) (x4 : Int32) (x5 : Int32) (s : ms), k_10 x1 x2 x3 x4 x5 s = some y → dcC p l e ({ frames := 5, cells := 0, slots := 0, locals := 109 }) s0 m [.ref ((a 102)), .int v1, .int v2].toArray below meth c QQ (dC, dI) A (wC a v cI cB cJ cZ cQ s) 10 6 [(0, .ref ((a 102))), (1, .int x1), (2, .int x2), (3, .int x3), (4, .int x4), (5, .int x5)] []) (x1 : Int32) (x2 : Int32) (x3 : Int32) (x5 : Int32) (s : ms), bk_Scanner_kindOf_Sc_59 N k_10 x1 x2 x3 x5 s = some y → dcC p l e ({ frames := 5, cells := 0, slots := 0, locals := 109 }) s0 m [.ref ((a 102)), .int v1, .int v2].toArray below meth c QQ (dC, dI) A (wC a v cI cB cJ cZ cQ s) 59 6 [(0, .ref ((a 102))), (1, .int x1), (2, .int x2), (3, .int x3), (5, .int x5)] [] := by
    intro k_10 hk_10 x1 x2 x3 x5 s hf H locs ls hP hD hS hl
    unfold bk_Scanner_kindOf_Sc_59 at hf
    refine lv_iinc (v := (x3 + 1)) (lv' := [(3, .int ((x3 + 1))), (0, .ref ((a 102))), (1, .int x1), (2, .int x2), (5, .int x5)]) hx hb dn_Scanner_kindOf_59 hl (k := 3) rfl (dc_inc (by decide)) (by decide) rfl (fun ls hl => ?_)
    refine lv_iload hx hb dn_Scanner_kindOf_62 (lv_at hl 4 rfl) ?_
    refine lv_iconst (v := 1) hx hb dn_Scanner_kindOf_64 (by decide) ?_
    refine lv_iadd hx hb dn_Scanner_kindOf_65 ?_
    refine lv_istore (lv' := [(4, .int ((x5 + 1))), (3, .int ((x3 + 1))), (0, .ref ((a 102))), (1, .int x1), (2, .int x2), (5, .int x5)]) hx hb dn_Scanner_kindOf_66 hl (by decide) rfl (fun ls hl => ?_)
    refine lv_iinc (v := (x5 + 1)) (lv' := [(5, .int ((x5 + 1))), (4, .int ((x5 + 1))), (3, .int ((x3 + 1))), (0, .ref ((a 102))), (1, .int x1), (2, .int x2)]) hx hb dn_Scanner_kindOf_68 hl (k := 5) rfl (dc_inc (by decide)) (by decide) rfl (fun ls hl => ?_)
    refine lv_goto (tgt := 10) hx hb dn_Scanner_kindOf_71 (by decide) ?_
    exact hk_10 x1 x2 ((x3 + 1)) ((x5 + 1)) ((x5 + 1)) s hf H locs ls hP hD hS (lv_sub hl [3, 4, 5, 2, 1, 0] rfl)
  have hd_10 : ∀ (n : Nat) (x1 : Int32) (x2 : Int32) (x3 : Int32) (x4 : Int32) (x5 : Int32) (s : ms), hd_Scanner_kindOf_Sc_10 N n x1 x2 x3 x4 x5 s = some y → dcC p l e ({ frames := 5, cells := 0, slots := 0, locals := 109 }) s0 m [.ref ((a 102)), .int v1, .int v2].toArray below meth c QQ (dC, dI) A (wC a v cI cB cJ cZ cQ s) 10 6 [(0, .ref ((a 102))), (1, .int x1), (2, .int x2), (3, .int x3), (4, .int x4), (5, .int x5)] [] := by
    intro n
    induction n with
    | zero => intro x1 x2 x3 x4 x5 s hf; cases hf
    | succ n ih =>
      intro x1 x2 x3 x4 x5 s hf H locs ls hP hD hS hl
      have hf : bd_Scanner_kindOf_Sc_10 N (hd_Scanner_kindOf_Sc_10 N n) x1 x2 x3 x4 x5 s = some y := hf
      have hk_10 := ih
      generalize hd_Scanner_kindOf_Sc_10 N n = k_10 at hf hk_10
      unfold bd_Scanner_kindOf_Sc_10 at hf
      refine lv_iload hx hb dn_Scanner_kindOf_10 (lv_at hl 5 rfl) ?_
      refine va_ldcS hx hb hown hG.1 dn_Scanner_kindOf_12 ?_
      obtain ⟨q_1, hc_2, hf⟩ := dc_b hf
      refine dc_calli (dc_runVT (C := "java/lang/String") (ar := 0) (As := []) (rest := [.int x5]) ⟨hx, hb, hml, hown, hg⟩ hK hN hT hG hS hA (ct_String_length_KW l dC dI cI cB cJ cZ cQ N H.size a v ad s q_1 hc_2) hP hD (dc_rec hG.2.2.2.2.1.1 hS) wn_3_233 wn_3_234 wn_3_235 wn_1_21 wn_3_236 rfl rfl (by decide +kernel) ⟨Nat.le_of_ble_eq_true rfl, Nat.le_of_ble_eq_true rfl⟩ rfl hl.1 rfl (Nat.le_of_ble_eq_true rfl) dn_Scanner_kindOf_14 ⟨Nat.le_of_ble_eq_true rfl, Nat.le_of_ble_eq_true rfl⟩) hP hD hS hA (fun r_3 _ H locs hw hP hD hS => ?_)
      have hw : r_3 = q_1.1 := hw
      subst hw
      refine lv_icmp_ge (tgt := 74) hx hb dn_Scanner_kindOf_17 (by decide) (fun h => ?_) (fun h => ?_)
      · have hf := (if_pos h).symm.trans hf
        refine lv_iconst (v := 2) hx hb dn_Scanner_kindOf_74 (by decide) ?_
        rw [hQQ, ← Option.some.inj hf]
        exact xk_iret (w1 := fun u : Unit => (wC a v cI cB cJ cZ cQ q_1.2)) () hx hb hr hlocks hK hS dn_Scanner_kindOf_75 hP hD rfl (Nat.le_refl _) (Nat.le_refl _)
      · have hf := (if_neg h).symm.trans hf
        refine va_ldcS hx hb hown hG.1 dn_Scanner_kindOf_20 ?_
        refine lv_iload hx hb dn_Scanner_kindOf_22 (lv_at hl 5 rfl) ?_
        obtain ⟨q_4, hc_5, hf⟩ := dc_b hf
        refine dc_calli (dc_runVT (C := "java/lang/String") (ar := 1) (As := [.int x5]) (rest := []) ⟨hx, hb, hml, hown, hg⟩ hK hN hT hG hS hA (ct_String_charAt_KW l dC dI cI cB cJ cZ cQ N H.size a v ad x5 q_1.2 q_4 hc_5) hP hD (dc_rec hG.2.2.2.2.1.1 hS) wn_4_3 wn_4_4 wn_4_5 wn_1_21 wn_4_6 rfl rfl (by decide +kernel) ⟨Nat.le_of_ble_eq_true rfl, Nat.le_of_ble_eq_true rfl⟩ rfl hl.1 rfl (Nat.le_of_ble_eq_true rfl) dn_Scanner_kindOf_24 ⟨Nat.le_of_ble_eq_true rfl, Nat.le_of_ble_eq_true rfl⟩) hP hD hS hA (fun r_6 _ H locs hw hP hD hS => ?_)
        have hw : r_6 = q_4.1 := hw
        subst hw
        refine lv_bipush (v := 32) hx hb dn_Scanner_kindOf_27 (by decide) ?_
        refine lv_icmp_eq (tgt := 35) hx hb dn_Scanner_kindOf_29 (by decide) (fun h => ?_) (fun h => ?_)
        · have hf := (if_pos h).symm.trans hf
          refine lv_iload hx hb dn_Scanner_kindOf_35 (lv_at hl 5 rfl) ?_
          refine lv_iload hx hb dn_Scanner_kindOf_37 (lv_at hl 4 rfl) ?_
          refine lv_isub hx hb dn_Scanner_kindOf_39 ?_
          refine lv_iload_n hx hb dn_Scanner_kindOf_40 rfl (lv_at hl 2 rfl) ?_
          refine lv_iload_n hx hb dn_Scanner_kindOf_41 rfl (lv_at hl 1 rfl) ?_
          refine lv_isub hx hb dn_Scanner_kindOf_42 ?_
          refine lv_icmp_ne (tgt := 59) hx hb dn_Scanner_kindOf_43 (by decide) (fun h => ?_) (fun h => ?_)
          · have hf := (if_neg h).symm.trans hf
            exact bl_59 k_10 hk_10 x1 x2 x3 x5 q_4.2 hf H locs ls hP hD hS (lv_sub hl [0, 1, 2, 3, 5] rfl)
          · have hf := (if_pos h).symm.trans hf
            refine lv_aload_n hx hb dn_Scanner_kindOf_46 rfl (lv_at hl 0 rfl) ?_
            refine lv_iload hx hb dn_Scanner_kindOf_47 (lv_at hl 4 rfl) ?_
            refine lv_iload_n hx hb dn_Scanner_kindOf_49 rfl (lv_at hl 1 rfl) ?_
            refine lv_iload_n hx hb dn_Scanner_kindOf_50 rfl (lv_at hl 2 rfl) ?_
            obtain ⟨q_7, hc_8, hf⟩ := dc_b hf
            refine dc_calli (dc_runVS (ar := 3) (As := [.int x4, .int x1, .int x2]) (rest := []) (ci := 3) (q0 := 2) ⟨hx, hb, hml, hown, hg⟩ hK hN hT hG hS hA (ct_Scanner_spells_Sc l dC dI cI cB cJ cZ cQ N H.size a v ad hv_0 x4 x1 x2 q_4.2 q_7 hc_8) hP hD rfl rfl wn_4_41 wn_4_43 sn_Scanner_spells wn_1_3 wn_4_44 rfl rfl (by decide +kernel) ⟨Nat.le_of_ble_eq_true rfl, Nat.le_of_ble_eq_true rfl⟩ rfl hl.1 rfl (Nat.le_of_ble_eq_true rfl) dn_Scanner_kindOf_51 ⟨Nat.le_of_ble_eq_true rfl, Nat.le_of_ble_eq_true rfl⟩) hP hD hS hA (fun r_9 _ H locs hw hP hD hS => ?_)
            have hw : r_9 = q_7.1 := hw
            subst hw
            refine lv_if_eq (tgt := 59) hx hb dn_Scanner_kindOf_54 (by decide) (fun h => ?_) (fun h => ?_)
            · have hf := (if_pos h).symm.trans hf
              exact bl_59 k_10 hk_10 x1 x2 x3 x5 q_7.2 hf H locs ls hP hD hS (lv_sub hl [0, 1, 2, 3, 5] rfl)
            · have hf := (if_neg h).symm.trans hf
              refine lv_iload_n hx hb dn_Scanner_kindOf_57 rfl (lv_at hl 3 rfl) ?_
              rw [hQQ, ← Option.some.inj hf]
              exact xk_iret (w1 := fun u : Unit => (wC a v cI cB cJ cZ cQ q_7.2)) () hx hb hr hlocks hK hS dn_Scanner_kindOf_58 hP hD rfl (Nat.le_refl _) (Nat.le_refl _)
        · have hf := (if_neg h).symm.trans hf
          refine lv_goto (tgt := 68) hx hb dn_Scanner_kindOf_32 (by decide) ?_
          refine lv_iinc (v := (x5 + 1)) (lv' := [(5, .int ((x5 + 1))), (0, .ref ((a 102))), (1, .int x1), (2, .int x2), (3, .int x3), (4, .int x4)]) hx hb dn_Scanner_kindOf_68 hl (k := 5) rfl (dc_inc (by decide)) (by decide) rfl (fun ls hl => ?_)
          refine lv_goto (tgt := 10) hx hb dn_Scanner_kindOf_71 (by decide) ?_
          exact hk_10 x1 x2 x3 x4 ((x5 + 1)) q_4.2 hf H locs ls hP hD hS (lv_sub hl [1, 2, 3, 4, 5, 0] rfl)
  intro H locs ls hP hD hS hl
  unfold fn_Scanner_kindOf_Sc at hf
  refine lv_sipush (v := 128) hx hb dn_Scanner_kindOf_0 (by decide) ?_
  refine lv_istore_n (lv' := [(3, .int 128), (0, .ref ((a 102))), (1, .int v1), (2, .int v2)]) hx hb dn_Scanner_kindOf_3 rfl hl (by decide) rfl (fun ls hl => ?_)
  refine lv_iconst (v := 0) hx hb dn_Scanner_kindOf_4 (by decide) ?_
  refine lv_istore (lv' := [(4, .int 0), (3, .int 128), (0, .ref ((a 102))), (1, .int v1), (2, .int v2)]) hx hb dn_Scanner_kindOf_5 hl (by decide) rfl (fun ls hl => ?_)
  refine lv_iconst (v := 0) hx hb dn_Scanner_kindOf_7 (by decide) ?_
  refine lv_istore (lv' := [(5, .int 0), (4, .int 0), (3, .int 128), (0, .ref ((a 102))), (1, .int v1), (2, .int v2)]) hx hb dn_Scanner_kindOf_8 hl (by decide) rfl (fun ls hl => ?_)
  exact hd_10 N v1 v2 128 0 0 s hf H locs ls hP hD hS (lv_sub hl [3, 4, 5, 2, 1, 0] rfl)
set_option maxHeartbeats 8000000 in
set_option maxRecDepth 100000 in
theorem ct_Scanner_added_Sc (l : Launch) (dC : Nat → ClassId) (dI : Nat → Nat → Nat) (cI cB cJ cZ cQ : ClassId) (N sz : Nat) (a : Nat → Nat) (v : Nat → Value) (ad : Nat → Nat) (hv_0 : v 0 = .ref (a 307)) (v1 : Int32) (v2 : Int32) (v3 : Int32) (s : ms) (y : (Int32 × ms)) (hf : fn_Scanner_added_Sc N v1 v2 v3 s = some y) : Met l yn_Scanner_added (xw yn_Scanner_added bn_Scanner_added 4 (some .int)) ({ frames := 6, cells := 0, slots := 0, locals := 134 }) (dc_PS (dC, dI) xcl (xt cI cB cJ cZ cQ) [.ref ((a 102)), .int v1, .int v2, .int v3] sz (wC a v cI cB cJ cZ cQ s) ad) (xk_Qi (dC, dI) xcl (xt cI cB cJ cZ cQ) (fun (r : Int32) (_ : Unit) => r = y.1) (fun u : Unit => (wC a v cI cB cJ cZ cQ y.2)) (va_A (wC a v cI cB cJ cZ cQ s) sz)) 0 0 (va_A (wC a v cI cB cJ cZ cQ s) sz) := by
  refine dc_ofS (ad := ad) (QA := xk_Qi (dC, dI) xcl (xt cI cB cJ cZ cQ) (fun (r : Int32) (_ : Unit) => r = y.1) (fun u : Unit => (wC a v cI cB cJ cZ cQ y.2))) (by decide) (Nat.le_of_ble_eq_true rfl) ?_
  intro p e s0 m below meth c hx hb hml hown hg hr hlocks hin hP hK hN A hA hD hT hG ls hl
  have hown : s0.vm.findClass rn_Scanner = some m.cls := hown
  obtain ⟨H, hH⟩ : ∃ z, z = s0.heap := ⟨_, rfl⟩
  rw [← hH] at hP
  have hS : va_S A s0.heap H [] := by rw [hH]; exact va_S.rf
  suffices kk : ∀ QQ : State → Prop, QQ = MQ below (xk_Qi (dC, dI) xcl (xt cI cB cJ cZ cQ) (fun (r : Int32) (_ : Unit) => r = y.1) (fun u : Unit => (wC a v cI cB cJ cZ cQ y.2)) A) [.ref ((a 102)), .int v1, .int v2, .int v3].toArray s0 0 0 A → dcC p l e ({ frames := 6, cells := 0, slots := 0, locals := 134 }) s0 m [.ref ((a 102)), .int v1, .int v2, .int v3].toArray below meth c QQ (dC, dI) A (wC a v cI cB cJ cZ cQ s) 0 4 [(0, .ref ((a 102))), (1, .int v1), (2, .int v2), (3, .int v3)] [] by
    have k9 := kk _ rfl H [] ls hP hD hS hl
    rw [hH] at k9; exact k9
  clear hP hD hS hl hH H ls
  intro QQ hQQ
  intro H locs ls hP hD hS hl
  unfold fn_Scanner_added_Sc at hf
  refine lv_aload_n hx hb dn_Scanner_added_0 rfl (lv_at hl 0 rfl) ?_
  refine va_get (D := (dC, dI)) (ci := 3) (v := .int ((s.1 228 0))) (C := rn_Scanner) (T := fn_Scanner) (N := 9) hx hb hg in_Scanner hown hK hP 2 rfl rfl 8 (by decide) (hg _ wn_1_97) (fun _ h9 => h9) rfl dn_Scanner_added_1 ?_
  refine lv_sipush (v := 19830) hx hb dn_Scanner_added_4 (by decide) ?_
  refine lv_icmp_lt (tgt := 12) hx hb dn_Scanner_added_7 (by decide) (fun h => ?_) (fun h => ?_)
  · have hf := (if_pos h).symm.trans hf
    refine lv_aload_n hx hb dn_Scanner_added_12 rfl (lv_at hl 0 rfl) ?_
    refine va_get (D := (dC, dI)) (ci := 3) (v := .ref ((a 226))) (C := rn_Scanner) (T := fn_Scanner) (N := 9) hx hb hg in_Scanner hown hK hP 2 rfl rfl 6 (by decide) (hg _ wn_1_95) (fun _ h9 => h9) rfl dn_Scanner_added_13 ?_
    refine lv_aload_n hx hb dn_Scanner_added_16 rfl (lv_at hl 0 rfl) ?_
    refine va_get (D := (dC, dI)) (ci := 3) (v := .int ((s.1 228 0))) (C := rn_Scanner) (T := fn_Scanner) (N := 9) hx hb hg in_Scanner hown hK hP 2 rfl rfl 8 (by decide) (hg _ wn_1_97) (fun _ h9 => h9) rfl dn_Scanner_added_17 ?_
    refine lv_iload_n hx hb dn_Scanner_added_20 rfl (lv_at hl 2 rfl) ?_
    obtain ⟨hg_1, hf⟩ := dc_g hf
    refine va_iast hx hb hK hP hD hS 19 0 rfl rfl hg_1 dn_Scanner_added_21 (fun H locs hP hD hS => ?_)
    have hP : va_P (dC, dI) xcl ((wC a v cI cB cJ cZ cQ s).set 19 ((a 226), .inl (cI, 19830, .inl (upd (s.1 226) (Int32.toNatClampNeg ((s.1 228 0))) v2)))) H := hP
    have hD : va_D A ((wC a v cI cB cJ cZ cQ s).set 19 ((a 226), .inl (cI, 19830, .inl (upd (s.1 226) (Int32.toNatClampNeg ((s.1 228 0))) v2)))) := hD
    have hP := wC_P_226 hP
    have hD := wC_D_226 hD
    refine lv_aload_n hx hb dn_Scanner_added_22 rfl (lv_at hl 0 rfl) ?_
    refine va_get (D := (dC, dI)) (ci := 3) (v := .ref ((a 227))) (C := rn_Scanner) (T := fn_Scanner) (N := 9) hx hb hg in_Scanner hown hK hP 2 rfl rfl 7 (by decide) (hg _ wn_1_96) (fun _ h9 => h9) rfl dn_Scanner_added_23 ?_
    refine lv_aload_n hx hb dn_Scanner_added_26 rfl (lv_at hl 0 rfl) ?_
    refine va_get (D := (dC, dI)) (ci := 3) (v := .int ((s.1 228 0))) (C := rn_Scanner) (T := fn_Scanner) (N := 9) hx hb hg in_Scanner hown hK hP 2 rfl rfl 8 (by decide) (hg _ wn_1_97) (fun _ h9 => h9) rfl dn_Scanner_added_27 ?_
    refine lv_aload_n hx hb dn_Scanner_added_30 rfl (lv_at hl 0 rfl) ?_
    refine lv_iload_n hx hb dn_Scanner_added_31 rfl (lv_at hl 2 rfl) ?_
    refine lv_iload_n hx hb dn_Scanner_added_32 rfl (lv_at hl 3 rfl) ?_
    obtain ⟨q_2, hc_3, hf⟩ := dc_b hf
    refine dc_calli (dc_runVS (ar := 2) (As := [.int v2, .int v3]) (rest := [.int ((s.1 228 0)), .ref ((a 227))]) (ci := 3) (q0 := 2) ⟨hx, hb, hml, hown, hg⟩ hK hN hT hG hS hA (ct_Scanner_kindOf_Sc l dC dI cI cB cJ cZ cQ N H.size a v ad hv_0 v2 v3 (upI s 226 (upd (s.1 226) (Int32.toNatClampNeg ((s.1 228 0))) v2)) q_2 hc_3) hP hD rfl rfl wn_3_228 wn_3_230 sn_Scanner_kindOf wn_1_3 wn_3_231 rfl rfl (by decide +kernel) ⟨Nat.le_of_ble_eq_true rfl, Nat.le_of_ble_eq_true rfl⟩ rfl hl.1 rfl (Nat.le_of_ble_eq_true rfl) dn_Scanner_added_33 ⟨Nat.le_of_ble_eq_true rfl, Nat.le_of_ble_eq_true rfl⟩) hP hD hS hA (fun r_4 _ H locs hw hP hD hS => ?_)
    have hw : r_4 = q_2.1 := hw
    subst hw
    obtain ⟨hg_5, hf⟩ := dc_g hf
    refine va_iast hx hb hK hP hD hS 20 0 rfl rfl hg_5 dn_Scanner_added_36 (fun H locs hP hD hS => ?_)
    have hP : va_P (dC, dI) xcl ((wC a v cI cB cJ cZ cQ q_2.2).set 20 ((a 227), .inl (cI, 19830, .inl (upd (q_2.2.1 227) (Int32.toNatClampNeg ((s.1 228 0))) q_2.1)))) H := hP
    have hD : va_D A ((wC a v cI cB cJ cZ cQ q_2.2).set 20 ((a 227), .inl (cI, 19830, .inl (upd (q_2.2.1 227) (Int32.toNatClampNeg ((s.1 228 0))) q_2.1)))) := hD
    have hP := wC_P_227 hP
    have hD := wC_D_227 hD
    refine lv_aload_n hx hb dn_Scanner_added_37 rfl (lv_at hl 0 rfl) ?_
    refine va_get (D := (dC, dI)) (ci := 3) (v := .ref ((a 225))) (C := rn_Scanner) (T := fn_Scanner) (N := 9) hx hb hg in_Scanner hown hK hP 2 rfl rfl 5 (by decide) (hg _ wn_1_94) (fun _ h9 => h9) rfl dn_Scanner_added_38 ?_
    refine lv_aload_n hx hb dn_Scanner_added_41 rfl (lv_at hl 0 rfl) ?_
    refine va_get (D := (dC, dI)) (ci := 3) (v := .int ((q_2.2.1 228 0))) (C := rn_Scanner) (T := fn_Scanner) (N := 9) hx hb hg in_Scanner hown hK hP 2 rfl rfl 8 (by decide) (hg _ wn_1_97) (fun _ h9 => h9) rfl dn_Scanner_added_42 ?_
    refine lv_aload_n hx hb dn_Scanner_added_45 rfl (lv_at hl 0 rfl) ?_
    refine va_get (D := (dC, dI)) (ci := 3) (v := .ref ((a 224))) (C := rn_Scanner) (T := fn_Scanner) (N := 9) hx hb hg in_Scanner hown hK hP 2 rfl rfl 4 (by decide) (hg _ wn_1_93) (fun _ h9 => h9) rfl dn_Scanner_added_46 ?_
    refine lv_iload_n hx hb dn_Scanner_added_49 rfl (lv_at hl 1 rfl) ?_
    obtain ⟨hg_6, hf⟩ := dc_g hf
    refine va_iald hx hb hK hP 17 0 rfl rfl hg_6 dn_Scanner_added_50 ?_
    refine xk_ti (y := ((q_2.2.1 224) (Int32.toNatClampNeg v1))) rfl ?_
    obtain ⟨hg_7, hf⟩ := dc_g hf
    refine va_iast hx hb hK hP hD hS 18 0 rfl rfl hg_7 dn_Scanner_added_51 (fun H locs hP hD hS => ?_)
    have hP : va_P (dC, dI) xcl ((wC a v cI cB cJ cZ cQ (upI q_2.2 227 (upd (q_2.2.1 227) (Int32.toNatClampNeg ((s.1 228 0))) q_2.1))).set 18 ((a 225), .inl (cI, 19830, .inl (upd (q_2.2.1 225) (Int32.toNatClampNeg ((q_2.2.1 228 0))) (((q_2.2.1 224) (Int32.toNatClampNeg v1))))))) H := hP
    have hD : va_D A ((wC a v cI cB cJ cZ cQ (upI q_2.2 227 (upd (q_2.2.1 227) (Int32.toNatClampNeg ((s.1 228 0))) q_2.1))).set 18 ((a 225), .inl (cI, 19830, .inl (upd (q_2.2.1 225) (Int32.toNatClampNeg ((q_2.2.1 228 0))) (((q_2.2.1 224) (Int32.toNatClampNeg v1))))))) := hD
    have hP := wC_P_225 hP
    have hD := wC_D_225 hD
    refine lv_aload_n hx hb dn_Scanner_added_52 rfl (lv_at hl 0 rfl) ?_
    refine va_get (D := (dC, dI)) (ci := 3) (v := .ref ((a 224))) (C := rn_Scanner) (T := fn_Scanner) (N := 9) hx hb hg in_Scanner hown hK hP 2 rfl rfl 4 (by decide) (hg _ wn_1_93) (fun _ h9 => h9) rfl dn_Scanner_added_53 ?_
    refine lv_iload_n hx hb dn_Scanner_added_56 rfl (lv_at hl 1 rfl) ?_
    refine lv_aload_n hx hb dn_Scanner_added_57 rfl (lv_at hl 0 rfl) ?_
    refine va_get (D := (dC, dI)) (ci := 3) (v := .int ((q_2.2.1 228 0))) (C := rn_Scanner) (T := fn_Scanner) (N := 9) hx hb hg in_Scanner hown hK hP 2 rfl rfl 8 (by decide) (hg _ wn_1_97) (fun _ h9 => h9) rfl dn_Scanner_added_58 ?_
    obtain ⟨hg_8, hf⟩ := dc_g hf
    refine va_iast hx hb hK hP hD hS 17 0 rfl rfl hg_8 dn_Scanner_added_61 (fun H locs hP hD hS => ?_)
    have hP : va_P (dC, dI) xcl ((wC a v cI cB cJ cZ cQ (upI (upI q_2.2 227 (upd (q_2.2.1 227) (Int32.toNatClampNeg ((s.1 228 0))) q_2.1)) 225 (upd (q_2.2.1 225) (Int32.toNatClampNeg ((q_2.2.1 228 0))) (((q_2.2.1 224) (Int32.toNatClampNeg v1)))))).set 17 ((a 224), .inl (cI, 256, .inl (upd (q_2.2.1 224) (Int32.toNatClampNeg v1) ((q_2.2.1 228 0)))))) H := hP
    have hD : va_D A ((wC a v cI cB cJ cZ cQ (upI (upI q_2.2 227 (upd (q_2.2.1 227) (Int32.toNatClampNeg ((s.1 228 0))) q_2.1)) 225 (upd (q_2.2.1 225) (Int32.toNatClampNeg ((q_2.2.1 228 0))) (((q_2.2.1 224) (Int32.toNatClampNeg v1)))))).set 17 ((a 224), .inl (cI, 256, .inl (upd (q_2.2.1 224) (Int32.toNatClampNeg v1) ((q_2.2.1 228 0)))))) := hD
    have hP := wC_P_224 hP
    have hD := wC_D_224 hD
    refine lv_aload_n hx hb dn_Scanner_added_62 rfl (lv_at hl 0 rfl) ?_
    refine lv_dup hx hb dn_Scanner_added_63 rfl ?_
    refine va_get (D := (dC, dI)) (ci := 3) (v := .int ((q_2.2.1 228 0))) (C := rn_Scanner) (T := fn_Scanner) (N := 9) hx hb hg in_Scanner hown hK hP 2 rfl rfl 8 (by decide) (hg _ wn_1_97) (fun _ h9 => h9) rfl dn_Scanner_added_64 ?_
    refine lv_iconst (v := 1) hx hb dn_Scanner_added_67 (by decide) ?_
    refine lv_iadd hx hb dn_Scanner_added_68 ?_
    refine va_put (D := (dC, dI)) (ci := 3) (v := .int (((q_2.2.1 228 0) + 1))) (ty := .int) (C := rn_Scanner) (T := fn_Scanner) (N := 9) hx hb hg in_Scanner tn_Scanner tk_Scanner nn_Scanner hown hK hP hD hS 2 rfl rfl 8 (by decide) (hg _ wn_1_97) (fun _ h9 => h9) rfl (tk_Scanner 8 (by decide)) rfl rfl (Nat.le_of_ble_eq_true rfl) dn_Scanner_added_69 (fun H locs hP hD hS => ?_)
    have hP := wC_P_228 hP
    have hD := wC_D_228 hD
    refine lv_aload_n hx hb dn_Scanner_added_72 rfl (lv_at hl 0 rfl) ?_
    refine va_get (D := (dC, dI)) (ci := 3) (v := .int (((q_2.2.1 228 0) + 1))) (C := rn_Scanner) (T := fn_Scanner) (N := 9) hx hb hg in_Scanner hown hK hP 2 rfl rfl 8 (by decide) (hg _ wn_1_97) (fun _ h9 => h9) rfl dn_Scanner_added_73 ?_
    refine lv_iconst (v := 1) hx hb dn_Scanner_added_76 (by decide) ?_
    refine lv_isub hx hb dn_Scanner_added_77 ?_
    rw [hQQ, ← Option.some.inj hf]
    exact xk_iret (w1 := fun u : Unit => (wC a v cI cB cJ cZ cQ (upI (upI (upI (upI q_2.2 227 (upd (q_2.2.1 227) (Int32.toNatClampNeg ((s.1 228 0))) q_2.1)) 225 (upd (q_2.2.1 225) (Int32.toNatClampNeg ((q_2.2.1 228 0))) (((q_2.2.1 224) (Int32.toNatClampNeg v1))))) 224 (upd (q_2.2.1 224) (Int32.toNatClampNeg v1) ((q_2.2.1 228 0)))) 228 (fun _ => ((q_2.2.1 228 0) + 1))))) () hx hb hr hlocks hK hS dn_Scanner_added_78 hP hD rfl (Nat.le_refl _) (Nat.le_refl _)
  · have hf := (if_neg h).symm.trans hf
    refine lv_iconst (v := (-1)) hx hb dn_Scanner_added_10 (by decide) ?_
    rw [hQQ, ← Option.some.inj hf]
    exact xk_iret (w1 := fun u : Unit => (wC a v cI cB cJ cZ cQ s)) () hx hb hr hlocks hK hS dn_Scanner_added_11 hP hD rfl (Nat.le_refl _) (Nat.le_refl _)
set_option maxHeartbeats 8000000 in
set_option maxRecDepth 100000 in
theorem ct_Scanner_word_Sc (l : Launch) (dC : Nat → ClassId) (dI : Nat → Nat → Nat) (cI cB cJ cZ cQ : ClassId) (N sz : Nat) (a : Nat → Nat) (v : Nat → Value) (ad : Nat → Nat) (hv_0 : v 0 = .ref (a 307)) (v1 : Int32) (s : ms) (y : (Int32 × ms)) (hf : fn_Scanner_word_Sc N v1 s = some y) : Met l yn_Scanner_word (xw yn_Scanner_word bn_Scanner_word 6 (some .int)) ({ frames := 7, cells := 0, slots := 0, locals := 157 }) (dc_PS (dC, dI) xcl (xt cI cB cJ cZ cQ) [.ref ((a 102)), .int v1] sz (wC a v cI cB cJ cZ cQ s) ad) (xk_Qi (dC, dI) xcl (xt cI cB cJ cZ cQ) (fun (r : Int32) (_ : Unit) => r = y.1) (fun u : Unit => (wC a v cI cB cJ cZ cQ y.2)) (va_A (wC a v cI cB cJ cZ cQ s) sz)) 0 0 (va_A (wC a v cI cB cJ cZ cQ s) sz) := by
  refine dc_ofS (ad := ad) (QA := xk_Qi (dC, dI) xcl (xt cI cB cJ cZ cQ) (fun (r : Int32) (_ : Unit) => r = y.1) (fun u : Unit => (wC a v cI cB cJ cZ cQ y.2))) (by decide) (Nat.le_of_ble_eq_true rfl) ?_
  intro p e s0 m below meth c hx hb hml hown hg hr hlocks hin hP hK hN A hA hD hT hG ls hl
  have hown : s0.vm.findClass rn_Scanner = some m.cls := hown
  obtain ⟨H, hH⟩ : ∃ z, z = s0.heap := ⟨_, rfl⟩
  rw [← hH] at hP
  have hS : va_S A s0.heap H [] := by rw [hH]; exact va_S.rf
  suffices kk : ∀ QQ : State → Prop, QQ = MQ below (xk_Qi (dC, dI) xcl (xt cI cB cJ cZ cQ) (fun (r : Int32) (_ : Unit) => r = y.1) (fun u : Unit => (wC a v cI cB cJ cZ cQ y.2)) A) [.ref ((a 102)), .int v1].toArray s0 0 0 A → dcC p l e ({ frames := 7, cells := 0, slots := 0, locals := 157 }) s0 m [.ref ((a 102)), .int v1].toArray below meth c QQ (dC, dI) A (wC a v cI cB cJ cZ cQ s) 0 6 [(0, .ref ((a 102))), (1, .int v1)] [] by
    have k9 := kk _ rfl H [] ls hP hD hS hl
    rw [hH] at k9; exact k9
  clear hP hD hS hl hH H ls
  intro QQ hQQ
  have bl_80 : ∀ (x1 : Int32) (x2 : Int32) (x5 : Int32) (s : ms), bk_Scanner_word_Sc_80 N x1 x2 x5 s = some y → dcC p l e ({ frames := 7, cells := 0, slots := 0, locals := 157 }) s0 m [.ref ((a 102)), .int v1].toArray below meth c QQ (dC, dI) A (wC a v cI cB cJ cZ cQ s) 80 6 [(0, .ref ((a 102))), (1, .int x1), (2, .int x2), (5, .int x5)] [] := by
    intro x1 x2 x5 s hf H locs ls hP hD hS hl
    unfold bk_Scanner_word_Sc_80 at hf
    refine lv_iload hx hb dn_Scanner_word_80 (lv_at hl 3 rfl) ?_
    refine lv_if_lt (tgt := 111) hx hb dn_Scanner_word_82 (by decide) (fun h => ?_) (fun h => ?_)
    · have hf := (if_pos h).symm.trans hf
      refine lv_iload_n hx hb dn_Scanner_word_111 rfl (lv_at hl 2 rfl) ?_
      rw [hQQ, ← Option.some.inj hf]
      exact xk_iret (w1 := fun u : Unit => (wC a v cI cB cJ cZ cQ s)) () hx hb hr hlocks hK hS dn_Scanner_word_112 hP hD rfl (Nat.le_refl _) (Nat.le_refl _)
    · have hf := (if_neg h).symm.trans hf
      refine lv_iload hx hb dn_Scanner_word_85 (lv_at hl 3 rfl) ?_
      refine lv_aload_n hx hb dn_Scanner_word_87 rfl (lv_at hl 0 rfl) ?_
      refine va_get (D := (dC, dI)) (ci := 3) (v := .int ((s.1 228 0))) (C := rn_Scanner) (T := fn_Scanner) (N := 9) hx hb hg in_Scanner hown hK hP 2 rfl rfl 8 (by decide) (hg _ wn_1_97) (fun _ h9 => h9) rfl dn_Scanner_word_88 ?_
      refine lv_icmp_ge (tgt := 111) hx hb dn_Scanner_word_91 (by decide) (fun h => ?_) (fun h => ?_)
      · have hf := (if_pos h).symm.trans hf
        refine lv_iload_n hx hb dn_Scanner_word_111 rfl (lv_at hl 2 rfl) ?_
        rw [hQQ, ← Option.some.inj hf]
        exact xk_iret (w1 := fun u : Unit => (wC a v cI cB cJ cZ cQ s)) () hx hb hr hlocks hK hS dn_Scanner_word_112 hP hD rfl (Nat.le_refl _) (Nat.le_refl _)
      · have hf := (if_neg h).symm.trans hf
        refine lv_aload_n hx hb dn_Scanner_word_94 rfl (lv_at hl 0 rfl) ?_
        refine va_get (D := (dC, dI)) (ci := 3) (v := .ref ((a 101))) (C := rn_Scanner) (T := fn_Scanner) (N := 9) hx hb hg in_Scanner hown hK hP 2 rfl rfl 0 (by decide) (hg _ wn_1_89) (fun _ h9 => h9) rfl dn_Scanner_word_95 ?_
        refine lv_aload_n hx hb dn_Scanner_word_98 rfl (lv_at hl 0 rfl) ?_
        refine va_get (D := (dC, dI)) (ci := 3) (v := .ref ((a 227))) (C := rn_Scanner) (T := fn_Scanner) (N := 9) hx hb hg in_Scanner hown hK hP 2 rfl rfl 7 (by decide) (hg _ wn_1_96) (fun _ h9 => h9) rfl dn_Scanner_word_99 ?_
        refine lv_iload hx hb dn_Scanner_word_102 (lv_at hl 3 rfl) ?_
        obtain ⟨hg_1, hf⟩ := dc_g hf
        refine va_iald hx hb hK hP 20 0 rfl rfl hg_1 dn_Scanner_word_104 ?_
        refine xk_ti (y := ((s.1 227) (Int32.toNatClampNeg x5))) rfl ?_
        refine lv_iload_n hx hb dn_Scanner_word_105 rfl (lv_at hl 1 rfl) ?_
        refine lv_iload hx hb dn_Scanner_word_106 (lv_at hl 3 rfl) ?_
        obtain ⟨q_2, hc_3, hf⟩ := dc_b hf
        refine dc_callv (dc_runV (ar := 3) (As := [.int (((s.1 227) (Int32.toNatClampNeg x5))), .int x1, .int x5]) (rest := []) (ci := 2) (q0 := 1) ⟨hx, hb, hml, hown, hg⟩ hK hN hT hS hA (ct_Tokens_add_Tk l dC dI cI cB cJ cZ cQ N H.size a v (((s.1 227) (Int32.toNatClampNeg x5))) x1 x5 s q_2 hc_3) hP hD rfl rfl wn_4_45 wn_4_46 wn_4_47 wn_1_2 wn_4_48 rfl rfl (by decide +kernel) ⟨Nat.le_of_ble_eq_true rfl, Nat.le_of_ble_eq_true rfl⟩ rfl hl.1 rfl (Nat.le_of_ble_eq_true rfl) dn_Scanner_word_108 ⟨Nat.le_of_ble_eq_true rfl, Nat.le_of_ble_eq_true rfl⟩) hP hD hS hA (fun _ H locs hw hP hD hS => ?_)
        refine lv_iload_n hx hb dn_Scanner_word_111 rfl (lv_at hl 2 rfl) ?_
        rw [hQQ, ← Option.some.inj hf]
        exact xk_iret (w1 := fun u : Unit => (wC a v cI cB cJ cZ cQ q_2.2)) () hx hb hr hlocks hK hS dn_Scanner_word_112 hP hD rfl (Nat.le_refl _) (Nat.le_refl _)
  have bl_42 : ∀ (x1 : Int32) (x2 : Int32) (x3 : Int32) (s : ms), bk_Scanner_word_Sc_42 N x1 x2 x3 s = some y → dcC p l e ({ frames := 7, cells := 0, slots := 0, locals := 157 }) s0 m [.ref ((a 102)), .int v1].toArray below meth c QQ (dC, dI) A (wC a v cI cB cJ cZ cQ s) 42 6 [(0, .ref ((a 102))), (1, .int x1), (2, .int x2), (3, .int x3)] [] := by
    intro x1 x2 x3 s hf H locs ls hP hD hS hl
    unfold bk_Scanner_word_Sc_42 at hf
    refine lv_iload_n hx hb dn_Scanner_word_42 rfl (lv_at hl 3 rfl) ?_
    refine lv_iload_n hx hb dn_Scanner_word_43 rfl (lv_at hl 3 rfl) ?_
    refine lv_bipush (v := 8) hx hb dn_Scanner_word_44 (by decide) ?_
    refine lv_iushr (v := (Int32.toUInt32 x3 >>> (Int32.toUInt32 8 &&& Int32.toUInt32 31)).toInt32) hx hb dn_Scanner_word_46 rfl ?_
    refine lv_ixor hx hb dn_Scanner_word_47 ?_
    refine lv_sipush (v := 255) hx hb dn_Scanner_word_48 (by decide) ?_
    refine lv_iand hx hb dn_Scanner_word_51 ?_
    refine lv_istore (lv' := [(4, .int (((x3 ^^^ ((Int32.toUInt32 x3 >>> (Int32.toUInt32 8 &&& Int32.toUInt32 31)).toInt32)) &&& 255))), (0, .ref ((a 102))), (1, .int x1), (2, .int x2), (3, .int x3)]) hx hb dn_Scanner_word_52 hl (by decide) rfl (fun ls hl => ?_)
    refine lv_aload_n hx hb dn_Scanner_word_54 rfl (lv_at hl 1 rfl) ?_
    refine lv_iload hx hb dn_Scanner_word_55 (lv_at hl 0 rfl) ?_
    refine lv_iload_n hx hb dn_Scanner_word_57 rfl (lv_at hl 2 rfl) ?_
    refine lv_iload_n hx hb dn_Scanner_word_58 rfl (lv_at hl 3 rfl) ?_
    obtain ⟨q_1, hc_2, hf⟩ := dc_b hf
    refine dc_calli (dc_runV (ar := 3) (As := [.int (((x3 ^^^ ((Int32.toUInt32 x3 >>> (Int32.toUInt32 8 &&& Int32.toUInt32 31)).toInt32)) &&& 255)), .int x1, .int x2]) (rest := []) (ci := 3) (q0 := 2) ⟨hx, hb, hml, hown, hg⟩ hK hN hT hS hA (ct_Scanner_known_Sc l dC dI cI cB cJ cZ cQ N H.size a v hv_0 (((x3 ^^^ ((Int32.toUInt32 x3 >>> (Int32.toUInt32 8 &&& Int32.toUInt32 31)).toInt32)) &&& 255)) x1 x2 s q_1 hc_2) hP hD rfl rfl wn_3_216 wn_3_218 sn_Scanner_known wn_1_3 wn_3_219 rfl rfl (by decide +kernel) ⟨Nat.le_of_ble_eq_true rfl, Nat.le_of_ble_eq_true rfl⟩ rfl hl.1 rfl (Nat.le_of_ble_eq_true rfl) dn_Scanner_word_59 ⟨Nat.le_of_ble_eq_true rfl, Nat.le_of_ble_eq_true rfl⟩) hP hD hS hA (fun r_3 _ H locs hw hP hD hS => ?_)
    have hw : r_3 = q_1.1 := hw
    subst hw
    refine lv_istore (lv' := [(5, .int q_1.1), (4, .int (((x3 ^^^ ((Int32.toUInt32 x3 >>> (Int32.toUInt32 8 &&& Int32.toUInt32 31)).toInt32)) &&& 255))), (0, .ref ((a 102))), (1, .int x1), (2, .int x2), (3, .int x3)]) hx hb dn_Scanner_word_62 hl (by decide) rfl (fun ls hl => ?_)
    refine lv_iload hx hb dn_Scanner_word_64 (lv_at hl 0 rfl) ?_
    refine lv_iconst (v := (-1)) hx hb dn_Scanner_word_66 (by decide) ?_
    refine lv_icmp_ne (tgt := 80) hx hb dn_Scanner_word_67 (by decide) (fun h => ?_) (fun h => ?_)
    · have hf := (if_neg h).symm.trans hf
      exact bl_80 x1 x2 q_1.1 q_1.2 hf H locs ls hP hD hS (lv_sub hl [2, 3, 4, 0] rfl)
    · have hf := (if_pos h).symm.trans hf
      refine lv_aload_n hx hb dn_Scanner_word_70 rfl (lv_at hl 2 rfl) ?_
      refine lv_iload hx hb dn_Scanner_word_71 (lv_at hl 1 rfl) ?_
      refine lv_iload_n hx hb dn_Scanner_word_73 rfl (lv_at hl 3 rfl) ?_
      refine lv_iload_n hx hb dn_Scanner_word_74 rfl (lv_at hl 4 rfl) ?_
      obtain ⟨q_4, hc_5, hf⟩ := dc_b hf
      refine dc_calli (dc_runVS (ar := 3) (As := [.int (((x3 ^^^ ((Int32.toUInt32 x3 >>> (Int32.toUInt32 8 &&& Int32.toUInt32 31)).toInt32)) &&& 255)), .int x1, .int x2]) (rest := []) (ci := 3) (q0 := 2) ⟨hx, hb, hml, hown, hg⟩ hK hN hT hG hS hA (ct_Scanner_added_Sc l dC dI cI cB cJ cZ cQ N H.size a v ad hv_0 (((x3 ^^^ ((Int32.toUInt32 x3 >>> (Int32.toUInt32 8 &&& Int32.toUInt32 31)).toInt32)) &&& 255)) x1 x2 q_1.2 q_4 hc_5) hP hD rfl rfl wn_3_224 wn_3_226 sn_Scanner_added wn_1_3 wn_3_227 rfl rfl (by decide +kernel) ⟨Nat.le_of_ble_eq_true rfl, Nat.le_of_ble_eq_true rfl⟩ rfl hl.1 rfl (Nat.le_of_ble_eq_true rfl) dn_Scanner_word_75 ⟨Nat.le_of_ble_eq_true rfl, Nat.le_of_ble_eq_true rfl⟩) hP hD hS hA (fun r_6 _ H locs hw hP hD hS => ?_)
      have hw : r_6 = q_4.1 := hw
      subst hw
      refine lv_istore (lv' := [(5, .int q_4.1), (4, .int (((x3 ^^^ ((Int32.toUInt32 x3 >>> (Int32.toUInt32 8 &&& Int32.toUInt32 31)).toInt32)) &&& 255))), (0, .ref ((a 102))), (1, .int x1), (2, .int x2), (3, .int x3)]) hx hb dn_Scanner_word_78 hl (by decide) rfl (fun ls hl => ?_)
      exact bl_80 x1 x2 q_4.1 q_4.2 hf H locs ls hP hD hS (lv_sub hl [2, 3, 4, 0] rfl)
  have hd_4 : ∀ (n : Nat) (x1 : Int32) (x2 : Int32) (x3 : Int32) (s : ms), hd_Scanner_word_Sc_4 N n x1 x2 x3 s = some y → dcC p l e ({ frames := 7, cells := 0, slots := 0, locals := 157 }) s0 m [.ref ((a 102)), .int v1].toArray below meth c QQ (dC, dI) A (wC a v cI cB cJ cZ cQ s) 4 6 [(0, .ref ((a 102))), (1, .int x1), (2, .int x2), (3, .int x3)] [] := by
    intro n
    induction n with
    | zero => intro x1 x2 x3 s hf; cases hf
    | succ n ih =>
      intro x1 x2 x3 s hf H locs ls hP hD hS hl
      have hf : bd_Scanner_word_Sc_4 N (hd_Scanner_word_Sc_4 N n) x1 x2 x3 s = some y := hf
      have hk_4 := ih
      generalize hd_Scanner_word_Sc_4 N n = k_4 at hf hk_4
      unfold bd_Scanner_word_Sc_4 at hf
      refine lv_iload_n hx hb dn_Scanner_word_4 rfl (lv_at hl 2 rfl) ?_
      refine lv_aload_n hx hb dn_Scanner_word_5 rfl (lv_at hl 0 rfl) ?_
      refine va_get (D := (dC, dI)) (ci := 3) (v := .int ((s.1 222 0))) (C := rn_Scanner) (T := fn_Scanner) (N := 9) hx hb hg in_Scanner hown hK hP 2 rfl rfl 2 (by decide) (hg _ wn_1_91) (fun _ h9 => h9) rfl dn_Scanner_word_6 ?_
      refine lv_icmp_ge (tgt := 42) hx hb dn_Scanner_word_9 (by decide) (fun h => ?_) (fun h => ?_)
      · have hf := (if_pos h).symm.trans hf
        exact bl_42 x1 x2 x3 s hf H locs ls hP hD hS hl
      · have hf := (if_neg h).symm.trans hf
        refine lv_aload_n hx hb dn_Scanner_word_12 rfl (lv_at hl 0 rfl) ?_
        refine va_get (D := (dC, dI)) (ci := 3) (v := .ref ((a 307))) (C := rn_Scanner) (T := fn_Scanner) (N := 9) hx hb hg in_Scanner hown hK hP 2 rfl rfl 1 (by decide) (hg _ wn_1_90) (fun _ h9 => h9) (congrArg some hv_0) dn_Scanner_word_13 ?_
        refine lv_iload_n hx hb dn_Scanner_word_16 rfl (lv_at hl 2 rfl) ?_
        obtain ⟨hg_1, hf⟩ := dc_g hf
        refine va_bald hx hb hK hP 52 1 rfl rfl hg_1 dn_Scanner_word_17 ?_
        refine xk_ti (y := ((s.1 307) (Int32.toNatClampNeg x2))) rfl ?_
        obtain ⟨q_2, hc_3, hf⟩ := dc_b hf
        refine dc_calli (dc_runSN (ar := 1) (As := [.int (((s.1 307) (Int32.toNatClampNeg x2)))]) (rest := []) (host := "CircuitCycles") ⟨hx, hb, hml, hown, hg⟩ hK hN hT hS hA (ct_C_continuesWord l dC dI cI cB cJ cZ cQ N H.size a v (((s.1 307) (Int32.toNatClampNeg x2))) s q_2 hc_3) hP hD nl_Scanner_102 wn_3_210 wn_1_1 wn_3_211 rfl rfl (by decide +kernel) ⟨Nat.le_of_ble_eq_true rfl, Nat.le_of_ble_eq_true rfl⟩ rfl hl.1 rfl (Nat.le_of_ble_eq_true rfl) dn_Scanner_word_18 ⟨Nat.le_of_ble_eq_true rfl, Nat.le_of_ble_eq_true rfl⟩) hP hD hS hA (fun r_4 _ H locs hw hP hD hS => ?_)
        have hw : r_4 = q_2.1 := hw
        subst hw
        refine lv_if_eq (tgt := 42) hx hb dn_Scanner_word_21 (by decide) (fun h => ?_) (fun h => ?_)
        · have hf := (if_pos h).symm.trans hf
          exact bl_42 x1 x2 x3 q_2.2 hf H locs ls hP hD hS hl
        · have hf := (if_neg h).symm.trans hf
          refine lv_bipush (v := 31) hx hb dn_Scanner_word_24 (by decide) ?_
          refine lv_iload_n hx hb dn_Scanner_word_26 rfl (lv_at hl 3 rfl) ?_
          refine lv_imul hx hb dn_Scanner_word_27 ?_
          refine lv_aload_n hx hb dn_Scanner_word_28 rfl (lv_at hl 0 rfl) ?_
          refine va_get (D := (dC, dI)) (ci := 3) (v := .ref ((a 307))) (C := rn_Scanner) (T := fn_Scanner) (N := 9) hx hb hg in_Scanner hown hK hP 2 rfl rfl 1 (by decide) (hg _ wn_1_90) (fun _ h9 => h9) (congrArg some hv_0) dn_Scanner_word_29 ?_
          refine lv_iload_n hx hb dn_Scanner_word_32 rfl (lv_at hl 2 rfl) ?_
          obtain ⟨hg_5, hf⟩ := dc_g hf
          refine va_bald hx hb hK hP 52 1 rfl rfl hg_5 dn_Scanner_word_33 ?_
          refine xk_ti (y := ((q_2.2.1 307) (Int32.toNatClampNeg x2))) rfl ?_
          refine lv_iadd hx hb dn_Scanner_word_34 ?_
          refine lv_istore_n (lv' := [(3, .int (((31 * x3) + ((q_2.2.1 307) (Int32.toNatClampNeg x2))))), (0, .ref ((a 102))), (1, .int x1), (2, .int x2)]) hx hb dn_Scanner_word_35 rfl hl (by decide) rfl (fun ls hl => ?_)
          refine lv_iinc (v := (x2 + 1)) (lv' := [(2, .int ((x2 + 1))), (3, .int (((31 * x3) + ((q_2.2.1 307) (Int32.toNatClampNeg x2))))), (0, .ref ((a 102))), (1, .int x1)]) hx hb dn_Scanner_word_36 hl (k := 3) rfl (dc_inc (by decide)) (by decide) rfl (fun ls hl => ?_)
          refine lv_goto (tgt := 4) hx hb dn_Scanner_word_39 (by decide) ?_
          exact hk_4 x1 ((x2 + 1)) (((31 * x3) + ((q_2.2.1 307) (Int32.toNatClampNeg x2)))) q_2.2 hf H locs ls hP hD hS (lv_sub hl [2, 3, 0, 1] rfl)
  intro H locs ls hP hD hS hl
  unfold fn_Scanner_word_Sc at hf
  refine lv_iload_n hx hb dn_Scanner_word_0 rfl (lv_at hl 1 rfl) ?_
  refine lv_istore_n (lv' := [(2, .int v1), (0, .ref ((a 102))), (1, .int v1)]) hx hb dn_Scanner_word_1 rfl hl (by decide) rfl (fun ls hl => ?_)
  refine lv_iconst (v := 0) hx hb dn_Scanner_word_2 (by decide) ?_
  refine lv_istore_n (lv' := [(3, .int 0), (2, .int v1), (0, .ref ((a 102))), (1, .int v1)]) hx hb dn_Scanner_word_3 rfl hl (by decide) rfl (fun ls hl => ?_)
  exact hd_4 N v1 v1 0 s hf H locs ls hP hD hS (lv_sub hl [2, 3, 1, 0] rfl)
set_option maxHeartbeats 8000000 in
set_option maxRecDepth 100000 in
theorem ct_Scanner_token_Sc (l : Launch) (dC : Nat → ClassId) (dI : Nat → Nat → Nat) (cI cB cJ cZ cQ : ClassId) (N sz : Nat) (a : Nat → Nat) (v : Nat → Value) (ad : Nat → Nat) (hv_0 : v 0 = .ref (a 307)) (hv_1 : v 1 = .ref (a 111)) (v1 : Int32) (s : ms) (y : (Int32 × ms)) (hf : fn_Scanner_token_Sc N v1 s = some y) : Met l yn_Scanner_token (xw yn_Scanner_token bn_Scanner_token 4 (some .int)) ({ frames := 8, cells := 0, slots := 0, locals := 182 }) (dc_PS (dC, dI) xcl (xt cI cB cJ cZ cQ) [.ref ((a 102)), .int v1] sz (wC a v cI cB cJ cZ cQ s) ad) (xk_Qi (dC, dI) xcl (xt cI cB cJ cZ cQ) (fun (r : Int32) (_ : Unit) => r = y.1) (fun u : Unit => (wC a v cI cB cJ cZ cQ y.2)) (va_A (wC a v cI cB cJ cZ cQ s) sz)) 0 0 (va_A (wC a v cI cB cJ cZ cQ s) sz) := by
  refine dc_ofS (ad := ad) (QA := xk_Qi (dC, dI) xcl (xt cI cB cJ cZ cQ) (fun (r : Int32) (_ : Unit) => r = y.1) (fun u : Unit => (wC a v cI cB cJ cZ cQ y.2))) (by decide) (Nat.le_of_ble_eq_true rfl) ?_
  intro p e s0 m below meth c hx hb hml hown hg hr hlocks hin hP hK hN A hA hD hT hG ls hl
  have hown : s0.vm.findClass rn_Scanner = some m.cls := hown
  obtain ⟨H, hH⟩ : ∃ z, z = s0.heap := ⟨_, rfl⟩
  rw [← hH] at hP
  have hS : va_S A s0.heap H [] := by rw [hH]; exact va_S.rf
  suffices kk : ∀ QQ : State → Prop, QQ = MQ below (xk_Qi (dC, dI) xcl (xt cI cB cJ cZ cQ) (fun (r : Int32) (_ : Unit) => r = y.1) (fun u : Unit => (wC a v cI cB cJ cZ cQ y.2)) A) [.ref ((a 102)), .int v1].toArray s0 0 0 A → dcC p l e ({ frames := 8, cells := 0, slots := 0, locals := 182 }) s0 m [.ref ((a 102)), .int v1].toArray below meth c QQ (dC, dI) A (wC a v cI cB cJ cZ cQ s) 0 4 [(0, .ref ((a 102))), (1, .int v1)] [] by
    have k9 := kk _ rfl H [] ls hP hD hS hl
    rw [hH] at k9; exact k9
  clear hP hD hS hl hH H ls
  intro QQ hQQ
  intro H locs ls hP hD hS hl
  unfold fn_Scanner_token_Sc at hf
  refine lv_aload_n hx hb dn_Scanner_token_0 rfl (lv_at hl 0 rfl) ?_
  refine lv_iload_n hx hb dn_Scanner_token_1 rfl (lv_at hl 1 rfl) ?_
  obtain ⟨q_1, hc_2, hf⟩ := dc_b hf
  refine dc_calli (dc_runV (ar := 1) (As := [.int v1]) (rest := []) (ci := 3) (q0 := 2) ⟨hx, hb, hml, hown, hg⟩ hK hN hT hS hA (ct_Scanner_byteAt_Sc l dC dI cI cB cJ cZ cQ N H.size a v hv_0 v1 s q_1 hc_2) hP hD rfl rfl wn_3_194 wn_3_196 sn_Scanner_byteAt wn_1_3 wn_3_197 rfl rfl (by decide +kernel) ⟨Nat.le_of_ble_eq_true rfl, Nat.le_of_ble_eq_true rfl⟩ rfl hl.1 rfl (Nat.le_of_ble_eq_true rfl) dn_Scanner_token_2 ⟨Nat.le_of_ble_eq_true rfl, Nat.le_of_ble_eq_true rfl⟩) hP hD hS hA (fun r_3 _ H locs hw hP hD hS => ?_)
  have hw : r_3 = q_1.1 := hw
  subst hw
  refine lv_istore_n (lv' := [(2, .int q_1.1), (0, .ref ((a 102))), (1, .int v1)]) hx hb dn_Scanner_token_5 rfl hl (by decide) rfl (fun ls hl => ?_)
  refine lv_iload_n hx hb dn_Scanner_token_6 rfl (lv_at hl 0 rfl) ?_
  obtain ⟨q_4, hc_5, hf⟩ := dc_b hf
  refine dc_calli (dc_runSN (ar := 1) (As := [.int q_1.1]) (rest := []) (host := "CircuitCycles") ⟨hx, hb, hml, hown, hg⟩ hK hN hT hS hA (ct_C_beginsWord l dC dI cI cB cJ cZ cQ N H.size a v q_1.1 q_1.2 q_4 hc_5) hP hD nl_Scanner_79 wn_3_203 wn_1_1 wn_3_204 rfl rfl (by decide +kernel) ⟨Nat.le_of_ble_eq_true rfl, Nat.le_of_ble_eq_true rfl⟩ rfl hl.1 rfl (Nat.le_of_ble_eq_true rfl) dn_Scanner_token_7 ⟨Nat.le_of_ble_eq_true rfl, Nat.le_of_ble_eq_true rfl⟩) hP hD hS hA (fun r_6 _ H locs hw hP hD hS => ?_)
  have hw : r_6 = q_4.1 := hw
  subst hw
  refine lv_if_eq (tgt := 19) hx hb dn_Scanner_token_10 (by decide) (fun h => ?_) (fun h => ?_)
  · have hf := (if_pos h).symm.trans hf
    refine lv_iload_n hx hb dn_Scanner_token_19 rfl (lv_at hl 0 rfl) ?_
    obtain ⟨q_7, hc_8, hf⟩ := dc_b hf
    refine dc_calli (dc_runSN (ar := 1) (As := [.int q_1.1]) (rest := []) (host := "CircuitCycles") ⟨hx, hb, hml, hown, hg⟩ hK hN hT hS hA (ct_C_isDigit l dC dI cI cB cJ cZ cQ N H.size a v q_1.1 q_4.2 q_7 hc_8) hP hD nl_Scanner_86 wn_3_214 wn_1_1 wn_3_215 rfl rfl (by decide +kernel) ⟨Nat.le_of_ble_eq_true rfl, Nat.le_of_ble_eq_true rfl⟩ rfl hl.1 rfl (Nat.le_of_ble_eq_true rfl) dn_Scanner_token_20 ⟨Nat.le_of_ble_eq_true rfl, Nat.le_of_ble_eq_true rfl⟩) hP hD hS hA (fun r_9 _ H locs hw hP hD hS => ?_)
    have hw : r_9 = q_7.1 := hw
    subst hw
    refine lv_if_eq (tgt := 32) hx hb dn_Scanner_token_23 (by decide) (fun h => ?_) (fun h => ?_)
    · have hf := (if_pos h).symm.trans hf
      refine lv_iload_n hx hb dn_Scanner_token_32 rfl (lv_at hl 0 rfl) ?_
      refine lv_aload_n hx hb dn_Scanner_token_33 rfl (lv_at hl 1 rfl) ?_
      refine lv_iload_n hx hb dn_Scanner_token_34 rfl (lv_at hl 2 rfl) ?_
      refine lv_iconst (v := 1) hx hb dn_Scanner_token_35 (by decide) ?_
      refine lv_iadd hx hb dn_Scanner_token_36 ?_
      obtain ⟨q_10, hc_11, hf⟩ := dc_b hf
      refine dc_calli (dc_runV (ar := 1) (As := [.int ((v1 + 1))]) (rest := [.int q_1.1]) (ci := 3) (q0 := 2) ⟨hx, hb, hml, hown, hg⟩ hK hN hT hS hA (ct_Scanner_byteAt_Sc l dC dI cI cB cJ cZ cQ N H.size a v hv_0 ((v1 + 1)) q_7.2 q_10 hc_11) hP hD rfl rfl wn_3_194 wn_3_196 sn_Scanner_byteAt wn_1_3 wn_3_197 rfl rfl (by decide +kernel) ⟨Nat.le_of_ble_eq_true rfl, Nat.le_of_ble_eq_true rfl⟩ rfl hl.1 rfl (Nat.le_of_ble_eq_true rfl) dn_Scanner_token_37 ⟨Nat.le_of_ble_eq_true rfl, Nat.le_of_ble_eq_true rfl⟩) hP hD hS hA (fun r_12 _ H locs hw hP hD hS => ?_)
      have hw : r_12 = q_10.1 := hw
      subst hw
      obtain ⟨q_13, hc_14, hf⟩ := dc_b hf
      refine dc_calli (dc_runS (ar := 2) (As := [.int q_1.1, .int q_10.1]) (rest := []) ⟨hx, hb, hml, hown, hg⟩ hK hN hT hS hA (ct_Scanner_pair l dC dI cI cB cJ cZ cQ N H.size a v q_1.1 q_10.1 q_10.2 q_13 hc_14) hP hD wn_4_79 wn_4_80 wn_1_3 wn_4_81 rfl rfl (by decide +kernel) ⟨Nat.le_of_ble_eq_true rfl, Nat.le_of_ble_eq_true rfl⟩ rfl hl.1 rfl (Nat.le_of_ble_eq_true rfl) dn_Scanner_token_40 ⟨Nat.le_of_ble_eq_true rfl, Nat.le_of_ble_eq_true rfl⟩) hP hD hS hA (fun r_15 _ H locs hw hP hD hS => ?_)
      have hw : r_15 = q_13.1 := hw
      subst hw
      refine lv_istore_n (lv' := [(3, .int q_13.1), (2, .int q_1.1), (0, .ref ((a 102))), (1, .int v1)]) hx hb dn_Scanner_token_43 rfl hl (by decide) rfl (fun ls hl => ?_)
      refine lv_iload_n hx hb dn_Scanner_token_44 rfl (lv_at hl 0 rfl) ?_
      refine lv_iconst (v := (-1)) hx hb dn_Scanner_token_45 (by decide) ?_
      refine lv_icmp_eq (tgt := 63) hx hb dn_Scanner_token_46 (by decide) (fun h => ?_) (fun h => ?_)
      · have hf := (if_pos h).symm.trans hf
        refine lv_iload_n hx hb dn_Scanner_token_63 rfl (lv_at hl 1 rfl) ?_
        refine lv_if_le (tgt := 77) hx hb dn_Scanner_token_64 (by decide) (fun h => ?_) (fun h => ?_)
        · have hf := (if_pos h).symm.trans hf
          refine lv_iconst (v := (-1)) hx hb dn_Scanner_token_77 (by decide) ?_
          rw [hQQ, ← Option.some.inj hf]
          exact xk_iret (w1 := fun u : Unit => (wC a v cI cB cJ cZ cQ q_13.2)) () hx hb hr hlocks hK hS dn_Scanner_token_78 hP hD rfl (Nat.le_refl _) (Nat.le_refl _)
        · have hf := (if_neg h).symm.trans hf
          refine va_ldcS hx hb hown hG.2.1 dn_Scanner_token_67 ?_
          refine lv_iload_n hx hb dn_Scanner_token_69 rfl (lv_at hl 1 rfl) ?_
          refine lv_i2c (v := (Int32.toUInt32 q_1.1 % 65536).toInt32) hx hb dn_Scanner_token_70 rfl ?_
          obtain ⟨q_16, hc_17, hf⟩ := dc_b hf
          refine dc_calli (dc_runVT (C := "java/lang/String") (ar := 1) (As := [.int (((Int32.toUInt32 q_1.1 % 65536).toInt32))]) (rest := []) ⟨hx, hb, hml, hown, hg⟩ hK hN hT hG hS hA (ct_String_indexOf_II_SG l dC dI cI cB cJ cZ cQ N H.size a v ad (((Int32.toUInt32 q_1.1 % 65536).toInt32)) q_13.2 q_16 hc_17) hP hD (dc_rec hG.2.2.2.2.2.1 hS) wn_4_83 wn_4_84 wn_4_85 wn_1_21 wn_4_86 rfl rfl (by decide +kernel) ⟨Nat.le_of_ble_eq_true rfl, Nat.le_of_ble_eq_true rfl⟩ rfl hl.1 rfl (Nat.le_of_ble_eq_true rfl) dn_Scanner_token_71 ⟨Nat.le_of_ble_eq_true rfl, Nat.le_of_ble_eq_true rfl⟩) hP hD hS hA (fun r_18 _ H locs hw hP hD hS => ?_)
          have hw : r_18 = q_16.1 := hw
          subst hw
          refine lv_if_ge (tgt := 79) hx hb dn_Scanner_token_74 (by decide) (fun h => ?_) (fun h => ?_)
          · have hf := (if_pos h).symm.trans hf
            refine lv_aload_n hx hb dn_Scanner_token_79 rfl (lv_at hl 2 rfl) ?_
            refine va_get (D := (dC, dI)) (ci := 3) (v := .ref ((a 101))) (C := rn_Scanner) (T := fn_Scanner) (N := 9) hx hb hg in_Scanner hown hK hP 2 rfl rfl 0 (by decide) (hg _ wn_1_89) (fun _ h9 => h9) rfl dn_Scanner_token_80 ?_
            refine lv_iload_n hx hb dn_Scanner_token_83 rfl (lv_at hl 1 rfl) ?_
            refine lv_iload_n hx hb dn_Scanner_token_84 rfl (lv_at hl 3 rfl) ?_
            refine lv_iconst (v := (-1)) hx hb dn_Scanner_token_85 (by decide) ?_
            obtain ⟨q_19, hc_20, hf⟩ := dc_b hf
            refine dc_callv (dc_runV (ar := 3) (As := [.int q_1.1, .int v1, .int ((-1))]) (rest := []) (ci := 2) (q0 := 1) ⟨hx, hb, hml, hown, hg⟩ hK hN hT hS hA (ct_Tokens_add_Tk l dC dI cI cB cJ cZ cQ N H.size a v q_1.1 v1 ((-1)) q_16.2 q_19 hc_20) hP hD rfl rfl wn_4_45 wn_4_46 wn_4_47 wn_1_2 wn_4_48 rfl rfl (by decide +kernel) ⟨Nat.le_of_ble_eq_true rfl, Nat.le_of_ble_eq_true rfl⟩ rfl hl.1 rfl (Nat.le_of_ble_eq_true rfl) dn_Scanner_token_86 ⟨Nat.le_of_ble_eq_true rfl, Nat.le_of_ble_eq_true rfl⟩) hP hD hS hA (fun _ H locs hw hP hD hS => ?_)
            refine lv_iload_n hx hb dn_Scanner_token_89 rfl (lv_at hl 3 rfl) ?_
            refine lv_iconst (v := 1) hx hb dn_Scanner_token_90 (by decide) ?_
            refine lv_iadd hx hb dn_Scanner_token_91 ?_
            rw [hQQ, ← Option.some.inj hf]
            exact xk_iret (w1 := fun u : Unit => (wC a v cI cB cJ cZ cQ q_19.2)) () hx hb hr hlocks hK hS dn_Scanner_token_92 hP hD rfl (Nat.le_refl _) (Nat.le_refl _)
          · have hf := (if_neg h).symm.trans hf
            refine lv_iconst (v := (-1)) hx hb dn_Scanner_token_77 (by decide) ?_
            rw [hQQ, ← Option.some.inj hf]
            exact xk_iret (w1 := fun u : Unit => (wC a v cI cB cJ cZ cQ q_16.2)) () hx hb hr hlocks hK hS dn_Scanner_token_78 hP hD rfl (Nat.le_refl _) (Nat.le_refl _)
      · have hf := (if_neg h).symm.trans hf
        refine lv_aload_n hx hb dn_Scanner_token_49 rfl (lv_at hl 2 rfl) ?_
        refine va_get (D := (dC, dI)) (ci := 3) (v := .ref ((a 101))) (C := rn_Scanner) (T := fn_Scanner) (N := 9) hx hb hg in_Scanner hown hK hP 2 rfl rfl 0 (by decide) (hg _ wn_1_89) (fun _ h9 => h9) rfl dn_Scanner_token_50 ?_
        refine lv_iload_n hx hb dn_Scanner_token_53 rfl (lv_at hl 0 rfl) ?_
        refine lv_iload_n hx hb dn_Scanner_token_54 rfl (lv_at hl 3 rfl) ?_
        refine lv_iconst (v := (-1)) hx hb dn_Scanner_token_55 (by decide) ?_
        obtain ⟨q_16, hc_17, hf⟩ := dc_b hf
        refine dc_callv (dc_runV (ar := 3) (As := [.int q_13.1, .int v1, .int ((-1))]) (rest := []) (ci := 2) (q0 := 1) ⟨hx, hb, hml, hown, hg⟩ hK hN hT hS hA (ct_Tokens_add_Tk l dC dI cI cB cJ cZ cQ N H.size a v q_13.1 v1 ((-1)) q_13.2 q_16 hc_17) hP hD rfl rfl wn_4_45 wn_4_46 wn_4_47 wn_1_2 wn_4_48 rfl rfl (by decide +kernel) ⟨Nat.le_of_ble_eq_true rfl, Nat.le_of_ble_eq_true rfl⟩ rfl hl.1 rfl (Nat.le_of_ble_eq_true rfl) dn_Scanner_token_56 ⟨Nat.le_of_ble_eq_true rfl, Nat.le_of_ble_eq_true rfl⟩) hP hD hS hA (fun _ H locs hw hP hD hS => ?_)
        refine lv_iload_n hx hb dn_Scanner_token_59 rfl (lv_at hl 3 rfl) ?_
        refine lv_iconst (v := 2) hx hb dn_Scanner_token_60 (by decide) ?_
        refine lv_iadd hx hb dn_Scanner_token_61 ?_
        rw [hQQ, ← Option.some.inj hf]
        exact xk_iret (w1 := fun u : Unit => (wC a v cI cB cJ cZ cQ q_16.2)) () hx hb hr hlocks hK hS dn_Scanner_token_62 hP hD rfl (Nat.le_refl _) (Nat.le_refl _)
    · have hf := (if_neg h).symm.trans hf
      refine lv_aload_n hx hb dn_Scanner_token_26 rfl (lv_at hl 1 rfl) ?_
      refine lv_iload_n hx hb dn_Scanner_token_27 rfl (lv_at hl 2 rfl) ?_
      obtain ⟨q_10, hc_11, hf⟩ := dc_b hf
      refine dc_calli (dc_runV (ar := 1) (As := [.int v1]) (rest := []) (ci := 3) (q0 := 2) ⟨hx, hb, hml, hown, hg⟩ hK hN hT hS hA (ct_Scanner_number_Sc l dC dI cI cB cJ cZ cQ N H.size a v hv_0 hv_1 v1 q_7.2 q_10 hc_11) hP hD rfl rfl wn_4_50 wn_4_52 sn_Scanner_number wn_1_3 wn_4_53 rfl rfl (by decide +kernel) ⟨Nat.le_of_ble_eq_true rfl, Nat.le_of_ble_eq_true rfl⟩ rfl hl.1 rfl (Nat.le_of_ble_eq_true rfl) dn_Scanner_token_28 ⟨Nat.le_of_ble_eq_true rfl, Nat.le_of_ble_eq_true rfl⟩) hP hD hS hA (fun r_12 _ H locs hw hP hD hS => ?_)
      have hw : r_12 = q_10.1 := hw
      subst hw
      rw [hQQ, ← Option.some.inj hf]
      exact xk_iret (w1 := fun u : Unit => (wC a v cI cB cJ cZ cQ q_10.2)) () hx hb hr hlocks hK hS dn_Scanner_token_31 hP hD rfl (Nat.le_refl _) (Nat.le_refl _)
  · have hf := (if_neg h).symm.trans hf
    refine lv_aload_n hx hb dn_Scanner_token_13 rfl (lv_at hl 1 rfl) ?_
    refine lv_iload_n hx hb dn_Scanner_token_14 rfl (lv_at hl 2 rfl) ?_
    obtain ⟨q_7, hc_8, hf⟩ := dc_b hf
    refine dc_calli (dc_runVS (ar := 1) (As := [.int v1]) (rest := []) (ci := 3) (q0 := 2) ⟨hx, hb, hml, hown, hg⟩ hK hN hT hG hS hA (ct_Scanner_word_Sc l dC dI cI cB cJ cZ cQ N H.size a v ad hv_0 v1 q_4.2 q_7 hc_8) hP hD rfl rfl wn_3_205 wn_3_207 sn_Scanner_word wn_1_3 wn_3_208 rfl rfl (by decide +kernel) ⟨Nat.le_of_ble_eq_true rfl, Nat.le_of_ble_eq_true rfl⟩ rfl hl.1 rfl (Nat.le_of_ble_eq_true rfl) dn_Scanner_token_15 ⟨Nat.le_of_ble_eq_true rfl, Nat.le_of_ble_eq_true rfl⟩) hP hD hS hA (fun r_9 _ H locs hw hP hD hS => ?_)
    have hw : r_9 = q_7.1 := hw
    subst hw
    rw [hQQ, ← Option.some.inj hf]
    exact xk_iret (w1 := fun u : Unit => (wC a v cI cB cJ cZ cQ q_7.2)) () hx hb hr hlocks hK hS dn_Scanner_token_18 hP hD rfl (Nat.le_refl _) (Nat.le_refl _)
set_option maxHeartbeats 8000000 in
set_option maxRecDepth 100000 in
theorem ct_Scanner_scan_Sc_Ds (l : Launch) (dC : Nat → ClassId) (dI : Nat → Nat → Nat) (cI cB cJ cZ cQ : ClassId) (N sz : Nat) (a : Nat → Nat) (v : Nat → Value) (ad : Nat → Nat) (s : ms) (y : (Unit × ms)) (hf : fn_Scanner_scan_Sc_Ds N s = some y) : Met l yn_Scanner_scan (xw yn_Scanner_scan bn_Scanner_scan 5 none) ({ frames := 9, cells := 0, slots := 0, locals := 205 }) (dc_PS (dC, dI) xcl (xt cI cB cJ cZ cQ) [.ref ((a 102)), .ref ((a 109))] sz (wC a v cI cB cJ cZ cQ s) ad) (xk_Qv (dC, dI) xcl (xt cI cB cJ cZ cQ) (fun _ : Unit => True) (fun u : Unit => (wC a ((va_up (va_up v 0 (.ref (a 307))) 1 (.ref (a 111)))) cI cB cJ cZ cQ y.2)) (va_A (wC a v cI cB cJ cZ cQ s) sz)) 0 0 (va_A (wC a v cI cB cJ cZ cQ s) sz) := by
  refine dc_ofS (ad := ad) (QA := xk_Qv (dC, dI) xcl (xt cI cB cJ cZ cQ) (fun _ : Unit => True) (fun u : Unit => (wC a ((va_up (va_up v 0 (.ref (a 307))) 1 (.ref (a 111)))) cI cB cJ cZ cQ y.2))) (by decide) (Nat.le_of_ble_eq_true rfl) ?_
  intro p e s0 m below meth c hx hb hml hown hg hr hlocks hin hP hK hN A hA hD hT hG ls hl
  have hown : s0.vm.findClass rn_Scanner = some m.cls := hown
  obtain ⟨H, hH⟩ : ∃ z, z = s0.heap := ⟨_, rfl⟩
  rw [← hH] at hP
  have hS : va_S A s0.heap H [] := by rw [hH]; exact va_S.rf
  suffices kk : ∀ QQ : State → Prop, QQ = MQ below (xk_Qv (dC, dI) xcl (xt cI cB cJ cZ cQ) (fun _ : Unit => True) (fun u : Unit => (wC a ((va_up (va_up v 0 (.ref (a 307))) 1 (.ref (a 111)))) cI cB cJ cZ cQ y.2)) A) [.ref ((a 102)), .ref ((a 109))].toArray s0 0 0 A → dcC p l e ({ frames := 9, cells := 0, slots := 0, locals := 205 }) s0 m [.ref ((a 102)), .ref ((a 109))].toArray below meth c QQ (dC, dI) A (wC a v cI cB cJ cZ cQ s) 0 5 [(0, .ref ((a 102))), (1, .ref ((a 109)))] [] by
    have k9 := kk _ rfl H [] ls hP hD hS hl
    rw [hH] at k9; exact k9
  clear hP hD hS hl hH H ls
  intro QQ hQQ
  have bl_123 : ∀ (x2 : Int32) (t0 : Int32) (s : ms), bk_Scanner_scan_Sc_Ds_123 N x2 t0 s = some y → dcC p l e ({ frames := 9, cells := 0, slots := 0, locals := 205 }) s0 m [.ref ((a 102)), .ref ((a 109))].toArray below meth c QQ (dC, dI) A (wC a ((va_up (va_up v 0 (.ref (a 307))) 1 (.ref (a 111)))) cI cB cJ cZ cQ s) 123 5 [(2, .int x2)] [.int t0, .ref ((a 101))] := by
    intro x2 t0 s hf H locs ls hP hD hS hl
    unfold bk_Scanner_scan_Sc_Ds_123 at hf
    refine lv_iload_n hx hb dn_Scanner_scan_123 rfl (lv_at hl 0 rfl) ?_
    refine lv_iconst (v := (-1)) hx hb dn_Scanner_scan_124 (by decide) ?_
    obtain ⟨q_1, hc_2, hf⟩ := dc_b hf
    refine dc_callv (dc_runV (ar := 3) (As := [.int t0, .int x2, .int ((-1))]) (rest := []) (ci := 2) (q0 := 1) ⟨hx, hb, hml, hown, hg⟩ hK hN hT hS hA (ct_Tokens_add_Tk l dC dI cI cB cJ cZ cQ N H.size a ((va_up (va_up v 0 (.ref (a 307))) 1 (.ref (a 111)))) t0 x2 ((-1)) s q_1 hc_2) hP hD rfl rfl wn_4_45 wn_4_46 wn_4_47 wn_1_2 wn_4_48 rfl rfl (by decide +kernel) ⟨Nat.le_of_ble_eq_true rfl, Nat.le_of_ble_eq_true rfl⟩ rfl hl.1 rfl (Nat.le_of_ble_eq_true rfl) dn_Scanner_scan_125 ⟨Nat.le_of_ble_eq_true rfl, Nat.le_of_ble_eq_true rfl⟩) hP hD hS hA (fun _ H locs hw hP hD hS => ?_)
    rw [hQQ, ← Option.some.inj hf]
    exact xk_vret (w1 := fun u : Unit => (wC a ((va_up (va_up v 0 (.ref (a 307))) 1 (.ref (a 111)))) cI cB cJ cZ cQ q_1.2)) () hx hb hr hlocks hK hS dn_Scanner_scan_128 hP hD trivial (Nat.le_refl _) (Nat.le_refl _)
  have bl_110 : ∀ (x2 : Int32) (x3 : Int32) (s : ms), bk_Scanner_scan_Sc_Ds_110 N x2 x3 s = some y → dcC p l e ({ frames := 9, cells := 0, slots := 0, locals := 205 }) s0 m [.ref ((a 102)), .ref ((a 109))].toArray below meth c QQ (dC, dI) A (wC a ((va_up (va_up v 0 (.ref (a 307))) 1 (.ref (a 111)))) cI cB cJ cZ cQ s) 110 5 [(0, .ref ((a 102))), (2, .int x2), (3, .int x3)] [] := by
    intro x2 x3 s hf H locs ls hP hD hS hl
    unfold bk_Scanner_scan_Sc_Ds_110 at hf
    refine lv_aload_n hx hb dn_Scanner_scan_110 rfl (lv_at hl 0 rfl) ?_
    refine va_get (D := (dC, dI)) (ci := 3) (v := .ref ((a 101))) (C := rn_Scanner) (T := fn_Scanner) (N := 9) hx hb hg in_Scanner hown hK hP 2 rfl rfl 0 (by decide) (hg _ wn_1_89) (fun _ h9 => h9) rfl dn_Scanner_scan_111 ?_
    refine lv_iload_n hx hb dn_Scanner_scan_114 rfl (lv_at hl 2 rfl) ?_
    refine lv_if_eq (tgt := 122) hx hb dn_Scanner_scan_115 (by decide) (fun h => ?_) (fun h => ?_)
    · have hf := (if_pos h).symm.trans hf
      refine lv_iconst (v := 1) hx hb dn_Scanner_scan_122 (by decide) ?_
      exact bl_123 x2 1 s hf H locs ls hP hD hS (lv_sub hl [1] rfl)
    · have hf := (if_neg h).symm.trans hf
      refine lv_iconst (v := 0) hx hb dn_Scanner_scan_118 (by decide) ?_
      refine lv_goto (tgt := 123) hx hb dn_Scanner_scan_119 (by decide) ?_
      exact bl_123 x2 0 s hf H locs ls hP hD hS (lv_sub hl [1] rfl)
  have bl_99 : ∀ (k_56 : Int32 → Int32 → ms → Option (Unit × ms)) (hk_56 : ∀ (x2 : Int32) (x3 : Int32) (s : ms), k_56 x2 x3 s = some y → dcC p l e ({ frames := 9, cells := 0, slots := 0, locals := 205 }) s0 m [.ref ((a 102)), .ref ((a 109))].toArray below meth c QQ (dC, dI) A (wC a ((va_up (va_up v 0 (.ref (a 307))) 1 (.ref (a 111)))) cI cB cJ cZ cQ s) 56 5 [(0, .ref ((a 102))), (2, .int x2), (3, .int x3)] []) (x2 : Int32) (x4 : Int32) (t0 : Int32) (s : ms), bk_Scanner_scan_Sc_Ds_99 N k_56 x2 x4 t0 s = some y → dcC p l e ({ frames := 9, cells := 0, slots := 0, locals := 205 }) s0 m [.ref ((a 102)), .ref ((a 109))].toArray below meth c QQ (dC, dI) A (wC a ((va_up (va_up v 0 (.ref (a 307))) 1 (.ref (a 111)))) cI cB cJ cZ cQ s) 99 5 [(0, .ref ((a 102))), (2, .int x2), (4, .int x4)] [.int t0] := by
    intro k_56 hk_56 x2 x4 t0 s hf H locs ls hP hD hS hl
    unfold bk_Scanner_scan_Sc_Ds_99 at hf
    refine lv_istore_n (lv' := [(3, .int t0), (0, .ref ((a 102))), (2, .int x2), (4, .int x4)]) hx hb dn_Scanner_scan_99 rfl hl (by decide) rfl (fun ls hl => ?_)
    refine lv_iload_n hx hb dn_Scanner_scan_100 rfl (lv_at hl 0 rfl) ?_
    refine lv_if_eq (tgt := 107) hx hb dn_Scanner_scan_101 (by decide) (fun h => ?_) (fun h => ?_)
    · have hf := (if_pos h).symm.trans hf
      refine lv_goto (tgt := 56) hx hb dn_Scanner_scan_107 (by decide) ?_
      exact hk_56 x2 t0 s hf H locs ls hP hD hS (lv_sub hl [1, 2, 0] rfl)
    · have hf := (if_neg h).symm.trans hf
      refine lv_iload hx hb dn_Scanner_scan_104 (lv_at hl 3 rfl) ?_
      refine lv_istore_n (lv' := [(2, .int x4), (3, .int t0), (0, .ref ((a 102))), (4, .int x4)]) hx hb dn_Scanner_scan_106 rfl hl (by decide) rfl (fun ls hl => ?_)
      refine lv_goto (tgt := 56) hx hb dn_Scanner_scan_107 (by decide) ?_
      exact hk_56 x4 t0 s hf H locs ls hP hD hS (lv_sub hl [2, 0, 1] rfl)
  have bl_88 : ∀ (k_56 : Int32 → Int32 → ms → Option (Unit × ms)) (hk_56 : ∀ (x2 : Int32) (x3 : Int32) (s : ms), k_56 x2 x3 s = some y → dcC p l e ({ frames := 9, cells := 0, slots := 0, locals := 205 }) s0 m [.ref ((a 102)), .ref ((a 109))].toArray below meth c QQ (dC, dI) A (wC a ((va_up (va_up v 0 (.ref (a 307))) 1 (.ref (a 111)))) cI cB cJ cZ cQ s) 56 5 [(0, .ref ((a 102))), (2, .int x2), (3, .int x3)] []) (x2 : Int32) (x4 : Int32) (s : ms), bk_Scanner_scan_Sc_Ds_88 N k_56 x2 x4 s = some y → dcC p l e ({ frames := 9, cells := 0, slots := 0, locals := 205 }) s0 m [.ref ((a 102)), .ref ((a 109))].toArray below meth c QQ (dC, dI) A (wC a ((va_up (va_up v 0 (.ref (a 307))) 1 (.ref (a 111)))) cI cB cJ cZ cQ s) 88 5 [(0, .ref ((a 102))), (2, .int x2), (4, .int x4)] [] := by
    intro k_56 hk_56 x2 x4 s hf H locs ls hP hD hS hl
    unfold bk_Scanner_scan_Sc_Ds_88 at hf
    refine lv_iload hx hb dn_Scanner_scan_88 (lv_at hl 2 rfl) ?_
    refine lv_iload_n hx hb dn_Scanner_scan_90 rfl (lv_at hl 1 rfl) ?_
    refine lv_icmp_le (tgt := 98) hx hb dn_Scanner_scan_91 (by decide) (fun h => ?_) (fun h => ?_)
    · have hf := (if_pos h).symm.trans hf
      refine lv_iconst (v := 0) hx hb dn_Scanner_scan_98 (by decide) ?_
      exact bl_99 k_56 hk_56 x2 x4 0 s hf H locs ls hP hD hS hl
    · have hf := (if_neg h).symm.trans hf
      refine lv_iconst (v := 1) hx hb dn_Scanner_scan_94 (by decide) ?_
      refine lv_goto (tgt := 99) hx hb dn_Scanner_scan_95 (by decide) ?_
      exact bl_99 k_56 hk_56 x2 x4 1 s hf H locs ls hP hD hS hl
  have hd_56 : ∀ (n : Nat) (x2 : Int32) (x3 : Int32) (s : ms), hd_Scanner_scan_Sc_Ds_56 N n x2 x3 s = some y → dcC p l e ({ frames := 9, cells := 0, slots := 0, locals := 205 }) s0 m [.ref ((a 102)), .ref ((a 109))].toArray below meth c QQ (dC, dI) A (wC a ((va_up (va_up v 0 (.ref (a 307))) 1 (.ref (a 111)))) cI cB cJ cZ cQ s) 56 5 [(0, .ref ((a 102))), (2, .int x2), (3, .int x3)] [] := by
    intro n
    induction n with
    | zero => intro x2 x3 s hf; cases hf
    | succ n ih =>
      intro x2 x3 s hf H locs ls hP hD hS hl
      have hf : bd_Scanner_scan_Sc_Ds_56 N (hd_Scanner_scan_Sc_Ds_56 N n) x2 x3 s = some y := hf
      have hk_56 := ih
      generalize hd_Scanner_scan_Sc_Ds_56 N n = k_56 at hf hk_56
      unfold bd_Scanner_scan_Sc_Ds_56 at hf
      refine lv_iload_n hx hb dn_Scanner_scan_56 rfl (lv_at hl 2 rfl) ?_
      refine lv_if_eq (tgt := 110) hx hb dn_Scanner_scan_57 (by decide) (fun h => ?_) (fun h => ?_)
      · have hf := (if_pos h).symm.trans hf
        exact bl_110 x2 x3 s hf H locs ls hP hD hS hl
      · have hf := (if_neg h).symm.trans hf
        refine lv_iload_n hx hb dn_Scanner_scan_60 rfl (lv_at hl 1 rfl) ?_
        refine lv_aload_n hx hb dn_Scanner_scan_61 rfl (lv_at hl 0 rfl) ?_
        refine va_get (D := (dC, dI)) (ci := 3) (v := .int ((s.1 222 0))) (C := rn_Scanner) (T := fn_Scanner) (N := 9) hx hb hg in_Scanner hown hK hP 2 rfl rfl 2 (by decide) (hg _ wn_1_91) (fun _ h9 => h9) rfl dn_Scanner_scan_62 ?_
        refine lv_icmp_ge (tgt := 110) hx hb dn_Scanner_scan_65 (by decide) (fun h => ?_) (fun h => ?_)
        · have hf := (if_pos h).symm.trans hf
          exact bl_110 x2 x3 s hf H locs ls hP hD hS hl
        · have hf := (if_neg h).symm.trans hf
          refine lv_aload_n hx hb dn_Scanner_scan_68 rfl (lv_at hl 0 rfl) ?_
          refine lv_iload_n hx hb dn_Scanner_scan_69 rfl (lv_at hl 1 rfl) ?_
          obtain ⟨q_1, hc_2, hf⟩ := dc_b hf
          refine dc_calli (dc_runV (ar := 1) (As := [.int x2]) (rest := []) (ci := 3) (q0 := 2) ⟨hx, hb, hml, hown, hg⟩ hK hN hT hS hA (ct_Scanner_skipped_Sc l dC dI cI cB cJ cZ cQ N H.size a ((va_up (va_up v 0 (.ref (a 307))) 1 (.ref (a 111)))) (show ((va_up (va_up v 0 (.ref (a 307))) 1 (.ref (a 111)))) 0 = .ref (a 307) from rfl) x2 s q_1 hc_2) hP hD rfl rfl wn_3_190 wn_3_192 sn_Scanner_skipped wn_1_3 wn_3_193 rfl rfl (by decide +kernel) ⟨Nat.le_of_ble_eq_true rfl, Nat.le_of_ble_eq_true rfl⟩ rfl hl.1 rfl (Nat.le_of_ble_eq_true rfl) dn_Scanner_scan_70 ⟨Nat.le_of_ble_eq_true rfl, Nat.le_of_ble_eq_true rfl⟩) hP hD hS hA (fun r_3 _ H locs hw hP hD hS => ?_)
          have hw : r_3 = q_1.1 := hw
          subst hw
          refine lv_istore (lv' := [(4, .int q_1.1), (0, .ref ((a 102))), (2, .int x2), (3, .int x3)]) hx hb dn_Scanner_scan_73 hl (by decide) rfl (fun ls hl => ?_)
          refine lv_iload hx hb dn_Scanner_scan_75 (lv_at hl 0 rfl) ?_
          refine lv_iload_n hx hb dn_Scanner_scan_77 rfl (lv_at hl 2 rfl) ?_
          refine lv_icmp_ne (tgt := 88) hx hb dn_Scanner_scan_78 (by decide) (fun h => ?_) (fun h => ?_)
          · have hf := (if_neg h).symm.trans hf
            exact bl_88 k_56 hk_56 x2 q_1.1 q_1.2 hf H locs ls hP hD hS (lv_sub hl [1, 2, 0] rfl)
          · have hf := (if_pos h).symm.trans hf
            refine lv_aload_n hx hb dn_Scanner_scan_81 rfl (lv_at hl 1 rfl) ?_
            refine lv_iload_n hx hb dn_Scanner_scan_82 rfl (lv_at hl 2 rfl) ?_
            obtain ⟨q_4, hc_5, hf⟩ := dc_b hf
            refine dc_calli (dc_runVS (ar := 1) (As := [.int x2]) (rest := []) (ci := 3) (q0 := 2) ⟨hx, hb, hml, hown, hg⟩ hK hN hT hG hS hA (ct_Scanner_token_Sc l dC dI cI cB cJ cZ cQ N H.size a ((va_up (va_up v 0 (.ref (a 307))) 1 (.ref (a 111)))) ad (show ((va_up (va_up v 0 (.ref (a 307))) 1 (.ref (a 111)))) 0 = .ref (a 307) from rfl) (show ((va_up (va_up v 0 (.ref (a 307))) 1 (.ref (a 111)))) 1 = .ref (a 111) from rfl) x2 q_1.2 q_4 hc_5) hP hD rfl rfl wn_3_198 wn_3_200 sn_Scanner_token wn_1_3 wn_3_201 rfl rfl (by decide +kernel) ⟨Nat.le_of_ble_eq_true rfl, Nat.le_of_ble_eq_true rfl⟩ rfl hl.1 rfl (Nat.le_of_ble_eq_true rfl) dn_Scanner_scan_83 ⟨Nat.le_of_ble_eq_true rfl, Nat.le_of_ble_eq_true rfl⟩) hP hD hS hA (fun r_6 _ H locs hw hP hD hS => ?_)
            have hw : r_6 = q_4.1 := hw
            subst hw
            refine lv_istore (lv' := [(4, .int q_4.1), (0, .ref ((a 102))), (2, .int x2), (3, .int x3)]) hx hb dn_Scanner_scan_86 hl (by decide) rfl (fun ls hl => ?_)
            exact bl_88 k_56 hk_56 x2 q_4.1 q_4.2 hf H locs ls hP hD hS (lv_sub hl [1, 2, 0] rfl)
  intro H locs ls hP hD hS hl
  unfold fn_Scanner_scan_Sc_Ds at hf
  refine lv_aload_n hx hb dn_Scanner_scan_0 rfl (lv_at hl 0 rfl) ?_
  refine lv_aload_n hx hb dn_Scanner_scan_1 rfl (lv_at hl 1 rfl) ?_
  refine va_get (D := (dC, dI)) (ci := 10) (v := .ref ((a 307))) (C := rn_Design) (T := fn_Design) (N := 16) hx hb hg in_Design hown hK hP 9 rfl rfl 2 (by decide) (hg _ wn_3_5) (fun _ h9 => h9) rfl dn_Scanner_scan_2 ?_
  refine va_put (D := (dC, dI)) (ci := 3) (v := .ref (a 307)) (ty := (.array .byte)) (C := rn_Scanner) (T := fn_Scanner) (N := 9) hx hb hg in_Scanner tn_Scanner tk_Scanner nn_Scanner hown hK hP hD hS 2 rfl rfl 1 (by decide) (hg _ wn_1_90) (fun _ h9 => h9) rfl (tk_Scanner 1 (by decide)) rfl rfl (Nat.le_of_ble_eq_true rfl) dn_Scanner_scan_5 (fun H locs hP hD hS => ?_)
  have hP := wC_Pv_0 hP
  have hD := wC_Dv_0 hD
  refine lv_aload_n hx hb dn_Scanner_scan_8 rfl (lv_at hl 0 rfl) ?_
  refine lv_aload_n hx hb dn_Scanner_scan_9 rfl (lv_at hl 1 rfl) ?_
  refine va_get (D := (dC, dI)) (ci := 10) (v := .int ((s.1 308 0))) (C := rn_Design) (T := fn_Design) (N := 16) hx hb hg in_Design hown hK hP 9 rfl rfl 3 (by decide) (hg _ wn_3_8) (fun _ h9 => h9) rfl dn_Scanner_scan_10 ?_
  refine lv_aload_n hx hb dn_Scanner_scan_13 rfl (lv_at hl 0 rfl) ?_
  refine va_get (D := (dC, dI)) (ci := 3) (v := .ref ((a 307))) (C := rn_Scanner) (T := fn_Scanner) (N := 9) hx hb hg in_Scanner hown hK hP 2 rfl rfl 1 (by decide) (hg _ wn_1_90) (fun _ h9 => h9) (congrArg some (show ((va_up v 0 (.ref (a 307)))) 0 = .ref (a 307) from rfl)) dn_Scanner_scan_14 ?_
  refine va_alen (v := 65536) hx hb hK hP 52 1 rfl rfl rfl dn_Scanner_scan_17 ?_
  refine va_mmin (x := (s.1 308 0)) (y := 65536) (rest := [.ref ((a 102))]) hx hb (by rw [hml]; exact hl.1.symm) hown (hg _ wn_3_182) (hg _ wn_3_168) (hg _ wn_1_19) (hg _ wn_3_169) (Nat.le_of_ble_eq_true rfl) (Nat.le_of_ble_eq_true rfl) (Nat.zero_le _) (Nat.zero_le _) dn_Scanner_scan_18 ?_
  refine va_put (D := (dC, dI)) (ci := 3) (v := .int ((if 65536 < (s.1 308 0) then 65536 else (s.1 308 0)))) (ty := .int) (C := rn_Scanner) (T := fn_Scanner) (N := 9) hx hb hg in_Scanner tn_Scanner tk_Scanner nn_Scanner hown hK hP hD hS 2 rfl rfl 2 (by decide) (hg _ wn_1_91) (fun _ h9 => h9) rfl (tk_Scanner 2 (by decide)) rfl rfl (Nat.le_of_ble_eq_true rfl) dn_Scanner_scan_21 (fun H locs hP hD hS => ?_)
  have hP := wC_P_222 hP
  have hD := wC_D_222 hD
  refine lv_aload_n hx hb dn_Scanner_scan_24 rfl (lv_at hl 0 rfl) ?_
  refine lv_aload_n hx hb dn_Scanner_scan_25 rfl (lv_at hl 1 rfl) ?_
  refine va_get (D := (dC, dI)) (ci := 10) (v := .ref ((a 111))) (C := rn_Design) (T := fn_Design) (N := 16) hx hb hg in_Design hown hK hP 9 rfl rfl 1 (by decide) (hg _ wn_3_1) (fun _ h9 => h9) rfl dn_Scanner_scan_26 ?_
  refine va_put (D := (dC, dI)) (ci := 3) (v := .ref (a 111)) (ty := (.object "CircuitCycles$Code")) (C := rn_Scanner) (T := fn_Scanner) (N := 9) hx hb hg in_Scanner tn_Scanner tk_Scanner nn_Scanner hown hK hP hD hS 2 rfl rfl 3 (by decide) (hg _ wn_1_92) (fun _ h9 => h9) rfl (tk_Scanner 3 (by decide)) rfl rfl (Nat.le_of_ble_eq_true rfl) dn_Scanner_scan_29 (fun H locs hP hD hS => ?_)
  have hP := wC_Pv_1 hP
  have hD := wC_Dv_1 hD
  refine lv_aload_n hx hb dn_Scanner_scan_32 rfl (lv_at hl 0 rfl) ?_
  refine va_get (D := (dC, dI)) (ci := 3) (v := .ref ((a 101))) (C := rn_Scanner) (T := fn_Scanner) (N := 9) hx hb hg in_Scanner hown hK hP 2 rfl rfl 0 (by decide) (hg _ wn_1_89) (fun _ h9 => h9) rfl dn_Scanner_scan_33 ?_
  obtain ⟨q_1, hc_2, hf⟩ := dc_b hf
  refine dc_callv (dc_runV (ar := 0) (As := []) (rest := []) (ci := 2) (q0 := 1) ⟨hx, hb, hml, hown, hg⟩ hK hN hT hS hA (ct_Tokens_clear_Tk l dC dI cI cB cJ cZ cQ N H.size a ((va_up (va_up v 0 (.ref (a 307))) 1 (.ref (a 111)))) (upI s 222 (fun _ => (if 65536 < (s.1 308 0) then 65536 else (s.1 308 0)))) q_1 hc_2) hP hD rfl rfl wn_3_183 wn_3_184 wn_3_185 wn_1_2 wn_3_186 rfl rfl (by decide +kernel) ⟨Nat.le_of_ble_eq_true rfl, Nat.le_of_ble_eq_true rfl⟩ rfl hl.1 rfl (Nat.le_of_ble_eq_true rfl) dn_Scanner_scan_36 ⟨Nat.le_of_ble_eq_true rfl, Nat.le_of_ble_eq_true rfl⟩) hP hD hS hA (fun _ H locs hw hP hD hS => ?_)
  refine lv_aload_n hx hb dn_Scanner_scan_39 rfl (lv_at hl 0 rfl) ?_
  refine va_get (D := (dC, dI)) (ci := 3) (v := .ref ((a 224))) (C := rn_Scanner) (T := fn_Scanner) (N := 9) hx hb hg in_Scanner hown hK hP 2 rfl rfl 4 (by decide) (hg _ wn_1_93) (fun _ h9 => h9) rfl dn_Scanner_scan_40 ?_
  refine lv_iconst (v := (-1)) hx hb dn_Scanner_scan_43 (by decide) ?_
  refine dc_callv (dc_runS (ar := 2) (As := [.ref ((a 224)), .int ((-1))]) (rest := []) ⟨hx, hb, hml, hown, hg⟩ hK hN hT hS hA (ct_fill l dC dI cI cB cJ cZ cQ N H.size a ((va_up (va_up v 0 (.ref (a 307))) 1 (.ref (a 111)))) ((-1)) q_1.2) hP hD wn_3_187 wn_3_188 wn_1_20 wn_3_189 rfl rfl (by decide +kernel) ⟨Nat.le_of_ble_eq_true rfl, Nat.le_of_ble_eq_true rfl⟩ rfl hl.1 rfl (Nat.le_of_ble_eq_true rfl) dn_Scanner_scan_44 ⟨Nat.le_of_ble_eq_true rfl, Nat.le_of_ble_eq_true rfl⟩) hP hD hS hA (fun _ H locs hw hP hD hS => ?_)
  refine lv_aload_n hx hb dn_Scanner_scan_47 rfl (lv_at hl 0 rfl) ?_
  refine lv_iconst (v := 0) hx hb dn_Scanner_scan_48 (by decide) ?_
  refine va_put (D := (dC, dI)) (ci := 3) (v := .int 0) (ty := .int) (C := rn_Scanner) (T := fn_Scanner) (N := 9) hx hb hg in_Scanner tn_Scanner tk_Scanner nn_Scanner hown hK hP hD hS 2 rfl rfl 8 (by decide) (hg _ wn_1_97) (fun _ h9 => h9) rfl (tk_Scanner 8 (by decide)) rfl rfl (Nat.le_of_ble_eq_true rfl) dn_Scanner_scan_49 (fun H locs hP hD hS => ?_)
  have hP := wC_P_228 hP
  have hD := wC_D_228 hD
  refine lv_iconst (v := 0) hx hb dn_Scanner_scan_52 (by decide) ?_
  refine lv_istore_n (lv' := [(2, .int 0), (0, .ref ((a 102))), (1, .ref ((a 109)))]) hx hb dn_Scanner_scan_53 rfl hl (by decide) rfl (fun ls hl => ?_)
  refine lv_iconst (v := 1) hx hb dn_Scanner_scan_54 (by decide) ?_
  refine lv_istore_n (lv' := [(3, .int 1), (2, .int 0), (0, .ref ((a 102))), (1, .ref ((a 109)))]) hx hb dn_Scanner_scan_55 rfl hl (by decide) rfl (fun ls hl => ?_)
  exact hd_56 N 0 1 (upI (upI q_1.2 224 (xk_fillv 256 ((-1)) (q_1.2.1 224))) 228 (fun _ => 0)) hf H locs ls hP hD hS (lv_sub hl [2, 1, 0] rfl)
