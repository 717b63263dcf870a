/-! Strings. -/
def rn_Preconditions : String := "jdk/internal/util/Preconditions"
def rn_String : String := "java/lang/String"
def rn_StringLatin1 : String := "java/lang/StringLatin1"
theorem wn_1_21 : (Jvm.Cond.initialized "java/lang/String") ∈ xw_G := xw_c1 (List.mem_of_getElem? (i := 21) rfl) rfl
theorem wn_1_22 : (Jvm.Cond.initialized "java/lang/StringLatin1") ∈ xw_G := xw_c1 (List.mem_of_getElem? (i := 22) rfl) rfl
theorem wn_1_23 : (Jvm.Cond.initialized "jdk/internal/util/Preconditions") ∈ xw_G := xw_c1 (List.mem_of_getElem? (i := 23) rfl) rfl
theorem wn_3_234 : (Jvm.Cond.instanceMethod ({ cls := "java/lang/String", name := "length", desc := "()I" } : Jvm.MethodName)) ∈ xw_G := xw_c3 (List.mem_of_getElem? (i := 234) rfl) rfl
theorem wn_3_235 : (Jvm.Cond.selects "java/lang/String" ({ cls := "java/lang/String", name := "length", desc := "()I" } : Jvm.MethodName) ({ cls := "java/lang/String", name := "length", desc := "()I" } : Jvm.MethodName)) ∈ xw_G := xw_c3 (List.mem_of_getElem? (i := 235) rfl) rfl
theorem wn_3_236 : (Jvm.Cond.code ({ cls := "java/lang/String", name := "length", desc := "()I" } : Jvm.MethodName) prog_23_method_54_code (1 : Nat) (Option.some Jvm.ClassFile.FieldType.int)) ∈ xw_G := xw_c3 (List.mem_of_getElem? (i := 236) rfl) rfl
theorem wn_3_237 : (Jvm.Cond.methodLink "java/lang/String" (335 : Nat) ({ cls := "java/lang/String", name := "coder", desc := "()B" } : Jvm.MethodName)) ∈ xw_G := xw_c3 (List.mem_of_getElem? (i := 237) rfl) rfl
theorem wn_3_238 : (Jvm.Cond.instanceMethod ({ cls := "java/lang/String", name := "coder", desc := "()B" } : Jvm.MethodName)) ∈ xw_G := xw_c3 (List.mem_of_getElem? (i := 238) rfl) rfl
theorem wn_3_239 : (Jvm.Cond.selects "java/lang/String" ({ cls := "java/lang/String", name := "coder", desc := "()B" } : Jvm.MethodName) ({ cls := "java/lang/String", name := "coder", desc := "()B" } : Jvm.MethodName)) ∈ xw_G := xw_c3 (List.mem_of_getElem? (i := 239) rfl) rfl
theorem wn_4_0 : (Jvm.Cond.code ({ cls := "java/lang/String", name := "coder", desc := "()B" } : Jvm.MethodName) prog_23_method_152_code (1 : Nat) (Option.some Jvm.ClassFile.FieldType.byte)) ∈ xw_G := xw_c4 (List.mem_of_getElem? (i := 0) rfl) rfl
theorem wn_4_1 : (Jvm.Cond.fieldLink "java/lang/String" (38 : Nat) "java/lang/String" "COMPACT_STRINGS" "Z") ∈ xw_G := xw_c4 (List.mem_of_getElem? (i := 1) rfl) rfl
theorem wn_4_7 : (Jvm.Cond.methodLink "java/lang/String" (492 : Nat) ({ cls := "java/lang/String", name := "isLatin1", desc := "()Z" } : Jvm.MethodName)) ∈ xw_G := xw_c4 (List.mem_of_getElem? (i := 7) rfl) rfl
theorem wn_4_8 : (Jvm.Cond.instanceMethod ({ cls := "java/lang/String", name := "isLatin1", desc := "()Z" } : Jvm.MethodName)) ∈ xw_G := xw_c4 (List.mem_of_getElem? (i := 8) rfl) rfl
theorem wn_4_9 : (Jvm.Cond.selects "java/lang/String" ({ cls := "java/lang/String", name := "isLatin1", desc := "()Z" } : Jvm.MethodName) ({ cls := "java/lang/String", name := "isLatin1", desc := "()Z" } : Jvm.MethodName)) ∈ xw_G := xw_c4 (List.mem_of_getElem? (i := 9) rfl) rfl
theorem wn_4_10 : (Jvm.Cond.code ({ cls := "java/lang/String", name := "isLatin1", desc := "()Z" } : Jvm.MethodName) prog_23_method_154_code (1 : Nat) (Option.some Jvm.ClassFile.FieldType.boolean)) ∈ xw_G := xw_c4 (List.mem_of_getElem? (i := 10) rfl) rfl
theorem wn_4_11 : (Jvm.Cond.methodLink "java/lang/String" (495 : Nat) ({ cls := "java/lang/StringLatin1", name := "charAt", desc := "([BI)C" } : Jvm.MethodName)) ∈ xw_G := xw_c4 (List.mem_of_getElem? (i := 11) rfl) rfl
theorem wn_4_12 : (Jvm.Cond.static ({ cls := "java/lang/StringLatin1", name := "charAt", desc := "([BI)C" } : Jvm.MethodName)) ∈ xw_G := xw_c4 (List.mem_of_getElem? (i := 12) rfl) rfl
theorem wn_4_13 : (Jvm.Cond.code ({ cls := "java/lang/StringLatin1", name := "charAt", desc := "([BI)C" } : Jvm.MethodName) prog_24_method_2_code (2 : Nat) (Option.some Jvm.ClassFile.FieldType.char)) ∈ xw_G := xw_c4 (List.mem_of_getElem? (i := 13) rfl) rfl
theorem wn_4_14 : (Jvm.Cond.methodLink "java/lang/StringLatin1" (9 : Nat) ({ cls := "java/lang/String", name := "checkIndex", desc := "(II)V" } : Jvm.MethodName)) ∈ xw_G := xw_c4 (List.mem_of_getElem? (i := 14) rfl) rfl
theorem wn_4_15 : (Jvm.Cond.static ({ cls := "java/lang/String", name := "checkIndex", desc := "(II)V" } : Jvm.MethodName)) ∈ xw_G := xw_c4 (List.mem_of_getElem? (i := 15) rfl) rfl
theorem wn_4_16 : (Jvm.Cond.code ({ cls := "java/lang/String", name := "checkIndex", desc := "(II)V" } : Jvm.MethodName) prog_23_method_155_code (2 : Nat) (Option.none : Option Jvm.ClassFile.FieldType)) ∈ xw_G := xw_c4 (List.mem_of_getElem? (i := 16) rfl) rfl
theorem wn_4_17 : (Jvm.Cond.fieldLink "java/lang/String" (1053 : Nat) "jdk/internal/util/Preconditions" "SIOOBE_FORMATTER" "Ljava/util/function/BiFunction;") ∈ xw_G := xw_c4 (List.mem_of_getElem? (i := 17) rfl) rfl
theorem wn_4_19 : (Jvm.Cond.methodLink "java/lang/String" (1059 : Nat) ({ cls := "jdk/internal/util/Preconditions", name := "checkIndex", desc := "(IILjava/util/function/BiFunction;)I" } : Jvm.MethodName)) ∈ xw_G := xw_c4 (List.mem_of_getElem? (i := 19) rfl) rfl
theorem wn_4_20 : (Jvm.Cond.static ({ cls := "jdk/internal/util/Preconditions", name := "checkIndex", desc := "(IILjava/util/function/BiFunction;)I" } : Jvm.MethodName)) ∈ xw_G := xw_c4 (List.mem_of_getElem? (i := 20) rfl) rfl
theorem wn_4_21 : (Jvm.Cond.code ({ cls := "jdk/internal/util/Preconditions", name := "checkIndex", desc := "(IILjava/util/function/BiFunction;)I" } : Jvm.MethodName) prog_30_method_11_code (3 : Nat) (Option.some Jvm.ClassFile.FieldType.int)) ∈ xw_G := xw_c4 (List.mem_of_getElem? (i := 21) rfl) rfl
theorem wn_4_87 : (Jvm.Cond.methodLink "java/lang/String" (633 : Nat) ({ cls := "java/lang/String", name := "indexOf", desc := "(II)I" } : Jvm.MethodName)) ∈ xw_G := xw_c4 (List.mem_of_getElem? (i := 87) rfl) rfl
theorem wn_4_88 : (Jvm.Cond.instanceMethod ({ cls := "java/lang/String", name := "indexOf", desc := "(II)I" } : Jvm.MethodName)) ∈ xw_G := xw_c4 (List.mem_of_getElem? (i := 88) rfl) rfl
theorem wn_4_89 : (Jvm.Cond.selects "java/lang/String" ({ cls := "java/lang/String", name := "indexOf", desc := "(II)I" } : Jvm.MethodName) ({ cls := "java/lang/String", name := "indexOf", desc := "(II)I" } : Jvm.MethodName)) ∈ xw_G := xw_c4 (List.mem_of_getElem? (i := 89) rfl) rfl
theorem wn_4_90 : (Jvm.Cond.code ({ cls := "java/lang/String", name := "indexOf", desc := "(II)I" } : Jvm.MethodName) prog_23_method_80_code (3 : Nat) (Option.some Jvm.ClassFile.FieldType.int)) ∈ xw_G := xw_c4 (List.mem_of_getElem? (i := 90) rfl) rfl
theorem wn_4_91 : (Jvm.Cond.methodLink "java/lang/String" (505 : Nat) ({ cls := "java/lang/String", name := "length", desc := "()I" } : Jvm.MethodName)) ∈ xw_G := xw_c4 (List.mem_of_getElem? (i := 91) rfl) rfl
theorem wn_4_92 : (Jvm.Cond.methodLink "java/lang/String" (637 : Nat) ({ cls := "java/lang/StringLatin1", name := "indexOf", desc := "([BIII)I" } : Jvm.MethodName)) ∈ xw_G := xw_c4 (List.mem_of_getElem? (i := 92) rfl) rfl
theorem wn_4_93 : (Jvm.Cond.static ({ cls := "java/lang/StringLatin1", name := "indexOf", desc := "([BIII)I" } : Jvm.MethodName)) ∈ xw_G := xw_c4 (List.mem_of_getElem? (i := 93) rfl) rfl
theorem wn_4_94 : (Jvm.Cond.code ({ cls := "java/lang/StringLatin1", name := "indexOf", desc := "([BIII)I" } : Jvm.MethodName) prog_24_method_22_code (4 : Nat) (Option.some Jvm.ClassFile.FieldType.int)) ∈ xw_G := xw_c4 (List.mem_of_getElem? (i := 94) rfl) rfl
theorem wn_4_95 : (Jvm.Cond.methodLink "java/lang/StringLatin1" (88 : Nat) ({ cls := "java/lang/StringLatin1", name := "canEncode", desc := "(I)Z" } : Jvm.MethodName)) ∈ xw_G := xw_c4 (List.mem_of_getElem? (i := 95) rfl) rfl
theorem wn_4_96 : (Jvm.Cond.static ({ cls := "java/lang/StringLatin1", name := "canEncode", desc := "(I)Z" } : Jvm.MethodName)) ∈ xw_G := xw_c4 (List.mem_of_getElem? (i := 96) rfl) rfl
theorem wn_4_97 : (Jvm.Cond.code ({ cls := "java/lang/StringLatin1", name := "canEncode", desc := "(I)Z" } : Jvm.MethodName) prog_24_method_4_code (1 : Nat) (Option.some Jvm.ClassFile.FieldType.boolean)) ∈ xw_G := xw_c4 (List.mem_of_getElem? (i := 97) rfl) rfl
theorem wn_4_98 : (Jvm.Cond.methodLink "java/lang/StringLatin1" (92 : Nat) ({ cls := "java/lang/Math", name := "max", desc := "(II)I" } : Jvm.MethodName)) ∈ xw_G := xw_c4 (List.mem_of_getElem? (i := 98) rfl) rfl
theorem wn_4_101 : (Jvm.Cond.methodLink "java/lang/StringLatin1" (38 : Nat) ({ cls := "java/lang/Math", name := "min", desc := "(II)I" } : Jvm.MethodName)) ∈ xw_G := xw_c4 (List.mem_of_getElem? (i := 101) rfl) rfl
theorem wn_4_102 : (Jvm.Cond.methodLink "java/lang/StringLatin1" (95 : Nat) ({ cls := "java/lang/StringLatin1", name := "indexOfChar", desc := "([BIII)I" } : Jvm.MethodName)) ∈ xw_G := xw_c4 (List.mem_of_getElem? (i := 102) rfl) rfl
theorem wn_4_103 : (Jvm.Cond.static ({ cls := "java/lang/StringLatin1", name := "indexOfChar", desc := "([BIII)I" } : Jvm.MethodName)) ∈ xw_G := xw_c4 (List.mem_of_getElem? (i := 103) rfl) rfl
theorem wn_4_104 : (Jvm.Cond.code ({ cls := "java/lang/StringLatin1", name := "indexOfChar", desc := "([BIII)I" } : Jvm.MethodName) prog_24_method_23_code (6 : Nat) (Option.some Jvm.ClassFile.FieldType.int)) ∈ xw_G := xw_c4 (List.mem_of_getElem? (i := 104) rfl) rfl
theorem wn_11_63 : (Jvm.Cond.fieldLink "java/lang/String" (9 : Nat) "java/lang/String" "value" "[B") ∈ xw_G := xw_c11 (List.mem_of_getElem? (i := 63) rfl) rfl
theorem wn_11_64 : (Jvm.Cond.fieldLink "java/lang/String" (15 : Nat) "java/lang/String" "coder" "B") ∈ xw_G := xw_c11 (List.mem_of_getElem? (i := 64) rfl) rfl
def yn_Preconditions_checkIndex : MethodName := ⟨rn_Preconditions, "checkIndex", "(IILjava/util/function/BiFunction;)I"⟩
abbrev bn_Preconditions_checkIndex : ByteArray := prog_30_method_11_code
def yn_StringLatin1_canEncode : MethodName := ⟨rn_StringLatin1, "canEncode", "(I)Z"⟩
abbrev bn_StringLatin1_canEncode : ByteArray := prog_24_method_4_code
def yn_StringLatin1_charAt : MethodName := ⟨rn_StringLatin1, "charAt", "([BI)C"⟩
abbrev bn_StringLatin1_charAt : ByteArray := prog_24_method_2_code
def yn_StringLatin1_indexOf : MethodName := ⟨rn_StringLatin1, "indexOf", "([BIII)I"⟩
abbrev bn_StringLatin1_indexOf : ByteArray := prog_24_method_22_code
def yn_StringLatin1_indexOfChar : MethodName := ⟨rn_StringLatin1, "indexOfChar", "([BIII)I"⟩
abbrev bn_StringLatin1_indexOfChar : ByteArray := prog_24_method_23_code
def yn_String_charAt : MethodName := ⟨rn_String, "charAt", "(I)C"⟩
abbrev bn_String_charAt : ByteArray := prog_23_method_56_code
def yn_String_checkIndex : MethodName := ⟨rn_String, "checkIndex", "(II)V"⟩
abbrev bn_String_checkIndex : ByteArray := prog_23_method_155_code
def yn_String_coder : MethodName := ⟨rn_String, "coder", "()B"⟩
abbrev bn_String_coder : ByteArray := prog_23_method_152_code
def yn_String_indexOf_II : MethodName := ⟨rn_String, "indexOf", "(I)I"⟩
abbrev bn_String_indexOf_II : ByteArray := prog_23_method_79_code
def yn_String_indexOf_III : MethodName := ⟨rn_String, "indexOf", "(II)I"⟩
abbrev bn_String_indexOf_III : ByteArray := prog_23_method_80_code
def yn_String_isLatin1 : MethodName := ⟨rn_String, "isLatin1", "()Z"⟩
abbrev bn_String_isLatin1 : ByteArray := prog_23_method_154_code
def yn_String_length : MethodName := ⟨rn_String, "length", "()I"⟩
abbrev bn_String_length : ByteArray := prog_23_method_54_code
theorem dn_Preconditions_checkIndex_0 : decode bn_Preconditions_checkIndex 0 = .ok (.iload_n 0, 1) := by decide +kernel
theorem dn_Preconditions_checkIndex_1 : decode bn_Preconditions_checkIndex 1 = .ok (.ifCond .lt 8, 3) := by decide +kernel
theorem dn_Preconditions_checkIndex_4 : decode bn_Preconditions_checkIndex 4 = .ok (.iload_n 0, 1) := by decide +kernel
theorem dn_Preconditions_checkIndex_5 : decode bn_Preconditions_checkIndex 5 = .ok (.iload_n 1, 1) := by decide +kernel
theorem dn_Preconditions_checkIndex_6 : decode bn_Preconditions_checkIndex 6 = .ok (.if_icmp .lt 10, 3) := by decide +kernel
theorem dn_Preconditions_checkIndex_9 : decode bn_Preconditions_checkIndex 9 = .ok (.aload_n 2, 1) := by decide +kernel
theorem dn_Preconditions_checkIndex_10 : decode bn_Preconditions_checkIndex 10 = .ok (.iload_n 0, 1) := by decide +kernel
theorem dn_Preconditions_checkIndex_11 : decode bn_Preconditions_checkIndex 11 = .ok (.iload_n 1, 1) := by decide +kernel
theorem dn_Preconditions_checkIndex_12 : decode bn_Preconditions_checkIndex 12 = .ok (.invokestatic 95, 3) := by decide +kernel
theorem dn_Preconditions_checkIndex_16 : decode bn_Preconditions_checkIndex 16 = .ok (.iload_n 0, 1) := by decide +kernel
theorem dn_Preconditions_checkIndex_17 : decode bn_Preconditions_checkIndex 17 = .ok (.ireturn, 1) := by decide +kernel
theorem dn_StringLatin1_canEncode_0 : decode bn_StringLatin1_canEncode 0 = .ok (.iload_n 0, 1) := by decide +kernel
theorem dn_StringLatin1_canEncode_1 : decode bn_StringLatin1_canEncode 1 = .ok (.ifCond .lt 14, 3) := by decide +kernel
theorem dn_StringLatin1_canEncode_4 : decode bn_StringLatin1_canEncode 4 = .ok (.iload_n 0, 1) := by decide +kernel
theorem dn_StringLatin1_canEncode_5 : decode bn_StringLatin1_canEncode 5 = .ok (.sipush 255, 3) := by decide +kernel
theorem dn_StringLatin1_canEncode_8 : decode bn_StringLatin1_canEncode 8 = .ok (.if_icmp .gt 7, 3) := by decide +kernel
theorem dn_StringLatin1_canEncode_11 : decode bn_StringLatin1_canEncode 11 = .ok (.iconst 1, 1) := by decide +kernel
theorem dn_StringLatin1_canEncode_12 : decode bn_StringLatin1_canEncode 12 = .ok (.goto 4, 3) := by decide +kernel
theorem dn_StringLatin1_canEncode_15 : decode bn_StringLatin1_canEncode 15 = .ok (.iconst 0, 1) := by decide +kernel
theorem dn_StringLatin1_canEncode_16 : decode bn_StringLatin1_canEncode 16 = .ok (.ireturn, 1) := by decide +kernel
theorem dn_StringLatin1_charAt_0 : decode bn_StringLatin1_charAt 0 = .ok (.iload_n 1, 1) := by decide +kernel
theorem dn_StringLatin1_charAt_1 : decode bn_StringLatin1_charAt 1 = .ok (.aload_n 0, 1) := by decide +kernel
theorem dn_StringLatin1_charAt_2 : decode bn_StringLatin1_charAt 2 = .ok (.arraylength, 1) := by decide +kernel
theorem dn_StringLatin1_charAt_3 : decode bn_StringLatin1_charAt 3 = .ok (.invokestatic 9, 3) := by decide +kernel
theorem dn_StringLatin1_charAt_6 : decode bn_StringLatin1_charAt 6 = .ok (.aload_n 0, 1) := by decide +kernel
theorem dn_StringLatin1_charAt_7 : decode bn_StringLatin1_charAt 7 = .ok (.iload_n 1, 1) := by decide +kernel
theorem dn_StringLatin1_charAt_8 : decode bn_StringLatin1_charAt 8 = .ok (.baload, 1) := by decide +kernel
theorem dn_StringLatin1_charAt_9 : decode bn_StringLatin1_charAt 9 = .ok (.sipush 255, 3) := by decide +kernel
theorem dn_StringLatin1_charAt_12 : decode bn_StringLatin1_charAt 12 = .ok (.iand, 1) := by decide +kernel
theorem dn_StringLatin1_charAt_13 : decode bn_StringLatin1_charAt 13 = .ok (.i2c, 1) := by decide +kernel
theorem dn_StringLatin1_charAt_14 : decode bn_StringLatin1_charAt 14 = .ok (.ireturn, 1) := by decide +kernel
theorem dn_StringLatin1_indexOf_0 : decode bn_StringLatin1_indexOf 0 = .ok (.iload_n 1, 1) := by decide +kernel
theorem dn_StringLatin1_indexOf_1 : decode bn_StringLatin1_indexOf 1 = .ok (.invokestatic 88, 3) := by decide +kernel
theorem dn_StringLatin1_indexOf_4 : decode bn_StringLatin1_indexOf 4 = .ok (.ifCond .ne 5, 3) := by decide +kernel
theorem dn_StringLatin1_indexOf_7 : decode bn_StringLatin1_indexOf 7 = .ok (.iconst (-1), 1) := by decide +kernel
theorem dn_StringLatin1_indexOf_8 : decode bn_StringLatin1_indexOf 8 = .ok (.ireturn, 1) := by decide +kernel
theorem dn_StringLatin1_indexOf_9 : decode bn_StringLatin1_indexOf 9 = .ok (.iload_n 2, 1) := by decide +kernel
theorem dn_StringLatin1_indexOf_10 : decode bn_StringLatin1_indexOf 10 = .ok (.iconst 0, 1) := by decide +kernel
theorem dn_StringLatin1_indexOf_11 : decode bn_StringLatin1_indexOf 11 = .ok (.invokestatic 92, 3) := by decide +kernel
theorem dn_StringLatin1_indexOf_14 : decode bn_StringLatin1_indexOf 14 = .ok (.istore_n 2, 1) := by decide +kernel
theorem dn_StringLatin1_indexOf_15 : decode bn_StringLatin1_indexOf 15 = .ok (.iload_n 3, 1) := by decide +kernel
theorem dn_StringLatin1_indexOf_16 : decode bn_StringLatin1_indexOf 16 = .ok (.aload_n 0, 1) := by decide +kernel
theorem dn_StringLatin1_indexOf_17 : decode bn_StringLatin1_indexOf 17 = .ok (.arraylength, 1) := by decide +kernel
theorem dn_StringLatin1_indexOf_18 : decode bn_StringLatin1_indexOf 18 = .ok (.invokestatic 38, 3) := by decide +kernel
theorem dn_StringLatin1_indexOf_21 : decode bn_StringLatin1_indexOf 21 = .ok (.istore_n 3, 1) := by decide +kernel
theorem dn_StringLatin1_indexOf_22 : decode bn_StringLatin1_indexOf 22 = .ok (.iload_n 2, 1) := by decide +kernel
theorem dn_StringLatin1_indexOf_23 : decode bn_StringLatin1_indexOf 23 = .ok (.iload_n 3, 1) := by decide +kernel
theorem dn_StringLatin1_indexOf_24 : decode bn_StringLatin1_indexOf 24 = .ok (.if_icmp .lt 5, 3) := by decide +kernel
theorem dn_StringLatin1_indexOf_27 : decode bn_StringLatin1_indexOf 27 = .ok (.iconst (-1), 1) := by decide +kernel
theorem dn_StringLatin1_indexOf_28 : decode bn_StringLatin1_indexOf 28 = .ok (.ireturn, 1) := by decide +kernel
theorem dn_StringLatin1_indexOf_29 : decode bn_StringLatin1_indexOf 29 = .ok (.aload_n 0, 1) := by decide +kernel
theorem dn_StringLatin1_indexOf_30 : decode bn_StringLatin1_indexOf 30 = .ok (.iload_n 1, 1) := by decide +kernel
theorem dn_StringLatin1_indexOf_31 : decode bn_StringLatin1_indexOf 31 = .ok (.iload_n 2, 1) := by decide +kernel
theorem dn_StringLatin1_indexOf_32 : decode bn_StringLatin1_indexOf 32 = .ok (.iload_n 3, 1) := by decide +kernel
theorem dn_StringLatin1_indexOf_33 : decode bn_StringLatin1_indexOf 33 = .ok (.invokestatic 95, 3) := by decide +kernel
theorem dn_StringLatin1_indexOf_36 : decode bn_StringLatin1_indexOf 36 = .ok (.ireturn, 1) := by decide +kernel
theorem dn_StringLatin1_indexOfChar_0 : decode bn_StringLatin1_indexOfChar 0 = .ok (.iload_n 1, 1) := by decide +kernel
theorem dn_StringLatin1_indexOfChar_1 : decode bn_StringLatin1_indexOfChar 1 = .ok (.i2b, 1) := by decide +kernel
theorem dn_StringLatin1_indexOfChar_2 : decode bn_StringLatin1_indexOfChar 2 = .ok (.istore 4, 2) := by decide +kernel
theorem dn_StringLatin1_indexOfChar_4 : decode bn_StringLatin1_indexOfChar 4 = .ok (.iload_n 2, 1) := by decide +kernel
theorem dn_StringLatin1_indexOfChar_5 : decode bn_StringLatin1_indexOfChar 5 = .ok (.istore 5, 2) := by decide +kernel
theorem dn_StringLatin1_indexOfChar_7 : decode bn_StringLatin1_indexOfChar 7 = .ok (.iload 5, 2) := by decide +kernel
theorem dn_StringLatin1_indexOfChar_9 : decode bn_StringLatin1_indexOfChar 9 = .ok (.iload_n 3, 1) := by decide +kernel
theorem dn_StringLatin1_indexOfChar_10 : decode bn_StringLatin1_indexOfChar 10 = .ok (.if_icmp .ge 21, 3) := by decide +kernel
theorem dn_StringLatin1_indexOfChar_13 : decode bn_StringLatin1_indexOfChar 13 = .ok (.aload_n 0, 1) := by decide +kernel
theorem dn_StringLatin1_indexOfChar_14 : decode bn_StringLatin1_indexOfChar 14 = .ok (.iload 5, 2) := by decide +kernel
theorem dn_StringLatin1_indexOfChar_16 : decode bn_StringLatin1_indexOfChar 16 = .ok (.baload, 1) := by decide +kernel
theorem dn_StringLatin1_indexOfChar_17 : decode bn_StringLatin1_indexOfChar 17 = .ok (.iload 4, 2) := by decide +kernel
theorem dn_StringLatin1_indexOfChar_19 : decode bn_StringLatin1_indexOfChar 19 = .ok (.if_icmp .ne 6, 3) := by decide +kernel
theorem dn_StringLatin1_indexOfChar_22 : decode bn_StringLatin1_indexOfChar 22 = .ok (.iload 5, 2) := by decide +kernel
theorem dn_StringLatin1_indexOfChar_24 : decode bn_StringLatin1_indexOfChar 24 = .ok (.ireturn, 1) := by decide +kernel
theorem dn_StringLatin1_indexOfChar_25 : decode bn_StringLatin1_indexOfChar 25 = .ok (.iinc 5 1, 3) := by decide +kernel
theorem dn_StringLatin1_indexOfChar_28 : decode bn_StringLatin1_indexOfChar 28 = .ok (.goto (-21), 3) := by decide +kernel
theorem dn_StringLatin1_indexOfChar_31 : decode bn_StringLatin1_indexOfChar 31 = .ok (.iconst (-1), 1) := by decide +kernel
theorem dn_StringLatin1_indexOfChar_32 : decode bn_StringLatin1_indexOfChar 32 = .ok (.ireturn, 1) := by decide +kernel
theorem dn_String_charAt_0 : decode bn_String_charAt 0 = .ok (.aload_n 0, 1) := by decide +kernel
theorem dn_String_charAt_1 : decode bn_String_charAt 1 = .ok (.invokevirtual 492, 3) := by decide +kernel
theorem dn_String_charAt_4 : decode bn_String_charAt 4 = .ok (.ifCond .eq 12, 3) := by decide +kernel
theorem dn_String_charAt_7 : decode bn_String_charAt 7 = .ok (.aload_n 0, 1) := by decide +kernel
theorem dn_String_charAt_8 : decode bn_String_charAt 8 = .ok (.getfield 9, 3) := by decide +kernel
theorem dn_String_charAt_11 : decode bn_String_charAt 11 = .ok (.iload_n 1, 1) := by decide +kernel
theorem dn_String_charAt_12 : decode bn_String_charAt 12 = .ok (.invokestatic 495, 3) := by decide +kernel
theorem dn_String_charAt_15 : decode bn_String_charAt 15 = .ok (.ireturn, 1) := by decide +kernel
theorem dn_String_checkIndex_0 : decode bn_String_checkIndex 0 = .ok (.iload_n 0, 1) := by decide +kernel
theorem dn_String_checkIndex_1 : decode bn_String_checkIndex 1 = .ok (.iload_n 1, 1) := by decide +kernel
theorem dn_String_checkIndex_2 : decode bn_String_checkIndex 2 = .ok (.getstatic 1053, 3) := by decide +kernel
theorem dn_String_checkIndex_5 : decode bn_String_checkIndex 5 = .ok (.invokestatic 1059, 3) := by decide +kernel
theorem dn_String_checkIndex_8 : decode bn_String_checkIndex 8 = .ok (.pop, 1) := by decide +kernel
theorem dn_String_checkIndex_9 : decode bn_String_checkIndex 9 = .ok (.return_, 1) := by decide +kernel
theorem dn_String_coder_0 : decode bn_String_coder 0 = .ok (.getstatic 38, 3) := by decide +kernel
theorem dn_String_coder_3 : decode bn_String_coder 3 = .ok (.ifCond .eq 10, 3) := by decide +kernel
theorem dn_String_coder_6 : decode bn_String_coder 6 = .ok (.aload_n 0, 1) := by decide +kernel
theorem dn_String_coder_7 : decode bn_String_coder 7 = .ok (.getfield 15, 3) := by decide +kernel
theorem dn_String_coder_10 : decode bn_String_coder 10 = .ok (.goto 4, 3) := by decide +kernel
theorem dn_String_coder_14 : decode bn_String_coder 14 = .ok (.ireturn, 1) := by decide +kernel
theorem dn_String_indexOf_II_0 : decode bn_String_indexOf_II 0 = .ok (.aload_n 0, 1) := by decide +kernel
theorem dn_String_indexOf_II_1 : decode bn_String_indexOf_II 1 = .ok (.iload_n 1, 1) := by decide +kernel
theorem dn_String_indexOf_II_2 : decode bn_String_indexOf_II 2 = .ok (.iconst 0, 1) := by decide +kernel
theorem dn_String_indexOf_II_3 : decode bn_String_indexOf_II 3 = .ok (.invokevirtual 633, 3) := by decide +kernel
theorem dn_String_indexOf_II_6 : decode bn_String_indexOf_II 6 = .ok (.ireturn, 1) := by decide +kernel
theorem dn_String_indexOf_III_0 : decode bn_String_indexOf_III 0 = .ok (.aload_n 0, 1) := by decide +kernel
theorem dn_String_indexOf_III_1 : decode bn_String_indexOf_III 1 = .ok (.invokevirtual 492, 3) := by decide +kernel
theorem dn_String_indexOf_III_4 : decode bn_String_indexOf_III 4 = .ok (.ifCond .eq 19, 3) := by decide +kernel
theorem dn_String_indexOf_III_7 : decode bn_String_indexOf_III 7 = .ok (.aload_n 0, 1) := by decide +kernel
theorem dn_String_indexOf_III_8 : decode bn_String_indexOf_III 8 = .ok (.getfield 9, 3) := by decide +kernel
theorem dn_String_indexOf_III_11 : decode bn_String_indexOf_III 11 = .ok (.iload_n 1, 1) := by decide +kernel
theorem dn_String_indexOf_III_12 : decode bn_String_indexOf_III 12 = .ok (.iload_n 2, 1) := by decide +kernel
theorem dn_String_indexOf_III_13 : decode bn_String_indexOf_III 13 = .ok (.aload_n 0, 1) := by decide +kernel
theorem dn_String_indexOf_III_14 : decode bn_String_indexOf_III 14 = .ok (.invokevirtual 505, 3) := by decide +kernel
theorem dn_String_indexOf_III_17 : decode bn_String_indexOf_III 17 = .ok (.invokestatic 637, 3) := by decide +kernel
theorem dn_String_indexOf_III_20 : decode bn_String_indexOf_III 20 = .ok (.goto 16, 3) := by decide +kernel
theorem dn_String_indexOf_III_36 : decode bn_String_indexOf_III 36 = .ok (.ireturn, 1) := by decide +kernel
theorem dn_String_isLatin1_0 : decode bn_String_isLatin1 0 = .ok (.getstatic 38, 3) := by decide +kernel
theorem dn_String_isLatin1_3 : decode bn_String_isLatin1 3 = .ok (.ifCond .eq 14, 3) := by decide +kernel
theorem dn_String_isLatin1_6 : decode bn_String_isLatin1 6 = .ok (.aload_n 0, 1) := by decide +kernel
theorem dn_String_isLatin1_7 : decode bn_String_isLatin1 7 = .ok (.getfield 15, 3) := by decide +kernel
theorem dn_String_isLatin1_10 : decode bn_String_isLatin1 10 = .ok (.ifCond .ne 7, 3) := by decide +kernel
theorem dn_String_isLatin1_13 : decode bn_String_isLatin1 13 = .ok (.iconst 1, 1) := by decide +kernel
theorem dn_String_isLatin1_14 : decode bn_String_isLatin1 14 = .ok (.goto 4, 3) := by decide +kernel
theorem dn_String_isLatin1_18 : decode bn_String_isLatin1 18 = .ok (.ireturn, 1) := by decide +kernel
theorem dn_String_length_0 : decode bn_String_length 0 = .ok (.aload_n 0, 1) := by decide +kernel
theorem dn_String_length_1 : decode bn_String_length 1 = .ok (.getfield 9, 3) := by decide +kernel
theorem dn_String_length_4 : decode bn_String_length 4 = .ok (.arraylength, 1) := by decide +kernel
theorem dn_String_length_5 : decode bn_String_length 5 = .ok (.aload_n 0, 1) := by decide +kernel
theorem dn_String_length_6 : decode bn_String_length 6 = .ok (.invokevirtual 335, 3) := by decide +kernel
theorem dn_String_length_9 : decode bn_String_length 9 = .ok (.ishr, 1) := by decide +kernel
theorem dn_String_length_10 : decode bn_String_length 10 = .ok (.ireturn, 1) := by decide +kernel
theorem dc_rec {k : Nat} {A : Nat → Prop} {s : State} {H : Heap} {locs : List Loc} (h : va_O "java/lang/String" k A s s.heap) (hS : va_S A s.heap H locs) : ∃ cellB : Cell, H[k]? = some cellB ∧ cellB.vm.isStatics = false ∧ s.vm.findClass "java/lang/String" = some cellB.cls := by
  obtain ⟨cell, h1, h2, h3, -⟩ := h.kept hS.2.1
  exact ⟨cell, h1, h2, h3⟩
section DCT
variable {p : Program} {l : Launch} {e : Env} {R : Room} {s : State} {m : MethodId} {args : Array Value} {below : List Frame} {meth : Method} {c : Code} {H : Heap} {locs : List Loc} {cells slots : Nat} {Q : State → Prop}
variable {cc : ByteArray} {pc : Nat} {ls : Array Slot} {rest st0 : List Value} {D : va_G} {cl : List vw_C} {A : Nat → Prop} {tys : List (ClassId × FieldType)} {ws : va_W}
theorem dc_runVT {y : MethodName} {b2 : ByteArray} {nL n2 i ar mc ms : Nat} {r2 : Option FieldType} {rm : Room} {own C : String} {b : Addr} {ad : Nat → Nat} {As : List Value} {Qc : Array Value → State → Outcome → State → Prop} (S : CallFix p m c cc nL s args xw_G own) (hK : va_K D cl tys s) (hN : xn_St s) (hT : dc_St A s s.heap) (hG : dc_Str ad A s s.heap) (hS : va_S A s.heap H locs) (hA : ∀ q : Nat, s.heap.size ≤ q → A q)
    (M : Met l y (xw y b2 n2 r2) rm (dc_PS D cl tys (.ref b :: As) H.size ws ad) Qc mc ms (va_A ws H.size)) (hP : va_P D cl ws H) (hD : va_D A ws) (hrec : ∃ cellB : Cell, H[b]? = some cellB ∧ cellB.vm.isStatics = false ∧ s.vm.findClass C = some cellB.cls)
    (h1 : Cond.methodLink own i y ∈ xw_G) (h2 : Cond.instanceMethod y ∈ xw_G) (h3 : Cond.selects C y y ∈ xw_G) (h4 : Cond.initialized C ∈ xw_G) (h5 : Cond.code y b2 n2 r2 ∈ xw_G) (hrc : rm.cells = mc) (hrs : rm.slots = ms)
    (hd : y.cls = C ∧ y.cls ≠ "java/lang/invoke/MethodHandle" ∧ y.cls ≠ "java/lang/invoke/VarHandle" ∧ (parseMethodDescriptor y.desc).map (fun d => d.parameters.length) = some ar) (hR : rm.frames + 1 ≤ R.frames ∧ 8 + (n2 + 11) + rm.locals ≤ R.locals)
    (hn : As.length = ar) (hsize : ls.size = nL) (hst : st0 = As.reverse ++ .ref b :: rest) (hw : (rest.map fun v => v.category).sum ≤ 8) (hdg : decode cc pc = .ok (.invokevirtual i, 3)) (hf : cells + mc ≤ R.cells ∧ slots + ms ≤ R.slots) :
    va_Run p l e R s m args below meth c H locs cells slots mc ms (F0 m pc ls st0) rest (Qc (Value.ref b :: As).toArray) (va_A ws H.size) :=
  va_runV (As := As) (rest := rest) S M (cwV ar S.2.2.2.2 (xw_gV h1 h2 h3 h4 h5) rfl hrc hrs hd hR) ⟨dc_blindS, hrec, fun U hU hW => ⟨rfl, by rw [hU], by rw [hU]; exact hP, va_K.moved hW.alike hK, hD.weaken (fun _ _ _ _ => trivial), xn_moved hW hN, by rw [hU]; exact hT.at hS hW (va_free hD hS hA (List.range ws.length) (dc_all ws)), by rw [hU]; exact hG.at hS hW (va_free hD hS hA (List.range ws.length) (dc_all ws))⟩⟩ rfl hn hsize hst (lv_room hw) hdg hf
end DCT
def fn_String_coder_SG (N : Nat) (s : ms) : Option (Int32 × ms) :=
  some (0, s)
set_option maxHeartbeats 8000000 in
set_option maxRecDepth 100000 in
theorem ct_String_coder_SG (l : Launch) (dC : Nat → ClassId) (dI : Nat → Nat → Nat) (cI cB cJ cZ cQ : ClassId) (N sz : Nat) (a : Nat → Nat) (v : Nat → Value) (ad : Nat → Nat) (s : ms) (y : (Int32 × ms)) (hf : fn_String_coder_SG N s = some y) : Met l yn_String_coder (xw yn_String_coder bn_String_coder 1 (some .byte)) ({ frames := 0, cells := 0, slots := 0, locals := 0 }) (dc_PS (dC, dI) xcl (xt cI cB cJ cZ cQ) [.ref ((ad 3))] sz (wC a v cI cB cJ cZ cQ s) ad) (xk_Qi (dC, dI) xcl (xt cI cB cJ cZ cQ) (fun (r : Int32) (_ : Unit) => r = y.1) (fun u : Unit => (wC a v cI cB cJ cZ cQ y.2)) (va_A (wC a v cI cB cJ cZ cQ s) sz)) 0 0 (va_A (wC a v cI cB cJ cZ cQ s) sz) := by
  refine dc_ofS (ad := ad) (QA := xk_Qi (dC, dI) xcl (xt cI cB cJ cZ cQ) (fun (r : Int32) (_ : Unit) => r = y.1) (fun u : Unit => (wC a v cI cB cJ cZ cQ y.2))) (by decide) (Nat.le_of_ble_eq_true rfl) ?_
  intro p e s0 m below meth c hx hb hml hown hg hr hlocks hin hP hK hN A hA hD hT hG ls hl
  have hown : s0.vm.findClass rn_String = some m.cls := hown
  obtain ⟨H, hH⟩ : ∃ z, z = s0.heap := ⟨_, rfl⟩
  rw [← hH] at hP
  have hS : va_S A s0.heap H [] := by rw [hH]; exact va_S.rf
  suffices kk : ∀ QQ : State → Prop, QQ = MQ below (xk_Qi (dC, dI) xcl (xt cI cB cJ cZ cQ) (fun (r : Int32) (_ : Unit) => r = y.1) (fun u : Unit => (wC a v cI cB cJ cZ cQ y.2)) A) [.ref ((ad 3))].toArray s0 0 0 A → dcC p l e ({ frames := 0, cells := 0, slots := 0, locals := 0 }) s0 m [.ref ((ad 3))].toArray below meth c QQ (dC, dI) A (wC a v cI cB cJ cZ cQ s) 0 1 [(0, .ref ((ad 3)))] [] by
    have k9 := kk _ rfl H [] ls hP hD hS hl
    rw [hH] at k9; exact k9
  clear hP hD hS hl hH H ls
  intro QQ hQQ
  obtain ⟨tw, hZ, hTT⟩ := id hT
  intro H locs ls hP hD hS hl
  unfold fn_String_coder_SG at hf
  refine va_gets hx hb hG.2.2.1 hS hown (hg _ wn_4_1) (fun _ h9 => h9) dn_String_coder_0 ?_
  refine lv_if_eq (tgt := 13) hx hb dn_String_coder_3 (by decide) (fun h9 => absurd h9 (by decide)) (fun _ => ?_)
  refine lv_aload_n hx hb dn_String_coder_6 rfl (lv_at hl 0 rfl) ?_
  refine vk_getf hx hb hG.2.2.2.2.2.2.1 hS hown (hg _ wn_11_64) (fun _ h9 => h9) dn_String_coder_7 ?_
  refine lv_goto (tgt := 14) hx hb dn_String_coder_10 (by decide) ?_
  rw [hQQ, ← Option.some.inj hf]
  exact xk_zret (w1 := fun u : Unit => (wC a v cI cB cJ cZ cQ s)) () hx hb hr rfl hlocks hK hS dn_String_coder_14 hP hD rfl (Nat.le_refl _) (Nat.le_refl _)
def fn_String_isLatin1_SG (N : Nat) (s : ms) : Option (Int32 × ms) :=
  some (1, s)
set_option maxHeartbeats 8000000 in
set_option maxRecDepth 100000 in
theorem ct_String_isLatin1_SG (l : Launch) (dC : Nat → ClassId) (dI : Nat → Nat → Nat) (cI cB cJ cZ cQ : ClassId) (N sz : Nat) (a : Nat → Nat) (v : Nat → Value) (ad : Nat → Nat) (s : ms) (y : (Int32 × ms)) (hf : fn_String_isLatin1_SG N s = some y) : Met l yn_String_isLatin1 (xw yn_String_isLatin1 bn_String_isLatin1 1 (some .boolean)) ({ frames := 0, cells := 0, slots := 0, locals := 0 }) (dc_PS (dC, dI) xcl (xt cI cB cJ cZ cQ) [.ref ((ad 3))] sz (wC a v cI cB cJ cZ cQ s) ad) (xk_Qi (dC, dI) xcl (xt cI cB cJ cZ cQ) (fun (r : Int32) (_ : Unit) => r = y.1) (fun u : Unit => (wC a v cI cB cJ cZ cQ y.2)) (va_A (wC a v cI cB cJ cZ cQ s) sz)) 0 0 (va_A (wC a v cI cB cJ cZ cQ s) sz) := by
  refine dc_ofS (ad := ad) (QA := xk_Qi (dC, dI) xcl (xt cI cB cJ cZ cQ) (fun (r : Int32) (_ : Unit) => r = y.1) (fun u : Unit => (wC a v cI cB cJ cZ cQ y.2))) (by decide) (Nat.le_of_ble_eq_true rfl) ?_
  intro p e s0 m below meth c hx hb hml hown hg hr hlocks hin hP hK hN A hA hD hT hG ls hl
  have hown : s0.vm.findClass rn_String = some m.cls := hown
  obtain ⟨H, hH⟩ : ∃ z, z = s0.heap := ⟨_, rfl⟩
  rw [← hH] at hP
  have hS : va_S A s0.heap H [] := by rw [hH]; exact va_S.rf
  suffices kk : ∀ QQ : State → Prop, QQ = MQ below (xk_Qi (dC, dI) xcl (xt cI cB cJ cZ cQ) (fun (r : Int32) (_ : Unit) => r = y.1) (fun u : Unit => (wC a v cI cB cJ cZ cQ y.2)) A) [.ref ((ad 3))].toArray s0 0 0 A → dcC p l e ({ frames := 0, cells := 0, slots := 0, locals := 0 }) s0 m [.ref ((ad 3))].toArray below meth c QQ (dC, dI) A (wC a v cI cB cJ cZ cQ s) 0 1 [(0, .ref ((ad 3)))] [] by
    have k9 := kk _ rfl H [] ls hP hD hS hl
    rw [hH] at k9; exact k9
  clear hP hD hS hl hH H ls
  intro QQ hQQ
  obtain ⟨tw, hZ, hTT⟩ := id hT
  intro H locs ls hP hD hS hl
  unfold fn_String_isLatin1_SG at hf
  refine va_gets hx hb hG.2.2.1 hS hown (hg _ wn_4_1) (fun _ h9 => h9) dn_String_isLatin1_0 ?_
  refine lv_if_eq (tgt := 17) hx hb dn_String_isLatin1_3 (by decide) (fun h9 => absurd h9 (by decide)) (fun _ => ?_)
  refine lv_aload_n hx hb dn_String_isLatin1_6 rfl (lv_at hl 0 rfl) ?_
  refine vk_getf hx hb hG.2.2.2.2.2.2.1 hS hown (hg _ wn_11_64) (fun _ h9 => h9) dn_String_isLatin1_7 ?_
  refine lv_if_ne (tgt := 17) hx hb dn_String_isLatin1_10 (by decide) (fun h9 => absurd h9 (by decide)) (fun _ => ?_)
  refine lv_iconst (v := 1) hx hb dn_String_isLatin1_13 (by decide) ?_
  refine lv_goto (tgt := 18) hx hb dn_String_isLatin1_14 (by decide) ?_
  rw [hQQ, ← Option.some.inj hf]
  exact xk_zret (w1 := fun u : Unit => (wC a v cI cB cJ cZ cQ s)) () hx hb hr rfl hlocks hK hS dn_String_isLatin1_18 hP hD rfl (Nat.le_refl _) (Nat.le_refl _)
def fn_String_length_SG (N : Nat) (s : ms) : Option (Int32 × ms) :=
  some (((23 : Int32) >>> (0 &&& 31)), s)
set_option maxHeartbeats 8000000 in
set_option maxRecDepth 100000 in
theorem ct_String_length_SG (l : Launch) (dC : Nat → ClassId) (dI : Nat → Nat → Nat) (cI cB cJ cZ cQ : ClassId) (N sz : Nat) (a : Nat → Nat) (v : Nat → Value) (ad : Nat → Nat) (s : ms) (y : (Int32 × ms)) (hf : fn_String_length_SG N s = some y) : Met l yn_String_length (xw yn_String_length bn_String_length 1 (some .int)) ({ frames := 1, cells := 0, slots := 0, locals := 20 }) (dc_PS (dC, dI) xcl (xt cI cB cJ cZ cQ) [.ref ((ad 3))] sz (wC a v cI cB cJ cZ cQ s) ad) (xk_Qi (dC, dI) xcl (xt cI cB cJ cZ cQ) (fun (r : Int32) (_ : Unit) => r = y.1) (fun u : Unit => (wC a v cI cB cJ cZ cQ y.2)) (va_A (wC a v cI cB cJ cZ cQ s) sz)) 0 0 (va_A (wC a v cI cB cJ cZ cQ s) sz) := by
  refine dc_ofS (ad := ad) (QA := xk_Qi (dC, dI) xcl (xt cI cB cJ cZ cQ) (fun (r : Int32) (_ : Unit) => r = y.1) (fun u : Unit => (wC a v cI cB cJ cZ cQ y.2))) (by decide) (Nat.le_of_ble_eq_true rfl) ?_
  intro p e s0 m below meth c hx hb hml hown hg hr hlocks hin hP hK hN A hA hD hT hG ls hl
  have hown : s0.vm.findClass rn_String = some m.cls := hown
  obtain ⟨H, hH⟩ : ∃ z, z = s0.heap := ⟨_, rfl⟩
  rw [← hH] at hP
  have hS : va_S A s0.heap H [] := by rw [hH]; exact va_S.rf
  suffices kk : ∀ QQ : State → Prop, QQ = MQ below (xk_Qi (dC, dI) xcl (xt cI cB cJ cZ cQ) (fun (r : Int32) (_ : Unit) => r = y.1) (fun u : Unit => (wC a v cI cB cJ cZ cQ y.2)) A) [.ref ((ad 3))].toArray s0 0 0 A → dcC p l e ({ frames := 1, cells := 0, slots := 0, locals := 20 }) s0 m [.ref ((ad 3))].toArray below meth c QQ (dC, dI) A (wC a v cI cB cJ cZ cQ s) 0 1 [(0, .ref ((ad 3)))] [] by
    have k9 := kk _ rfl H [] ls hP hD hS hl
    rw [hH] at k9; exact k9
  clear hP hD hS hl hH H ls
  intro QQ hQQ
  intro H locs ls hP hD hS hl
  unfold fn_String_length_SG at hf
  refine lv_aload_n hx hb dn_String_length_0 rfl (lv_at hl 0 rfl) ?_
  refine vk_getf hx hb hG.2.2.2.2.2.2.2.1 hS hown (hg _ wn_11_63) (fun _ h9 => h9) dn_String_length_1 ?_
  refine va_tlen (v := 23) hx hb hG.2.2.2.2.2.2.2.2 hS rfl dn_String_length_4 ?_
  refine lv_aload_n hx hb dn_String_length_5 rfl (lv_at hl 0 rfl) ?_
  refine dc_calli (dc_runVT (C := "java/lang/String") (ar := 0) (As := []) (rest := [.int 23]) ⟨hx, hb, hml, hown, hg⟩ hK hN hT hG hS hA (ct_String_coder_SG l dC dI cI cB cJ cZ cQ N H.size a v ad s (0, s) rfl) hP hD (dc_rec hG.2.2.2.2.2.1 hS) wn_3_237 wn_3_238 wn_3_239 wn_1_21 wn_4_0 rfl rfl (by decide +kernel) ⟨Nat.le_of_ble_eq_true rfl, Nat.le_of_ble_eq_true rfl⟩ rfl hl.1 rfl (Nat.le_of_ble_eq_true rfl) dn_String_length_6 ⟨Nat.le_of_ble_eq_true rfl, Nat.le_of_ble_eq_true rfl⟩) hP hD hS hA (fun r_1 _ H locs hw hP hD hS => ?_)
  have hw : r_1 = 0 := hw
  subst hw
  refine lv_ishr hx hb dn_String_length_9 ?_
  rw [hQQ, ← Option.some.inj hf]
  exact xk_iret (w1 := fun u : Unit => (wC a v cI cB cJ cZ cQ s)) () hx hb hr hlocks hK hS dn_String_length_10 hP hD rfl (Nat.le_refl _) (Nat.le_refl _)
def fn_StringLatin1_canEncode (N : Nat) (v0 : Int32) (s : ms) : Option (Int32 × ms) :=
  if v0 < 0 then (some (0, s)) else (if 255 < v0 then (some (0, s)) else (some (1, s)))
set_option maxHeartbeats 8000000 in
set_option maxRecDepth 100000 in
theorem ct_StringLatin1_canEncode (l : Launch) (dC : Nat → ClassId) (dI : Nat → Nat → Nat) (cI cB cJ cZ cQ : ClassId) (N sz : Nat) (a : Nat → Nat) (v : Nat → Value) (v0 : Int32) (s : ms) (y : (Int32 × ms)) (hf : fn_StringLatin1_canEncode N v0 s = some y) : Met l yn_StringLatin1_canEncode (xw yn_StringLatin1_canEncode bn_StringLatin1_canEncode 1 (some .boolean)) ({ frames := 0, cells := 0, slots := 0, locals := 0 }) (dc_P (dC, dI) xcl (xt cI cB cJ cZ cQ) [.int v0] sz (wC a v cI cB cJ cZ cQ s)) (xk_Qi (dC, dI) xcl (xt cI cB cJ cZ cQ) (fun (r : Int32) (_ : Unit) => r = y.1) (fun u : Unit => (wC a v cI cB cJ cZ cQ y.2)) (va_A (wC a v cI cB cJ cZ cQ s) sz)) 0 0 (va_A (wC a v cI cB cJ cZ cQ s) sz) := by
  refine dc_of (QA := xk_Qi (dC, dI) xcl (xt cI cB cJ cZ cQ) (fun (r : Int32) (_ : Unit) => r = y.1) (fun u : Unit => (wC a v cI cB cJ cZ cQ y.2))) (by decide) (Nat.le_of_ble_eq_true rfl) ?_
  intro p e s0 m below meth c hx hb hml hown hg hr hlocks hin hP hK hN A hA hD hT ls hl
  have hown : s0.vm.findClass rn_StringLatin1 = some m.cls := hown
  obtain ⟨H, hH⟩ : ∃ z, z = s0.heap := ⟨_, rfl⟩
  rw [← hH] at hP
  have hS : va_S A s0.heap H [] := by rw [hH]; exact va_S.rf
  suffices kk : ∀ QQ : State → Prop, QQ = MQ below (xk_Qi (dC, dI) xcl (xt cI cB cJ cZ cQ) (fun (r : Int32) (_ : Unit) => r = y.1) (fun u : Unit => (wC a v cI cB cJ cZ cQ y.2)) A) [.int v0].toArray s0 0 0 A → dcC p l e ({ frames := 0, cells := 0, slots := 0, locals := 0 }) s0 m [.int v0].toArray below meth c QQ (dC, dI) A (wC a v cI cB cJ cZ cQ s) 0 1 [(0, .int v0)] [] by
    have k9 := kk _ rfl H [] ls hP hD hS hl
    rw [hH] at k9; exact k9
  clear hP hD hS hl hH H ls
  intro QQ hQQ
  intro H locs ls hP hD hS hl
  unfold fn_StringLatin1_canEncode at hf
  refine lv_iload_n hx hb dn_StringLatin1_canEncode_0 rfl (lv_at hl 0 rfl) ?_
  refine lv_if_lt (tgt := 15) hx hb dn_StringLatin1_canEncode_1 (by decide) (fun h => ?_) (fun h => ?_)
  · have hf := (if_pos h).symm.trans hf
    refine lv_iconst (v := 0) hx hb dn_StringLatin1_canEncode_15 (by decide) ?_
    rw [hQQ, ← Option.some.inj hf]
    exact xk_zret (w1 := fun u : Unit => (wC a v cI cB cJ cZ cQ s)) () hx hb hr rfl hlocks hK hS dn_StringLatin1_canEncode_16 hP hD rfl (Nat.le_refl _) (Nat.le_refl _)
  · have hf := (if_neg h).symm.trans hf
    refine lv_iload_n hx hb dn_StringLatin1_canEncode_4 rfl (lv_at hl 0 rfl) ?_
    refine lv_sipush (v := 255) hx hb dn_StringLatin1_canEncode_5 (by decide) ?_
    refine lv_icmp_gt (tgt := 15) hx hb dn_StringLatin1_canEncode_8 (by decide) (fun h => ?_) (fun h => ?_)
    · have hf := (if_pos h).symm.trans hf
      refine lv_iconst (v := 0) hx hb dn_StringLatin1_canEncode_15 (by decide) ?_
      rw [hQQ, ← Option.some.inj hf]
      exact xk_zret (w1 := fun u : Unit => (wC a v cI cB cJ cZ cQ s)) () hx hb hr rfl hlocks hK hS dn_StringLatin1_canEncode_16 hP hD rfl (Nat.le_refl _) (Nat.le_refl _)
    · have hf := (if_neg h).symm.trans hf
      refine lv_iconst (v := 1) hx hb dn_StringLatin1_canEncode_11 (by decide) ?_
      refine lv_goto (tgt := 16) hx hb dn_StringLatin1_canEncode_12 (by decide) ?_
      rw [hQQ, ← Option.some.inj hf]
      exact xk_zret (w1 := fun u : Unit => (wC a v cI cB cJ cZ cQ s)) () hx hb hr rfl hlocks hK hS dn_StringLatin1_canEncode_16 hP hD rfl (Nat.le_refl _) (Nat.le_refl _)
def bd_StringLatin1_indexOfChar_SGB_7 (N : Nat) (k_7 : Int32 → Int32 → Int32 → ms → Option (Int32 × ms)) (x3 : Int32) (x4 : Int32) (x5 : Int32) (s : ms) : Option (Int32 × ms) :=
  if x3 ≤ x5 then (some ((-1), s)) else (if (x5 < 0 ∨ 23 ≤ Int32.toNatClampNeg x5) then none else if (dc_sg (Int32.toNatClampNeg x5)) = x4 then (some (x5, s)) else (k_7 x3 x4 ((x5 + 1)) s))
def hd_StringLatin1_indexOfChar_SGB_7 (N : Nat) : Nat → Int32 → Int32 → Int32 → ms → Option (Int32 × ms)
  | 0, _, _, _, _ => none
  | n + 1, x3, x4, x5, s => bd_StringLatin1_indexOfChar_SGB_7 N (hd_StringLatin1_indexOfChar_SGB_7 N n) x3 x4 x5 s
def fn_StringLatin1_indexOfChar_SGB (N : Nat) (v1 : Int32) (v2 : Int32) (v3 : Int32) (s : ms) : Option (Int32 × ms) :=
  hd_StringLatin1_indexOfChar_SGB_7 N N v3 (((Int32.toInt8 v1).toInt32)) v2 s
set_option maxHeartbeats 8000000 in
set_option maxRecDepth 100000 in
theorem ct_StringLatin1_indexOfChar_SGB (l : Launch) (dC : Nat → ClassId) (dI : Nat → Nat → Nat) (cI cB cJ cZ cQ : ClassId) (N sz : Nat) (a : Nat → Nat) (v : Nat → Value) (ad : Nat → Nat) (v1 : Int32) (v2 : Int32) (v3 : Int32) (s : ms) (y : (Int32 × ms)) (hf : fn_StringLatin1_indexOfChar_SGB N v1 v2 v3 s = some y) : Met l yn_StringLatin1_indexOfChar (xw yn_StringLatin1_indexOfChar bn_StringLatin1_indexOfChar 6 (some .int)) ({ frames := 0, cells := 0, slots := 0, locals := 0 }) (dc_PS (dC, dI) xcl (xt cI cB cJ cZ cQ) [.ref ((ad 4)), .int v1, .int v2, .int v3] sz (wC a v cI cB cJ cZ cQ s) ad) (xk_Qi (dC, dI) xcl (xt cI cB cJ cZ cQ) (fun (r : Int32) (_ : Unit) => r = y.1) (fun u : Unit => (wC a v cI cB cJ cZ cQ y.2)) (va_A (wC a v cI cB cJ cZ cQ s) sz)) 0 0 (va_A (wC a v cI cB cJ cZ cQ s) sz) := by
  refine dc_ofS (ad := ad) (QA := xk_Qi (dC, dI) xcl (xt cI cB cJ cZ cQ) (fun (r : Int32) (_ : Unit) => r = y.1) (fun u : Unit => (wC a v cI cB cJ cZ cQ y.2))) (by decide) (Nat.le_of_ble_eq_true rfl) ?_
  intro p e s0 m below meth c hx hb hml hown hg hr hlocks hin hP hK hN A hA hD hT hG ls hl
  have hown : s0.vm.findClass rn_StringLatin1 = some m.cls := hown
  obtain ⟨H, hH⟩ : ∃ z, z = s0.heap := ⟨_, rfl⟩
  rw [← hH] at hP
  have hS : va_S A s0.heap H [] := by rw [hH]; exact va_S.rf
  suffices kk : ∀ QQ : State → Prop, QQ = MQ below (xk_Qi (dC, dI) xcl (xt cI cB cJ cZ cQ) (fun (r : Int32) (_ : Unit) => r = y.1) (fun u : Unit => (wC a v cI cB cJ cZ cQ y.2)) A) [.ref ((ad 4)), .int v1, .int v2, .int v3].toArray s0 0 0 A → dcC p l e ({ frames := 0, cells := 0, slots := 0, locals := 0 }) s0 m [.ref ((ad 4)), .int v1, .int v2, .int v3].toArray below meth c QQ (dC, dI) A (wC a v cI cB cJ cZ cQ s) 0 6 [(0, .ref ((ad 4))), (1, .int v1), (2, .int v2), (3, .int v3)] [] by
    have k9 := kk _ rfl H [] ls hP hD hS hl
    rw [hH] at k9; exact k9
  clear hP hD hS hl hH H ls
  intro QQ hQQ
  have hd_7 : ∀ (n : Nat) (x3 : Int32) (x4 : Int32) (x5 : Int32) (s : ms), hd_StringLatin1_indexOfChar_SGB_7 N n x3 x4 x5 s = some y → dcC p l e ({ frames := 0, cells := 0, slots := 0, locals := 0 }) s0 m [.ref ((ad 4)), .int v1, .int v2, .int v3].toArray below meth c QQ (dC, dI) A (wC a v cI cB cJ cZ cQ s) 7 6 [(0, .ref ((ad 4))), (3, .int x3), (4, .int x4), (5, .int x5)] [] := by
    intro n
    induction n with
    | zero => intro x3 x4 x5 s hf; cases hf
    | succ n ih =>
      intro x3 x4 x5 s hf H locs ls hP hD hS hl
      have hf : bd_StringLatin1_indexOfChar_SGB_7 N (hd_StringLatin1_indexOfChar_SGB_7 N n) x3 x4 x5 s = some y := hf
      have hk_7 := ih
      generalize hd_StringLatin1_indexOfChar_SGB_7 N n = k_7 at hf hk_7
      unfold bd_StringLatin1_indexOfChar_SGB_7 at hf
      refine lv_iload hx hb dn_StringLatin1_indexOfChar_7 (lv_at hl 3 rfl) ?_
      refine lv_iload_n hx hb dn_StringLatin1_indexOfChar_9 rfl (lv_at hl 1 rfl) ?_
      refine lv_icmp_ge (tgt := 31) hx hb dn_StringLatin1_indexOfChar_10 (by decide) (fun h => ?_) (fun h => ?_)
      · have hf := (if_pos h).symm.trans hf
        refine lv_iconst (v := (-1)) hx hb dn_StringLatin1_indexOfChar_31 (by decide) ?_
        rw [hQQ, ← Option.some.inj hf]
        exact xk_iret (w1 := fun u : Unit => (wC a v cI cB cJ cZ cQ s)) () hx hb hr hlocks hK hS dn_StringLatin1_indexOfChar_32 hP hD rfl (Nat.le_refl _) (Nat.le_refl _)
      · have hf := (if_neg h).symm.trans hf
        refine lv_aload_n hx hb dn_StringLatin1_indexOfChar_13 rfl (lv_at hl 0 rfl) ?_
        refine lv_iload hx hb dn_StringLatin1_indexOfChar_14 (lv_at hl 3 rfl) ?_
        obtain ⟨hg_1, hf⟩ := dc_g hf
        refine va_tb hx hb hG.2.2.2.2.2.2.2.2 hS hg_1 rfl dn_StringLatin1_indexOfChar_16 ?_
        refine W.eq (g2 := F0 m 17 _ (.int ((dc_sg (Int32.toNatClampNeg x5))) :: [])) rfl ?_
        refine lv_iload hx hb dn_StringLatin1_indexOfChar_17 (lv_at hl 2 rfl) ?_
        refine lv_icmp_ne (tgt := 25) hx hb dn_StringLatin1_indexOfChar_19 (by decide) (fun h => ?_) (fun h => ?_)
        · have hf := (if_neg h).symm.trans hf
          refine lv_iinc (v := (x5 + 1)) (lv' := [(5, .int ((x5 + 1))), (0, .ref ((ad 4))), (3, .int x3), (4, .int x4)]) hx hb dn_StringLatin1_indexOfChar_25 hl (k := 3) rfl (dc_inc (by decide)) (by decide) rfl (fun ls hl => ?_)
          refine lv_goto (tgt := 7) hx hb dn_StringLatin1_indexOfChar_28 (by decide) ?_
          exact hk_7 x3 x4 ((x5 + 1)) s hf H locs ls hP hD hS (lv_sub hl [1, 2, 3, 0] rfl)
        · have hf := (if_pos h).symm.trans hf
          refine lv_iload hx hb dn_StringLatin1_indexOfChar_22 (lv_at hl 3 rfl) ?_
          rw [hQQ, ← Option.some.inj hf]
          exact xk_iret (w1 := fun u : Unit => (wC a v cI cB cJ cZ cQ s)) () hx hb hr hlocks hK hS dn_StringLatin1_indexOfChar_24 hP hD rfl (Nat.le_refl _) (Nat.le_refl _)
  intro H locs ls hP hD hS hl
  unfold fn_StringLatin1_indexOfChar_SGB at hf
  refine lv_iload_n hx hb dn_StringLatin1_indexOfChar_0 rfl (lv_at hl 1 rfl) ?_
  refine lv_i2b (v := (Int32.toInt8 v1).toInt32) hx hb dn_StringLatin1_indexOfChar_1 rfl ?_
  refine lv_istore (lv' := [(4, .int (((Int32.toInt8 v1).toInt32))), (0, .ref ((ad 4))), (1, .int v1), (2, .int v2), (3, .int v3)]) hx hb dn_StringLatin1_indexOfChar_2 hl (by decide) rfl (fun ls hl => ?_)
  refine lv_iload_n hx hb dn_StringLatin1_indexOfChar_4 rfl (lv_at hl 3 rfl) ?_
  refine lv_istore (lv' := [(5, .int v2), (4, .int (((Int32.toInt8 v1).toInt32))), (0, .ref ((ad 4))), (1, .int v1), (2, .int v2), (3, .int v3)]) hx hb dn_StringLatin1_indexOfChar_5 hl (by decide) rfl (fun ls hl => ?_)
  exact hd_7 N v3 (((Int32.toInt8 v1).toInt32)) v2 s hf H locs ls hP hD hS (lv_sub hl [2, 5, 1, 0] rfl)
def fn_StringLatin1_indexOf_SGB (N : Nat) (v1 : Int32) (v2 : Int32) (v3 : Int32) (s : ms) : Option (Int32 × ms) :=
  (fn_StringLatin1_canEncode N v1 s).bind (fun q_1 => if q_1.1 = 0 then (some ((-1), q_1.2)) else (if (if v2 < 0 then 0 else v2) < (if 23 < v3 then 23 else v3) then ((fn_StringLatin1_indexOfChar_SGB N v1 ((if v2 < 0 then 0 else v2)) ((if 23 < v3 then 23 else v3)) q_1.2).bind (fun q_4 => some (q_4.1, q_4.2))) else (some ((-1), q_1.2))))
set_option maxHeartbeats 8000000 in
set_option maxRecDepth 100000 in
theorem ct_StringLatin1_indexOf_SGB (l : Launch) (dC : Nat → ClassId) (dI : Nat → Nat → Nat) (cI cB cJ cZ cQ : ClassId) (N sz : Nat) (a : Nat → Nat) (v : Nat → Value) (ad : Nat → Nat) (v1 : Int32) (v2 : Int32) (v3 : Int32) (s : ms) (y : (Int32 × ms)) (hf : fn_StringLatin1_indexOf_SGB N v1 v2 v3 s = some y) : Met l yn_StringLatin1_indexOf (xw yn_StringLatin1_indexOf bn_StringLatin1_indexOf 4 (some .int)) ({ frames := 1, cells := 0, slots := 0, locals := 40 }) (dc_PS (dC, dI) xcl (xt cI cB cJ cZ cQ) [.ref ((ad 4)), .int v1, .int v2, .int v3] sz (wC a v cI cB cJ cZ cQ s) ad) (xk_Qi (dC, dI) xcl (xt cI cB cJ cZ cQ) (fun (r : Int32) (_ : Unit) => r = y.1) (fun u : Unit => (wC a v cI cB cJ cZ cQ y.2)) (va_A (wC a v cI cB cJ cZ cQ s) sz)) 0 0 (va_A (wC a v cI cB cJ cZ cQ s) sz) := by
  refine dc_ofS (ad := ad) (QA := xk_Qi (dC, dI) xcl (xt cI cB cJ cZ cQ) (fun (r : Int32) (_ : Unit) => r = y.1) (fun u : Unit => (wC a v cI cB cJ cZ cQ y.2))) (by decide) (Nat.le_of_ble_eq_true rfl) ?_
  intro p e s0 m below meth c hx hb hml hown hg hr hlocks hin hP hK hN A hA hD hT hG ls hl
  have hown : s0.vm.findClass rn_StringLatin1 = some m.cls := hown
  obtain ⟨H, hH⟩ : ∃ z, z = s0.heap := ⟨_, rfl⟩
  rw [← hH] at hP
  have hS : va_S A s0.heap H [] := by rw [hH]; exact va_S.rf
  suffices kk : ∀ QQ : State → Prop, QQ = MQ below (xk_Qi (dC, dI) xcl (xt cI cB cJ cZ cQ) (fun (r : Int32) (_ : Unit) => r = y.1) (fun u : Unit => (wC a v cI cB cJ cZ cQ y.2)) A) [.ref ((ad 4)), .int v1, .int v2, .int v3].toArray s0 0 0 A → dcC p l e ({ frames := 1, cells := 0, slots := 0, locals := 40 }) s0 m [.ref ((ad 4)), .int v1, .int v2, .int v3].toArray below meth c QQ (dC, dI) A (wC a v cI cB cJ cZ cQ s) 0 4 [(0, .ref ((ad 4))), (1, .int v1), (2, .int v2), (3, .int v3)] [] by
    have k9 := kk _ rfl H [] ls hP hD hS hl
    rw [hH] at k9; exact k9
  clear hP hD hS hl hH H ls
  intro QQ hQQ
  intro H locs ls hP hD hS hl
  unfold fn_StringLatin1_indexOf_SGB at hf
  refine lv_iload_n hx hb dn_StringLatin1_indexOf_0 rfl (lv_at hl 1 rfl) ?_
  obtain ⟨q_1, hc_2, hf⟩ := dc_b hf
  refine dc_calli (dc_runS (ar := 1) (As := [.int v1]) (rest := []) ⟨hx, hb, hml, hown, hg⟩ hK hN hT hS hA (ct_StringLatin1_canEncode l dC dI cI cB cJ cZ cQ N H.size a v v1 s q_1 hc_2) hP hD wn_4_95 wn_4_96 wn_1_22 wn_4_97 rfl rfl (by decide +kernel) ⟨Nat.le_of_ble_eq_true rfl, Nat.le_of_ble_eq_true rfl⟩ rfl hl.1 rfl (Nat.le_of_ble_eq_true rfl) dn_StringLatin1_indexOf_1 ⟨Nat.le_of_ble_eq_true rfl, Nat.le_of_ble_eq_true rfl⟩) hP hD hS hA (fun r_3 _ H locs hw hP hD hS => ?_)
  have hw : r_3 = q_1.1 := hw
  subst hw
  refine lv_if_ne (tgt := 9) hx hb dn_StringLatin1_indexOf_4 (by decide) (fun h => ?_) (fun h => ?_)
  · have hf := (if_neg h).symm.trans hf
    refine lv_iload_n hx hb dn_StringLatin1_indexOf_9 rfl (lv_at hl 2 rfl) ?_
    refine lv_iconst (v := 0) hx hb dn_StringLatin1_indexOf_10 (by decide) ?_
    refine va_mmax (x := v2) (y := 0) (rest := []) hx hb (by rw [hml]; exact hl.1.symm) hown (hg _ wn_4_98) (hg _ wn_4_99) (hg _ wn_1_19) (hg _ wn_4_100) (Nat.le_of_ble_eq_true rfl) (Nat.le_of_ble_eq_true rfl) (Nat.zero_le _) (Nat.zero_le _) dn_StringLatin1_indexOf_11 ?_
    refine lv_istore_n (lv' := [(2, .int ((if v2 < 0 then 0 else v2))), (0, .ref ((ad 4))), (1, .int v1), (3, .int v3)]) hx hb dn_StringLatin1_indexOf_14 rfl hl (by decide) rfl (fun ls hl => ?_)
    refine lv_iload_n hx hb dn_StringLatin1_indexOf_15 rfl (lv_at hl 3 rfl) ?_
    refine lv_aload_n hx hb dn_StringLatin1_indexOf_16 rfl (lv_at hl 1 rfl) ?_
    refine va_tlen (v := 23) hx hb hG.2.2.2.2.2.2.2.2 hS rfl dn_StringLatin1_indexOf_17 ?_
    refine va_mmin (x := v3) (y := 23) (rest := []) hx hb (by rw [hml]; exact hl.1.symm) hown (hg _ wn_4_101) (hg _ wn_3_168) (hg _ wn_1_19) (hg _ wn_3_169) (Nat.le_of_ble_eq_true rfl) (Nat.le_of_ble_eq_true rfl) (Nat.zero_le _) (Nat.zero_le _) dn_StringLatin1_indexOf_18 ?_
    refine lv_istore_n (lv' := [(3, .int ((if 23 < v3 then 23 else v3))), (2, .int ((if v2 < 0 then 0 else v2))), (0, .ref ((ad 4))), (1, .int v1)]) hx hb dn_StringLatin1_indexOf_21 rfl hl (by decide) rfl (fun ls hl => ?_)
    refine lv_iload_n hx hb dn_StringLatin1_indexOf_22 rfl (lv_at hl 1 rfl) ?_
    refine lv_iload_n hx hb dn_StringLatin1_indexOf_23 rfl (lv_at hl 0 rfl) ?_
    refine lv_icmp_lt (tgt := 29) hx hb dn_StringLatin1_indexOf_24 (by decide) (fun h => ?_) (fun h => ?_)
    · have hf := (if_pos h).symm.trans hf
      refine lv_aload_n hx hb dn_StringLatin1_indexOf_29 rfl (lv_at hl 2 rfl) ?_
      refine lv_iload_n hx hb dn_StringLatin1_indexOf_30 rfl (lv_at hl 3 rfl) ?_
      refine lv_iload_n hx hb dn_StringLatin1_indexOf_31 rfl (lv_at hl 1 rfl) ?_
      refine lv_iload_n hx hb dn_StringLatin1_indexOf_32 rfl (lv_at hl 0 rfl) ?_
      obtain ⟨q_4, hc_5, hf⟩ := dc_b hf
      refine dc_calli (dc_runSS (ar := 4) (As := [.ref ((ad 4)), .int v1, .int ((if v2 < 0 then 0 else v2)), .int ((if 23 < v3 then 23 else v3))]) (rest := []) ⟨hx, hb, hml, hown, hg⟩ hK hN hT hG hS hA (ct_StringLatin1_indexOfChar_SGB l dC dI cI cB cJ cZ cQ N H.size a v ad v1 ((if v2 < 0 then 0 else v2)) ((if 23 < v3 then 23 else v3)) q_1.2 q_4 hc_5) hP hD wn_4_102 wn_4_103 wn_1_22 wn_4_104 rfl rfl (by decide +kernel) ⟨Nat.le_of_ble_eq_true rfl, Nat.le_of_ble_eq_true rfl⟩ rfl hl.1 rfl (Nat.le_of_ble_eq_true rfl) dn_StringLatin1_indexOf_33 ⟨Nat.le_of_ble_eq_true rfl, Nat.le_of_ble_eq_true rfl⟩) hP hD hS hA (fun r_6 _ H locs hw hP hD hS => ?_)
      have hw : r_6 = q_4.1 := hw
      subst hw
      rw [hQQ, ← Option.some.inj hf]
      exact xk_iret (w1 := fun u : Unit => (wC a v cI cB cJ cZ cQ q_4.2)) () hx hb hr hlocks hK hS dn_StringLatin1_indexOf_36 hP hD rfl (Nat.le_refl _) (Nat.le_refl _)
    · have hf := (if_neg h).symm.trans hf
      refine lv_iconst (v := (-1)) hx hb dn_StringLatin1_indexOf_27 (by decide) ?_
      rw [hQQ, ← Option.some.inj hf]
      exact xk_iret (w1 := fun u : Unit => (wC a v cI cB cJ cZ cQ q_1.2)) () hx hb hr hlocks hK hS dn_StringLatin1_indexOf_28 hP hD rfl (Nat.le_refl _) (Nat.le_refl _)
  · have hf := (if_pos h).symm.trans hf
    refine lv_iconst (v := (-1)) hx hb dn_StringLatin1_indexOf_7 (by decide) ?_
    rw [hQQ, ← Option.some.inj hf]
    exact xk_iret (w1 := fun u : Unit => (wC a v cI cB cJ cZ cQ q_1.2)) () hx hb hr hlocks hK hS dn_StringLatin1_indexOf_8 hP hD rfl (Nat.le_refl _) (Nat.le_refl _)
def fn_String_indexOf_III_SG (N : Nat) (v1 : Int32) (v2 : Int32) (s : ms) : Option (Int32 × ms) :=
  (fn_String_length_SG N s).bind (fun q_2 => (fn_StringLatin1_indexOf_SGB N v1 v2 q_2.1 q_2.2).bind (fun q_5 => some (q_5.1, q_5.2)))
set_option maxHeartbeats 8000000 in
set_option maxRecDepth 100000 in
theorem ct_String_indexOf_III_SG (l : Launch) (dC : Nat → ClassId) (dI : Nat → Nat → Nat) (cI cB cJ cZ cQ : ClassId) (N sz : Nat) (a : Nat → Nat) (v : Nat → Value) (ad : Nat → Nat) (v1 : Int32) (v2 : Int32) (s : ms) (y : (Int32 × ms)) (hf : fn_String_indexOf_III_SG N v1 v2 s = some y) : Met l yn_String_indexOf_III (xw yn_String_indexOf_III bn_String_indexOf_III 3 (some .int)) ({ frames := 2, cells := 0, slots := 0, locals := 63 }) (dc_PS (dC, dI) xcl (xt cI cB cJ cZ cQ) [.ref ((ad 3)), .int v1, .int v2] sz (wC a v cI cB cJ cZ cQ s) ad) (xk_Qi (dC, dI) xcl (xt cI cB cJ cZ cQ) (fun (r : Int32) (_ : Unit) => r = y.1) (fun u : Unit => (wC a v cI cB cJ cZ cQ y.2)) (va_A (wC a v cI cB cJ cZ cQ s) sz)) 0 0 (va_A (wC a v cI cB cJ cZ cQ s) sz) := by
  refine dc_ofS (ad := ad) (QA := xk_Qi (dC, dI) xcl (xt cI cB cJ cZ cQ) (fun (r : Int32) (_ : Unit) => r = y.1) (fun u : Unit => (wC a v cI cB cJ cZ cQ y.2))) (by decide) (Nat.le_of_ble_eq_true rfl) ?_
  intro p e s0 m below meth c hx hb hml hown hg hr hlocks hin hP hK hN A hA hD hT hG ls hl
  have hown : s0.vm.findClass rn_String = some m.cls := hown
  obtain ⟨H, hH⟩ : ∃ z, z = s0.heap := ⟨_, rfl⟩
  rw [← hH] at hP
  have hS : va_S A s0.heap H [] := by rw [hH]; exact va_S.rf
  suffices kk : ∀ QQ : State → Prop, QQ = MQ below (xk_Qi (dC, dI) xcl (xt cI cB cJ cZ cQ) (fun (r : Int32) (_ : Unit) => r = y.1) (fun u : Unit => (wC a v cI cB cJ cZ cQ y.2)) A) [.ref ((ad 3)), .int v1, .int v2].toArray s0 0 0 A → dcC p l e ({ frames := 2, cells := 0, slots := 0, locals := 63 }) s0 m [.ref ((ad 3)), .int v1, .int v2].toArray below meth c QQ (dC, dI) A (wC a v cI cB cJ cZ cQ s) 0 3 [(0, .ref ((ad 3))), (1, .int v1), (2, .int v2)] [] by
    have k9 := kk _ rfl H [] ls hP hD hS hl
    rw [hH] at k9; exact k9
  clear hP hD hS hl hH H ls
  intro QQ hQQ
  intro H locs ls hP hD hS hl
  unfold fn_String_indexOf_III_SG at hf
  refine lv_aload_n hx hb dn_String_indexOf_III_0 rfl (lv_at hl 0 rfl) ?_
  refine dc_calli (dc_runVT (C := "java/lang/String") (ar := 0) (As := []) (rest := []) ⟨hx, hb, hml, hown, hg⟩ hK hN hT hG hS hA (ct_String_isLatin1_SG l dC dI cI cB cJ cZ cQ N H.size a v ad s (1, s) rfl) hP hD (dc_rec hG.2.2.2.2.2.1 hS) wn_4_7 wn_4_8 wn_4_9 wn_1_21 wn_4_10 rfl rfl (by decide +kernel) ⟨Nat.le_of_ble_eq_true rfl, Nat.le_of_ble_eq_true rfl⟩ rfl hl.1 rfl (Nat.le_of_ble_eq_true rfl) dn_String_indexOf_III_1 ⟨Nat.le_of_ble_eq_true rfl, Nat.le_of_ble_eq_true rfl⟩) hP hD hS hA (fun r_1 _ H locs hw hP hD hS => ?_)
  have hw : r_1 = 1 := hw
  subst hw
  refine lv_if_eq (tgt := 23) hx hb dn_String_indexOf_III_4 (by decide) (fun h9 => absurd h9 (by decide)) (fun _ => ?_)
  refine lv_aload_n hx hb dn_String_indexOf_III_7 rfl (lv_at hl 0 rfl) ?_
  refine vk_getf hx hb hG.2.2.2.2.2.2.2.1 hS hown (hg _ wn_11_63) (fun _ h9 => h9) dn_String_indexOf_III_8 ?_
  refine lv_iload_n hx hb dn_String_indexOf_III_11 rfl (lv_at hl 1 rfl) ?_
  refine lv_iload_n hx hb dn_String_indexOf_III_12 rfl (lv_at hl 2 rfl) ?_
  refine lv_aload_n hx hb dn_String_indexOf_III_13 rfl (lv_at hl 0 rfl) ?_
  obtain ⟨q_2, hc_3, hf⟩ := dc_b hf
  refine dc_calli (dc_runVT (C := "java/lang/String") (ar := 0) (As := []) (rest := [.int v2, .int v1, .ref ((ad 4))]) ⟨hx, hb, hml, hown, hg⟩ hK hN hT hG hS hA (ct_String_length_SG l dC dI cI cB cJ cZ cQ N H.size a v ad s q_2 hc_3) hP hD (dc_rec hG.2.2.2.2.2.1 hS) wn_4_91 wn_3_234 wn_3_235 wn_1_21 wn_3_236 rfl rfl (by decide +kernel) ⟨Nat.le_of_ble_eq_true rfl, Nat.le_of_ble_eq_true rfl⟩ rfl hl.1 rfl (Nat.le_of_ble_eq_true rfl) dn_String_indexOf_III_14 ⟨Nat.le_of_ble_eq_true rfl, Nat.le_of_ble_eq_true rfl⟩) hP hD hS hA (fun r_4 _ H locs hw hP hD hS => ?_)
  have hw : r_4 = q_2.1 := hw
  subst hw
  obtain ⟨q_5, hc_6, hf⟩ := dc_b hf
  refine dc_calli (dc_runSS (ar := 4) (As := [.ref ((ad 4)), .int v1, .int v2, .int q_2.1]) (rest := []) ⟨hx, hb, hml, hown, hg⟩ hK hN hT hG hS hA (ct_StringLatin1_indexOf_SGB l dC dI cI cB cJ cZ cQ N H.size a v ad v1 v2 q_2.1 q_2.2 q_5 hc_6) hP hD wn_4_92 wn_4_93 wn_1_22 wn_4_94 rfl rfl (by decide +kernel) ⟨Nat.le_of_ble_eq_true rfl, Nat.le_of_ble_eq_true rfl⟩ rfl hl.1 rfl (Nat.le_of_ble_eq_true rfl) dn_String_indexOf_III_17 ⟨Nat.le_of_ble_eq_true rfl, Nat.le_of_ble_eq_true rfl⟩) hP hD hS hA (fun r_7 _ H locs hw hP hD hS => ?_)
  have hw : r_7 = q_5.1 := hw
  subst hw
  refine lv_goto (tgt := 36) hx hb dn_String_indexOf_III_20 (by decide) ?_
  rw [hQQ, ← Option.some.inj hf]
  exact xk_iret (w1 := fun u : Unit => (wC a v cI cB cJ cZ cQ q_5.2)) () hx hb hr hlocks hK hS dn_String_indexOf_III_36 hP hD rfl (Nat.le_refl _) (Nat.le_refl _)
def fn_String_indexOf_II_SG (N : Nat) (v1 : Int32) (s : ms) : Option (Int32 × ms) :=
  (fn_String_indexOf_III_SG N v1 0 s).bind (fun q_1 => some (q_1.1, q_1.2))
set_option maxHeartbeats 8000000 in
set_option maxRecDepth 100000 in
theorem ct_String_indexOf_II_SG (l : Launch) (dC : Nat → ClassId) (dI : Nat → Nat → Nat) (cI cB cJ cZ cQ : ClassId) (N sz : Nat) (a : Nat → Nat) (v : Nat → Value) (ad : Nat → Nat) (v1 : Int32) (s : ms) (y : (Int32 × ms)) (hf : fn_String_indexOf_II_SG N v1 s = some y) : Met l yn_String_indexOf_II (xw yn_String_indexOf_II bn_String_indexOf_II 2 (some .int)) ({ frames := 3, cells := 0, slots := 0, locals := 85 }) (dc_PS (dC, dI) xcl (xt cI cB cJ cZ cQ) [.ref ((ad 3)), .int v1] sz (wC a v cI cB cJ cZ cQ s) ad) (xk_Qi (dC, dI) xcl (xt cI cB cJ cZ cQ) (fun (r : Int32) (_ : Unit) => r = y.1) (fun u : Unit => (wC a v cI cB cJ cZ cQ y.2)) (va_A (wC a v cI cB cJ cZ cQ s) sz)) 0 0 (va_A (wC a v cI cB cJ cZ cQ s) sz) := by
  refine dc_ofS (ad := ad) (QA := xk_Qi (dC, dI) xcl (xt cI cB cJ cZ cQ) (fun (r : Int32) (_ : Unit) => r = y.1) (fun u : Unit => (wC a v cI cB cJ cZ cQ y.2))) (by decide) (Nat.le_of_ble_eq_true rfl) ?_
  intro p e s0 m below meth c hx hb hml hown hg hr hlocks hin hP hK hN A hA hD hT hG ls hl
  have hown : s0.vm.findClass rn_String = some m.cls := hown
  obtain ⟨H, hH⟩ : ∃ z, z = s0.heap := ⟨_, rfl⟩
  rw [← hH] at hP
  have hS : va_S A s0.heap H [] := by rw [hH]; exact va_S.rf
  suffices kk : ∀ QQ : State → Prop, QQ = MQ below (xk_Qi (dC, dI) xcl (xt cI cB cJ cZ cQ) (fun (r : Int32) (_ : Unit) => r = y.1) (fun u : Unit => (wC a v cI cB cJ cZ cQ y.2)) A) [.ref ((ad 3)), .int v1].toArray s0 0 0 A → dcC p l e ({ frames := 3, cells := 0, slots := 0, locals := 85 }) s0 m [.ref ((ad 3)), .int v1].toArray below meth c QQ (dC, dI) A (wC a v cI cB cJ cZ cQ s) 0 2 [(0, .ref ((ad 3))), (1, .int v1)] [] by
    have k9 := kk _ rfl H [] ls hP hD hS hl
    rw [hH] at k9; exact k9
  clear hP hD hS hl hH H ls
  intro QQ hQQ
  intro H locs ls hP hD hS hl
  unfold fn_String_indexOf_II_SG at hf
  refine lv_aload_n hx hb dn_String_indexOf_II_0 rfl (lv_at hl 0 rfl) ?_
  refine lv_iload_n hx hb dn_String_indexOf_II_1 rfl (lv_at hl 1 rfl) ?_
  refine lv_iconst (v := 0) hx hb dn_String_indexOf_II_2 (by decide) ?_
  obtain ⟨q_1, hc_2, hf⟩ := dc_b hf
  refine dc_calli (dc_runVT (C := "java/lang/String") (ar := 2) (As := [.int v1, .int 0]) (rest := []) ⟨hx, hb, hml, hown, hg⟩ hK hN hT hG hS hA (ct_String_indexOf_III_SG l dC dI cI cB cJ cZ cQ N H.size a v ad v1 0 s q_1 hc_2) hP hD (dc_rec hG.2.2.2.2.2.1 hS) wn_4_87 wn_4_88 wn_4_89 wn_1_21 wn_4_90 rfl rfl (by decide +kernel) ⟨Nat.le_of_ble_eq_true rfl, Nat.le_of_ble_eq_true rfl⟩ rfl hl.1 rfl (Nat.le_of_ble_eq_true rfl) dn_String_indexOf_II_3 ⟨Nat.le_of_ble_eq_true rfl, Nat.le_of_ble_eq_true rfl⟩) hP hD hS hA (fun r_3 _ H locs hw hP hD hS => ?_)
  have hw : r_3 = q_1.1 := hw
  subst hw
  rw [hQQ, ← Option.some.inj hf]
  exact xk_iret (w1 := fun u : Unit => (wC a v cI cB cJ cZ cQ q_1.2)) () hx hb hr hlocks hK hS dn_String_indexOf_II_6 hP hD rfl (Nat.le_refl _) (Nat.le_refl _)
def fn_String_coder_KW (N : Nat) (s : ms) : Option (Int32 × ms) :=
  some (0, s)
set_option maxHeartbeats 8000000 in
set_option maxRecDepth 100000 in
theorem ct_String_coder_KW (l : Launch) (dC : Nat → ClassId) (dI : Nat → Nat → Nat) (cI cB cJ cZ cQ : ClassId) (N sz : Nat) (a : Nat → Nat) (v : Nat → Value) (ad : Nat → Nat) (s : ms) (y : (Int32 × ms)) (hf : fn_String_coder_KW N s = some y) : Met l yn_String_coder (xw yn_String_coder bn_String_coder 1 (some .byte)) ({ frames := 0, cells := 0, slots := 0, locals := 0 }) (dc_PS (dC, dI) xcl (xt cI cB cJ cZ cQ) [.ref ((ad 1))] sz (wC a v cI cB cJ cZ cQ s) ad) (xk_Qi (dC, dI) xcl (xt cI cB cJ cZ cQ) (fun (r : Int32) (_ : Unit) => r = y.1) (fun u : Unit => (wC a v cI cB cJ cZ cQ y.2)) (va_A (wC a v cI cB cJ cZ cQ s) sz)) 0 0 (va_A (wC a v cI cB cJ cZ cQ s) sz) := by
  refine dc_ofS (ad := ad) (QA := xk_Qi (dC, dI) xcl (xt cI cB cJ cZ cQ) (fun (r : Int32) (_ : Unit) => r = y.1) (fun u : Unit => (wC a v cI cB cJ cZ cQ y.2))) (by decide) (Nat.le_of_ble_eq_true rfl) ?_
  intro p e s0 m below meth c hx hb hml hown hg hr hlocks hin hP hK hN A hA hD hT hG ls hl
  have hown : s0.vm.findClass rn_String = some m.cls := hown
  obtain ⟨H, hH⟩ : ∃ z, z = s0.heap := ⟨_, rfl⟩
  rw [← hH] at hP
  have hS : va_S A s0.heap H [] := by rw [hH]; exact va_S.rf
  suffices kk : ∀ QQ : State → Prop, QQ = MQ below (xk_Qi (dC, dI) xcl (xt cI cB cJ cZ cQ) (fun (r : Int32) (_ : Unit) => r = y.1) (fun u : Unit => (wC a v cI cB cJ cZ cQ y.2)) A) [.ref ((ad 1))].toArray s0 0 0 A → dcC p l e ({ frames := 0, cells := 0, slots := 0, locals := 0 }) s0 m [.ref ((ad 1))].toArray below meth c QQ (dC, dI) A (wC a v cI cB cJ cZ cQ s) 0 1 [(0, .ref ((ad 1)))] [] by
    have k9 := kk _ rfl H [] ls hP hD hS hl
    rw [hH] at k9; exact k9
  clear hP hD hS hl hH H ls
  intro QQ hQQ
  obtain ⟨tw, hZ, hTT⟩ := id hT
  intro H locs ls hP hD hS hl
  unfold fn_String_coder_KW at hf
  refine va_gets hx hb hG.2.2.1 hS hown (hg _ wn_4_1) (fun _ h9 => h9) dn_String_coder_0 ?_
  refine lv_if_eq (tgt := 13) hx hb dn_String_coder_3 (by decide) (fun h9 => absurd h9 (by decide)) (fun _ => ?_)
  refine lv_aload_n hx hb dn_String_coder_6 rfl (lv_at hl 0 rfl) ?_
  refine vk_getf hx hb hG.2.2.2.2.1.2.1 hS hown (hg _ wn_11_64) (fun _ h9 => h9) dn_String_coder_7 ?_
  refine lv_goto (tgt := 14) hx hb dn_String_coder_10 (by decide) ?_
  rw [hQQ, ← Option.some.inj hf]
  exact xk_zret (w1 := fun u : Unit => (wC a v cI cB cJ cZ cQ s)) () hx hb hr rfl hlocks hK hS dn_String_coder_14 hP hD rfl (Nat.le_refl _) (Nat.le_refl _)
def fn_String_length_KW (N : Nat) (s : ms) : Option (Int32 × ms) :=
  some (((113 : Int32) >>> (0 &&& 31)), s)
set_option maxHeartbeats 8000000 in
set_option maxRecDepth 100000 in
theorem ct_String_length_KW (l : Launch) (dC : Nat → ClassId) (dI : Nat → Nat → Nat) (cI cB cJ cZ cQ : ClassId) (N sz : Nat) (a : Nat → Nat) (v : Nat → Value) (ad : Nat → Nat) (s : ms) (y : (Int32 × ms)) (hf : fn_String_length_KW N s = some y) : Met l yn_String_length (xw yn_String_length bn_String_length 1 (some .int)) ({ frames := 1, cells := 0, slots := 0, locals := 20 }) (dc_PS (dC, dI) xcl (xt cI cB cJ cZ cQ) [.ref ((ad 1))] sz (wC a v cI cB cJ cZ cQ s) ad) (xk_Qi (dC, dI) xcl (xt cI cB cJ cZ cQ) (fun (r : Int32) (_ : Unit) => r = y.1) (fun u : Unit => (wC a v cI cB cJ cZ cQ y.2)) (va_A (wC a v cI cB cJ cZ cQ s) sz)) 0 0 (va_A (wC a v cI cB cJ cZ cQ s) sz) := by
  refine dc_ofS (ad := ad) (QA := xk_Qi (dC, dI) xcl (xt cI cB cJ cZ cQ) (fun (r : Int32) (_ : Unit) => r = y.1) (fun u : Unit => (wC a v cI cB cJ cZ cQ y.2))) (by decide) (Nat.le_of_ble_eq_true rfl) ?_
  intro p e s0 m below meth c hx hb hml hown hg hr hlocks hin hP hK hN A hA hD hT hG ls hl
  have hown : s0.vm.findClass rn_String = some m.cls := hown
  obtain ⟨H, hH⟩ : ∃ z, z = s0.heap := ⟨_, rfl⟩
  rw [← hH] at hP
  have hS : va_S A s0.heap H [] := by rw [hH]; exact va_S.rf
  suffices kk : ∀ QQ : State → Prop, QQ = MQ below (xk_Qi (dC, dI) xcl (xt cI cB cJ cZ cQ) (fun (r : Int32) (_ : Unit) => r = y.1) (fun u : Unit => (wC a v cI cB cJ cZ cQ y.2)) A) [.ref ((ad 1))].toArray s0 0 0 A → dcC p l e ({ frames := 1, cells := 0, slots := 0, locals := 20 }) s0 m [.ref ((ad 1))].toArray below meth c QQ (dC, dI) A (wC a v cI cB cJ cZ cQ s) 0 1 [(0, .ref ((ad 1)))] [] by
    have k9 := kk _ rfl H [] ls hP hD hS hl
    rw [hH] at k9; exact k9
  clear hP hD hS hl hH H ls
  intro QQ hQQ
  intro H locs ls hP hD hS hl
  unfold fn_String_length_KW at hf
  refine lv_aload_n hx hb dn_String_length_0 rfl (lv_at hl 0 rfl) ?_
  refine vk_getf hx hb hG.2.2.2.2.1.2.2.1 hS hown (hg _ wn_11_63) (fun _ h9 => h9) dn_String_length_1 ?_
  refine va_tlen (v := 113) hx hb hG.2.2.2.2.1.2.2.2 hS rfl dn_String_length_4 ?_
  refine lv_aload_n hx hb dn_String_length_5 rfl (lv_at hl 0 rfl) ?_
  refine dc_calli (dc_runVT (C := "java/lang/String") (ar := 0) (As := []) (rest := [.int 113]) ⟨hx, hb, hml, hown, hg⟩ hK hN hT hG hS hA (ct_String_coder_KW l dC dI cI cB cJ cZ cQ N H.size a v ad s (0, s) rfl) hP hD (dc_rec hG.2.2.2.2.1.1 hS) wn_3_237 wn_3_238 wn_3_239 wn_1_21 wn_4_0 rfl rfl (by decide +kernel) ⟨Nat.le_of_ble_eq_true rfl, Nat.le_of_ble_eq_true rfl⟩ rfl hl.1 rfl (Nat.le_of_ble_eq_true rfl) dn_String_length_6 ⟨Nat.le_of_ble_eq_true rfl, Nat.le_of_ble_eq_true rfl⟩) hP hD hS hA (fun r_1 _ H locs hw hP hD hS => ?_)
  have hw : r_1 = 0 := hw
  subst hw
  refine lv_ishr hx hb dn_String_length_9 ?_
  rw [hQQ, ← Option.some.inj hf]
  exact xk_iret (w1 := fun u : Unit => (wC a v cI cB cJ cZ cQ s)) () hx hb hr hlocks hK hS dn_String_length_10 hP hD rfl (Nat.le_refl _) (Nat.le_refl _)
def fn_String_isLatin1_KW (N : Nat) (s : ms) : Option (Int32 × ms) :=
  some (1, s)
set_option maxHeartbeats 8000000 in
set_option maxRecDepth 100000 in
theorem ct_String_isLatin1_KW (l : Launch) (dC : Nat → ClassId) (dI : Nat → Nat → Nat) (cI cB cJ cZ cQ : ClassId) (N sz : Nat) (a : Nat → Nat) (v : Nat → Value) (ad : Nat → Nat) (s : ms) (y : (Int32 × ms)) (hf : fn_String_isLatin1_KW N s = some y) : Met l yn_String_isLatin1 (xw yn_String_isLatin1 bn_String_isLatin1 1 (some .boolean)) ({ frames := 0, cells := 0, slots := 0, locals := 0 }) (dc_PS (dC, dI) xcl (xt cI cB cJ cZ cQ) [.ref ((ad 1))] sz (wC a v cI cB cJ cZ cQ s) ad) (xk_Qi (dC, dI) xcl (xt cI cB cJ cZ cQ) (fun (r : Int32) (_ : Unit) => r = y.1) (fun u : Unit => (wC a v cI cB cJ cZ cQ y.2)) (va_A (wC a v cI cB cJ cZ cQ s) sz)) 0 0 (va_A (wC a v cI cB cJ cZ cQ s) sz) := by
  refine dc_ofS (ad := ad) (QA := xk_Qi (dC, dI) xcl (xt cI cB cJ cZ cQ) (fun (r : Int32) (_ : Unit) => r = y.1) (fun u : Unit => (wC a v cI cB cJ cZ cQ y.2))) (by decide) (Nat.le_of_ble_eq_true rfl) ?_
  intro p e s0 m below meth c hx hb hml hown hg hr hlocks hin hP hK hN A hA hD hT hG ls hl
  have hown : s0.vm.findClass rn_String = some m.cls := hown
  obtain ⟨H, hH⟩ : ∃ z, z = s0.heap := ⟨_, rfl⟩
  rw [← hH] at hP
  have hS : va_S A s0.heap H [] := by rw [hH]; exact va_S.rf
  suffices kk : ∀ QQ : State → Prop, QQ = MQ below (xk_Qi (dC, dI) xcl (xt cI cB cJ cZ cQ) (fun (r : Int32) (_ : Unit) => r = y.1) (fun u : Unit => (wC a v cI cB cJ cZ cQ y.2)) A) [.ref ((ad 1))].toArray s0 0 0 A → dcC p l e ({ frames := 0, cells := 0, slots := 0, locals := 0 }) s0 m [.ref ((ad 1))].toArray below meth c QQ (dC, dI) A (wC a v cI cB cJ cZ cQ s) 0 1 [(0, .ref ((ad 1)))] [] by
    have k9 := kk _ rfl H [] ls hP hD hS hl
    rw [hH] at k9; exact k9
  clear hP hD hS hl hH H ls
  intro QQ hQQ
  obtain ⟨tw, hZ, hTT⟩ := id hT
  intro H locs ls hP hD hS hl
  unfold fn_String_isLatin1_KW at hf
  refine va_gets hx hb hG.2.2.1 hS hown (hg _ wn_4_1) (fun _ h9 => h9) dn_String_isLatin1_0 ?_
  refine lv_if_eq (tgt := 17) hx hb dn_String_isLatin1_3 (by decide) (fun h9 => absurd h9 (by decide)) (fun _ => ?_)
  refine lv_aload_n hx hb dn_String_isLatin1_6 rfl (lv_at hl 0 rfl) ?_
  refine vk_getf hx hb hG.2.2.2.2.1.2.1 hS hown (hg _ wn_11_64) (fun _ h9 => h9) dn_String_isLatin1_7 ?_
  refine lv_if_ne (tgt := 17) hx hb dn_String_isLatin1_10 (by decide) (fun h9 => absurd h9 (by decide)) (fun _ => ?_)
  refine lv_iconst (v := 1) hx hb dn_String_isLatin1_13 (by decide) ?_
  refine lv_goto (tgt := 18) hx hb dn_String_isLatin1_14 (by decide) ?_
  rw [hQQ, ← Option.some.inj hf]
  exact xk_zret (w1 := fun u : Unit => (wC a v cI cB cJ cZ cQ s)) () hx hb hr rfl hlocks hK hS dn_String_isLatin1_18 hP hD rfl (Nat.le_refl _) (Nat.le_refl _)
def bk_Preconditions_checkIndex_NUL_9 (N : Nat) (x0 : Int32) (x1 : Int32) (s : ms) : Option (Int32 × ms) :=
  none
def fn_Preconditions_checkIndex_NUL (N : Nat) (v0 : Int32) (v1 : Int32) (s : ms) : Option (Int32 × ms) :=
  if v0 < 0 then (bk_Preconditions_checkIndex_NUL_9 N v0 v1 s) else (if v0 < v1 then (some (v0, s)) else (bk_Preconditions_checkIndex_NUL_9 N v0 v1 s))
set_option maxHeartbeats 8000000 in
set_option maxRecDepth 100000 in
theorem ct_Preconditions_checkIndex_NUL (l : Launch) (dC : Nat → ClassId) (dI : Nat → Nat → Nat) (cI cB cJ cZ cQ : ClassId) (N sz : Nat) (a : Nat → Nat) (v : Nat → Value) (ad : Nat → Nat) (v0 : Int32) (v1 : Int32) (s : ms) (y : (Int32 × ms)) (hf : fn_Preconditions_checkIndex_NUL N v0 v1 s = some y) : Met l yn_Preconditions_checkIndex (xw yn_Preconditions_checkIndex bn_Preconditions_checkIndex 3 (some .int)) ({ frames := 0, cells := 0, slots := 0, locals := 0 }) (dc_PS (dC, dI) xcl (xt cI cB cJ cZ cQ) [.int v0, .int v1, .null] sz (wC a v cI cB cJ cZ cQ s) ad) (xk_Qi (dC, dI) xcl (xt cI cB cJ cZ cQ) (fun (r : Int32) (_ : Unit) => r = y.1) (fun u : Unit => (wC a v cI cB cJ cZ cQ y.2)) (va_A (wC a v cI cB cJ cZ cQ s) sz)) 0 0 (va_A (wC a v cI cB cJ cZ cQ s) sz) := by
  refine dc_ofS (ad := ad) (QA := xk_Qi (dC, dI) xcl (xt cI cB cJ cZ cQ) (fun (r : Int32) (_ : Unit) => r = y.1) (fun u : Unit => (wC a v cI cB cJ cZ cQ y.2))) (by decide) (Nat.le_of_ble_eq_true rfl) ?_
  intro p e s0 m below meth c hx hb hml hown hg hr hlocks hin hP hK hN A hA hD hT hG ls hl
  have hown : s0.vm.findClass rn_Preconditions = some m.cls := hown
  obtain ⟨H, hH⟩ : ∃ z, z = s0.heap := ⟨_, rfl⟩
  rw [← hH] at hP
  have hS : va_S A s0.heap H [] := by rw [hH]; exact va_S.rf
  suffices kk : ∀ QQ : State → Prop, QQ = MQ below (xk_Qi (dC, dI) xcl (xt cI cB cJ cZ cQ) (fun (r : Int32) (_ : Unit) => r = y.1) (fun u : Unit => (wC a v cI cB cJ cZ cQ y.2)) A) [.int v0, .int v1, .null].toArray s0 0 0 A → dcC p l e ({ frames := 0, cells := 0, slots := 0, locals := 0 }) s0 m [.int v0, .int v1, .null].toArray below meth c QQ (dC, dI) A (wC a v cI cB cJ cZ cQ s) 0 3 [(0, .int v0), (1, .int v1), (2, .null)] [] by
    have k9 := kk _ rfl H [] ls hP hD hS hl
    rw [hH] at k9; exact k9
  clear hP hD hS hl hH H ls
  intro QQ hQQ
  have bl_9 : ∀ (x0 : Int32) (x1 : Int32) (s : ms), bk_Preconditions_checkIndex_NUL_9 N x0 x1 s = some y → dcC p l e ({ frames := 0, cells := 0, slots := 0, locals := 0 }) s0 m [.int v0, .int v1, .null].toArray below meth c QQ (dC, dI) A (wC a v cI cB cJ cZ cQ s) 9 3 [(0, .int x0), (1, .int x1), (2, .null)] [] := by
    intro x0 x1 s hf H locs ls hP hD hS hl
    unfold bk_Preconditions_checkIndex_NUL_9 at hf
    refine lv_aload_nN hx hb dn_Preconditions_checkIndex_9 rfl (lv_at hl 2 rfl) ?_
    refine lv_iload_n hx hb dn_Preconditions_checkIndex_10 rfl (lv_at hl 0 rfl) ?_
    refine lv_iload_n hx hb dn_Preconditions_checkIndex_11 rfl (lv_at hl 1 rfl) ?_
    cases hf
  intro H locs ls hP hD hS hl
  unfold fn_Preconditions_checkIndex_NUL at hf
  refine lv_iload_n hx hb dn_Preconditions_checkIndex_0 rfl (lv_at hl 0 rfl) ?_
  refine lv_if_lt (tgt := 9) hx hb dn_Preconditions_checkIndex_1 (by decide) (fun h => ?_) (fun h => ?_)
  · have hf := (if_pos h).symm.trans hf
    exact bl_9 v0 v1 s hf H locs ls hP hD hS hl
  · have hf := (if_neg h).symm.trans hf
    refine lv_iload_n hx hb dn_Preconditions_checkIndex_4 rfl (lv_at hl 0 rfl) ?_
    refine lv_iload_n hx hb dn_Preconditions_checkIndex_5 rfl (lv_at hl 1 rfl) ?_
    refine lv_icmp_lt (tgt := 16) hx hb dn_Preconditions_checkIndex_6 (by decide) (fun h => ?_) (fun h => ?_)
    · have hf := (if_pos h).symm.trans hf
      refine lv_iload_n hx hb dn_Preconditions_checkIndex_16 rfl (lv_at hl 0 rfl) ?_
      rw [hQQ, ← Option.some.inj hf]
      exact xk_iret (w1 := fun u : Unit => (wC a v cI cB cJ cZ cQ s)) () hx hb hr hlocks hK hS dn_Preconditions_checkIndex_17 hP hD rfl (Nat.le_refl _) (Nat.le_refl _)
    · have hf := (if_neg h).symm.trans hf
      exact bl_9 v0 v1 s hf H locs ls hP hD hS hl

set_option maxHeartbeats 8000000 in
set_option maxRecDepth 100000 in
theorem ct_Preconditions_checkIndex_ANY (l : Launch) (dC : Nat → ClassId) (dI : Nat → Nat → Nat) (cI cB cJ cZ cQ : ClassId) (N sz : Nat) (a : Nat → Nat) (v : Nat → Value) (ad : Nat → Nat) (tz : Nat) (v0 : Int32) (v1 : Int32) (s : ms) (y : (Int32 × ms)) (hf : fn_Preconditions_checkIndex_NUL N v0 v1 s = some y) : Met l yn_Preconditions_checkIndex (xw yn_Preconditions_checkIndex bn_Preconditions_checkIndex 3 (some .int)) ({ frames := 0, cells := 0, slots := 0, locals := 0 }) (dc_PS (dC, dI) xcl (xt cI cB cJ cZ cQ) [.int v0, .int v1, .ref tz] sz (wC a v cI cB cJ cZ cQ s) ad) (xk_Qi (dC, dI) xcl (xt cI cB cJ cZ cQ) (fun (r : Int32) (_ : Unit) => r = y.1) (fun u : Unit => (wC a v cI cB cJ cZ cQ y.2)) (va_A (wC a v cI cB cJ cZ cQ s) sz)) 0 0 (va_A (wC a v cI cB cJ cZ cQ s) sz) := by
  refine dc_ofS (ad := ad) (QA := xk_Qi (dC, dI) xcl (xt cI cB cJ cZ cQ) (fun (r : Int32) (_ : Unit) => r = y.1) (fun u : Unit => (wC a v cI cB cJ cZ cQ y.2))) (by decide) (Nat.le_of_ble_eq_true rfl) ?_
  intro p e s0 m below meth c hx hb hml hown hg hr hlocks hin hP hK hN A hA hD hT hG ls hl
  have hown : s0.vm.findClass rn_Preconditions = some m.cls := hown
  obtain ⟨H, hH⟩ : ∃ z, z = s0.heap := ⟨_, rfl⟩
  rw [← hH] at hP
  have hS : va_S A s0.heap H [] := by rw [hH]; exact va_S.rf
  suffices kk : ∀ QQ : State → Prop, QQ = MQ below (xk_Qi (dC, dI) xcl (xt cI cB cJ cZ cQ) (fun (r : Int32) (_ : Unit) => r = y.1) (fun u : Unit => (wC a v cI cB cJ cZ cQ y.2)) A) [.int v0, .int v1, .ref tz].toArray s0 0 0 A → dcC p l e ({ frames := 0, cells := 0, slots := 0, locals := 0 }) s0 m [.int v0, .int v1, .ref tz].toArray below meth c QQ (dC, dI) A (wC a v cI cB cJ cZ cQ s) 0 3 [(0, .int v0), (1, .int v1), (2, .ref tz)] [] by
    have k9 := kk _ rfl H [] ls hP hD hS hl
    rw [hH] at k9; exact k9
  clear hP hD hS hl hH H ls
  intro QQ hQQ
  have bl_9 : ∀ (x0 : Int32) (x1 : Int32) (s : ms), bk_Preconditions_checkIndex_NUL_9 N x0 x1 s = some y → dcC p l e ({ frames := 0, cells := 0, slots := 0, locals := 0 }) s0 m [.int v0, .int v1, .ref tz].toArray below meth c QQ (dC, dI) A (wC a v cI cB cJ cZ cQ s) 9 3 [(0, .int x0), (1, .int x1), (2, .ref tz)] [] := by
    intro x0 x1 s hf H locs ls hP hD hS hl
    unfold bk_Preconditions_checkIndex_NUL_9 at hf
    refine lv_aload_n hx hb dn_Preconditions_checkIndex_9 rfl (lv_at hl 2 rfl) ?_
    refine lv_iload_n hx hb dn_Preconditions_checkIndex_10 rfl (lv_at hl 0 rfl) ?_
    refine lv_iload_n hx hb dn_Preconditions_checkIndex_11 rfl (lv_at hl 1 rfl) ?_
    cases hf
  intro H locs ls hP hD hS hl
  unfold fn_Preconditions_checkIndex_NUL at hf
  refine lv_iload_n hx hb dn_Preconditions_checkIndex_0 rfl (lv_at hl 0 rfl) ?_
  refine lv_if_lt (tgt := 9) hx hb dn_Preconditions_checkIndex_1 (by decide) (fun h => ?_) (fun h => ?_)
  · have hf := (if_pos h).symm.trans hf
    exact bl_9 v0 v1 s hf H locs ls hP hD hS hl
  · have hf := (if_neg h).symm.trans hf
    refine lv_iload_n hx hb dn_Preconditions_checkIndex_4 rfl (lv_at hl 0 rfl) ?_
    refine lv_iload_n hx hb dn_Preconditions_checkIndex_5 rfl (lv_at hl 1 rfl) ?_
    refine lv_icmp_lt (tgt := 16) hx hb dn_Preconditions_checkIndex_6 (by decide) (fun h => ?_) (fun h => ?_)
    · have hf := (if_pos h).symm.trans hf
      refine lv_iload_n hx hb dn_Preconditions_checkIndex_16 rfl (lv_at hl 0 rfl) ?_
      rw [hQQ, ← Option.some.inj hf]
      exact xk_iret (w1 := fun u : Unit => (wC a v cI cB cJ cZ cQ s)) () hx hb hr hlocks hK hS dn_Preconditions_checkIndex_17 hP hD rfl (Nat.le_refl _) (Nat.le_refl _)
    · have hf := (if_neg h).symm.trans hf
      exact bl_9 v0 v1 s hf H locs ls hP hD hS hl
def fn_String_checkIndex (N : Nat) (v0 : Int32) (v1 : Int32) (s : ms) : Option (Unit × ms) :=
  (fn_Preconditions_checkIndex_NUL N v0 v1 s).bind (fun q_1 => some ((), q_1.2))
set_option maxHeartbeats 8000000 in
set_option maxRecDepth 100000 in
theorem ct_String_checkIndex (l : Launch) (dC : Nat → ClassId) (dI : Nat → Nat → Nat) (cI cB cJ cZ cQ : ClassId) (N sz : Nat) (a : Nat → Nat) (v : Nat → Value) (ad : Nat → Nat) (v0 : Int32) (v1 : Int32) (s : ms) (y : (Unit × ms)) (hf : fn_String_checkIndex N v0 v1 s = some y) : Met l yn_String_checkIndex (xw yn_String_checkIndex bn_String_checkIndex 2 none) ({ frames := 1, cells := 0, slots := 0, locals := 22 }) (dc_PS (dC, dI) xcl (xt cI cB cJ cZ cQ) [.int v0, .int v1] sz (wC a v cI cB cJ cZ cQ s) ad) (xk_Qv (dC, dI) xcl (xt cI cB cJ cZ cQ) (fun _ : Unit => True) (fun u : Unit => (wC a v cI cB cJ cZ cQ y.2)) (va_A (wC a v cI cB cJ cZ cQ s) sz)) 0 0 (va_A (wC a v cI cB cJ cZ cQ s) sz) := by
  refine dc_ofS (ad := ad) (QA := xk_Qv (dC, dI) xcl (xt cI cB cJ cZ cQ) (fun _ : Unit => True) (fun u : Unit => (wC a v cI cB cJ cZ cQ y.2))) (by decide) (Nat.le_of_ble_eq_true rfl) ?_
  intro p e s0 m below meth c hx hb hml hown hg hr hlocks hin hP hK hN A hA hD hT hG ls hl
  have hown : s0.vm.findClass rn_String = some m.cls := hown
  obtain ⟨H, hH⟩ : ∃ z, z = s0.heap := ⟨_, rfl⟩
  rw [← hH] at hP
  have hS : va_S A s0.heap H [] := by rw [hH]; exact va_S.rf
  suffices kk : ∀ QQ : State → Prop, QQ = MQ below (xk_Qv (dC, dI) xcl (xt cI cB cJ cZ cQ) (fun _ : Unit => True) (fun u : Unit => (wC a v cI cB cJ cZ cQ y.2)) A) [.int v0, .int v1].toArray s0 0 0 A → dcC p l e ({ frames := 1, cells := 0, slots := 0, locals := 22 }) s0 m [.int v0, .int v1].toArray below meth c QQ (dC, dI) A (wC a v cI cB cJ cZ cQ s) 0 2 [(0, .int v0), (1, .int v1)] [] by
    have k9 := kk _ rfl H [] ls hP hD hS hl
    rw [hH] at k9; exact k9
  clear hP hD hS hl hH H ls
  intro QQ hQQ
  obtain ⟨tw, hZ, hTT⟩ := id hT
  intro H locs ls hP hD hS hl
  unfold fn_String_checkIndex at hf
  refine lv_iload_n hx hb dn_String_checkIndex_0 rfl (lv_at hl 0 rfl) ?_
  refine lv_iload_n hx hb dn_String_checkIndex_1 rfl (lv_at hl 1 rfl) ?_
  rcases hG.2.2.2.1 with hz | ⟨tz, hz⟩
  · refine va_gets hx hb hz hS hown (hg _ wn_4_17) (fun _ h9 => h9) dn_String_checkIndex_2 ?_
    obtain ⟨q_1, hc_2, hf⟩ := dc_b hf
    refine dc_calli (dc_runSS (ar := 3) (As := [.int v0, .int v1, .null]) (rest := []) ⟨hx, hb, hml, hown, hg⟩ hK hN hT hG hS hA (ct_Preconditions_checkIndex_NUL l dC dI cI cB cJ cZ cQ N H.size a v ad v0 v1 s q_1 hc_2) hP hD wn_4_19 wn_4_20 wn_1_23 wn_4_21 rfl rfl (by decide +kernel) ⟨Nat.le_of_ble_eq_true rfl, Nat.le_of_ble_eq_true rfl⟩ rfl hl.1 rfl (Nat.le_of_ble_eq_true rfl) dn_String_checkIndex_5 ⟨Nat.le_of_ble_eq_true rfl, Nat.le_of_ble_eq_true rfl⟩) hP hD hS hA (fun r_3 _ H locs hw hP hD hS => ?_)
    have hw : r_3 = q_1.1 := hw
    subst hw
    refine lv_pop hx hb dn_String_checkIndex_8 rfl ?_
    rw [hQQ, ← Option.some.inj hf]
    exact xk_vret (w1 := fun u : Unit => (wC a v cI cB cJ cZ cQ q_1.2)) () hx hb hr hlocks hK hS dn_String_checkIndex_9 hP hD trivial (Nat.le_refl _) (Nat.le_refl _)
  · refine va_gets hx hb hz hS hown (hg _ wn_4_17) (fun _ h9 => h9) dn_String_checkIndex_2 ?_
    obtain ⟨q_1, hc_2, hf⟩ := dc_b hf
    refine dc_calli (dc_runSS (ar := 3) (As := [.int v0, .int v1, .ref tz]) (rest := []) ⟨hx, hb, hml, hown, hg⟩ hK hN hT hG hS hA (ct_Preconditions_checkIndex_ANY l dC dI cI cB cJ cZ cQ N H.size a v ad tz v0 v1 s q_1 hc_2) hP hD wn_4_19 wn_4_20 wn_1_23 wn_4_21 rfl rfl (by decide +kernel) ⟨Nat.le_of_ble_eq_true rfl, Nat.le_of_ble_eq_true rfl⟩ rfl hl.1 rfl (Nat.le_of_ble_eq_true rfl) dn_String_checkIndex_5 ⟨Nat.le_of_ble_eq_true rfl, Nat.le_of_ble_eq_true rfl⟩) hP hD hS hA (fun r_3 _ H locs hw hP hD hS => ?_)
    have hw : r_3 = q_1.1 := hw
    subst hw
    refine lv_pop hx hb dn_String_checkIndex_8 rfl ?_
    rw [hQQ, ← Option.some.inj hf]
    exact xk_vret (w1 := fun u : Unit => (wC a v cI cB cJ cZ cQ q_1.2)) () hx hb hr hlocks hK hS dn_String_checkIndex_9 hP hD trivial (Nat.le_refl _) (Nat.le_refl _)
def fn_StringLatin1_charAt_KWB (N : Nat) (v1 : Int32) (s : ms) : Option (Int32 × ms) :=
  (fn_String_checkIndex N v1 113 s).bind (fun q_1 => if (v1 < 0 ∨ 113 ≤ Int32.toNatClampNeg v1) then none else if ¬ (narrow .char (.int (((Int32.toUInt32 (((dc_kw (Int32.toNatClampNeg v1)) &&& 255)) % 65536).toInt32))) = .int (((Int32.toUInt32 (((dc_kw (Int32.toNatClampNeg v1)) &&& 255)) % 65536).toInt32))) then none else some (((Int32.toUInt32 (((dc_kw (Int32.toNatClampNeg v1)) &&& 255)) % 65536).toInt32), q_1.2))
set_option maxHeartbeats 8000000 in
set_option maxRecDepth 100000 in
theorem ct_StringLatin1_charAt_KWB (l : Launch) (dC : Nat → ClassId) (dI : Nat → Nat → Nat) (cI cB cJ cZ cQ : ClassId) (N sz : Nat) (a : Nat → Nat) (v : Nat → Value) (ad : Nat → Nat) (v1 : Int32) (s : ms) (y : (Int32 × ms)) (hf : fn_StringLatin1_charAt_KWB N v1 s = some y) : Met l yn_StringLatin1_charAt (xw yn_StringLatin1_charAt bn_StringLatin1_charAt 2 (some .char)) ({ frames := 2, cells := 0, slots := 0, locals := 43 }) (dc_PS (dC, dI) xcl (xt cI cB cJ cZ cQ) [.ref ((ad 2)), .int v1] sz (wC a v cI cB cJ cZ cQ s) ad) (xk_Qi (dC, dI) xcl (xt cI cB cJ cZ cQ) (fun (r : Int32) (_ : Unit) => r = y.1) (fun u : Unit => (wC a v cI cB cJ cZ cQ y.2)) (va_A (wC a v cI cB cJ cZ cQ s) sz)) 0 0 (va_A (wC a v cI cB cJ cZ cQ s) sz) := by
  refine dc_ofS (ad := ad) (QA := xk_Qi (dC, dI) xcl (xt cI cB cJ cZ cQ) (fun (r : Int32) (_ : Unit) => r = y.1) (fun u : Unit => (wC a v cI cB cJ cZ cQ y.2))) (by decide) (Nat.le_of_ble_eq_true rfl) ?_
  intro p e s0 m below meth c hx hb hml hown hg hr hlocks hin hP hK hN A hA hD hT hG ls hl
  have hown : s0.vm.findClass rn_StringLatin1 = some m.cls := hown
  obtain ⟨H, hH⟩ : ∃ z, z = s0.heap := ⟨_, rfl⟩
  rw [← hH] at hP
  have hS : va_S A s0.heap H [] := by rw [hH]; exact va_S.rf
  suffices kk : ∀ QQ : State → Prop, QQ = MQ below (xk_Qi (dC, dI) xcl (xt cI cB cJ cZ cQ) (fun (r : Int32) (_ : Unit) => r = y.1) (fun u : Unit => (wC a v cI cB cJ cZ cQ y.2)) A) [.ref ((ad 2)), .int v1].toArray s0 0 0 A → dcC p l e ({ frames := 2, cells := 0, slots := 0, locals := 43 }) s0 m [.ref ((ad 2)), .int v1].toArray below meth c QQ (dC, dI) A (wC a v cI cB cJ cZ cQ s) 0 2 [(0, .ref ((ad 2))), (1, .int v1)] [] by
    have k9 := kk _ rfl H [] ls hP hD hS hl
    rw [hH] at k9; exact k9
  clear hP hD hS hl hH H ls
  intro QQ hQQ
  intro H locs ls hP hD hS hl
  unfold fn_StringLatin1_charAt_KWB at hf
  refine lv_iload_n hx hb dn_StringLatin1_charAt_0 rfl (lv_at hl 1 rfl) ?_
  refine lv_aload_n hx hb dn_StringLatin1_charAt_1 rfl (lv_at hl 0 rfl) ?_
  refine va_tlen (v := 113) hx hb hG.2.2.2.2.1.2.2.2 hS rfl dn_StringLatin1_charAt_2 ?_
  obtain ⟨q_1, hc_2, hf⟩ := dc_b hf
  refine dc_callv (dc_runSS (ar := 2) (As := [.int v1, .int 113]) (rest := []) ⟨hx, hb, hml, hown, hg⟩ hK hN hT hG hS hA (ct_String_checkIndex l dC dI cI cB cJ cZ cQ N H.size a v ad v1 113 s q_1 hc_2) hP hD wn_4_14 wn_4_15 wn_1_21 wn_4_16 rfl rfl (by decide +kernel) ⟨Nat.le_of_ble_eq_true rfl, Nat.le_of_ble_eq_true rfl⟩ rfl hl.1 rfl (Nat.le_of_ble_eq_true rfl) dn_StringLatin1_charAt_3 ⟨Nat.le_of_ble_eq_true rfl, Nat.le_of_ble_eq_true rfl⟩) hP hD hS hA (fun _ H locs hw hP hD hS => ?_)
  refine lv_aload_n hx hb dn_StringLatin1_charAt_6 rfl (lv_at hl 0 rfl) ?_
  refine lv_iload_n hx hb dn_StringLatin1_charAt_7 rfl (lv_at hl 1 rfl) ?_
  obtain ⟨hg_3, hf⟩ := dc_g hf
  refine va_tb hx hb hG.2.2.2.2.1.2.2.2 hS hg_3 rfl dn_StringLatin1_charAt_8 ?_
  refine W.eq (g2 := F0 m 9 _ (.int ((dc_kw (Int32.toNatClampNeg v1))) :: [])) rfl ?_
  refine lv_sipush (v := 255) hx hb dn_StringLatin1_charAt_9 (by decide) ?_
  refine lv_iand hx hb dn_StringLatin1_charAt_12 ?_
  refine lv_i2c (v := (Int32.toUInt32 (((dc_kw (Int32.toNatClampNeg v1)) &&& 255)) % 65536).toInt32) hx hb dn_StringLatin1_charAt_13 rfl ?_
  obtain ⟨hg_4, hf⟩ := dc_g hf
  rw [hQQ, ← Option.some.inj hf]
  exact xk_zret (w1 := fun u : Unit => (wC a v cI cB cJ cZ cQ q_1.2)) () hx hb hr (Decidable.not_not.mp hg_4) hlocks hK hS dn_StringLatin1_charAt_14 hP hD rfl (Nat.le_refl _) (Nat.le_refl _)
def fn_String_charAt_KW (N : Nat) (v1 : Int32) (s : ms) : Option (Int32 × ms) :=
  (fn_StringLatin1_charAt_KWB N v1 s).bind (fun q_2 => if ¬ (narrow .char (.int q_2.1) = .int q_2.1) then none else some (q_2.1, q_2.2))
set_option maxHeartbeats 8000000 in
set_option maxRecDepth 100000 in
theorem ct_String_charAt_KW (l : Launch) (dC : Nat → ClassId) (dI : Nat → Nat → Nat) (cI cB cJ cZ cQ : ClassId) (N sz : Nat) (a : Nat → Nat) (v : Nat → Value) (ad : Nat → Nat) (v1 : Int32) (s : ms) (y : (Int32 × ms)) (hf : fn_String_charAt_KW N v1 s = some y) : Met l yn_String_charAt (xw yn_String_charAt bn_String_charAt 2 (some .char)) ({ frames := 3, cells := 0, slots := 0, locals := 64 }) (dc_PS (dC, dI) xcl (xt cI cB cJ cZ cQ) [.ref ((ad 1)), .int v1] sz (wC a v cI cB cJ cZ cQ s) ad) (xk_Qi (dC, dI) xcl (xt cI cB cJ cZ cQ) (fun (r : Int32) (_ : Unit) => r = y.1) (fun u : Unit => (wC a v cI cB cJ cZ cQ y.2)) (va_A (wC a v cI cB cJ cZ cQ s) sz)) 0 0 (va_A (wC a v cI cB cJ cZ cQ s) sz) := by
  refine dc_ofS (ad := ad) (QA := xk_Qi (dC, dI) xcl (xt cI cB cJ cZ cQ) (fun (r : Int32) (_ : Unit) => r = y.1) (fun u : Unit => (wC a v cI cB cJ cZ cQ y.2))) (by decide) (Nat.le_of_ble_eq_true rfl) ?_
  intro p e s0 m below meth c hx hb hml hown hg hr hlocks hin hP hK hN A hA hD hT hG ls hl
  have hown : s0.vm.findClass rn_String = some m.cls := hown
  obtain ⟨H, hH⟩ : ∃ z, z = s0.heap := ⟨_, rfl⟩
  rw [← hH] at hP
  have hS : va_S A s0.heap H [] := by rw [hH]; exact va_S.rf
  suffices kk : ∀ QQ : State → Prop, QQ = MQ below (xk_Qi (dC, dI) xcl (xt cI cB cJ cZ cQ) (fun (r : Int32) (_ : Unit) => r = y.1) (fun u : Unit => (wC a v cI cB cJ cZ cQ y.2)) A) [.ref ((ad 1)), .int v1].toArray s0 0 0 A → dcC p l e ({ frames := 3, cells := 0, slots := 0, locals := 64 }) s0 m [.ref ((ad 1)), .int v1].toArray below meth c QQ (dC, dI) A (wC a v cI cB cJ cZ cQ s) 0 2 [(0, .ref ((ad 1))), (1, .int v1)] [] by
    have k9 := kk _ rfl H [] ls hP hD hS hl
    rw [hH] at k9; exact k9
  clear hP hD hS hl hH H ls
  intro QQ hQQ
  intro H locs ls hP hD hS hl
  unfold fn_String_charAt_KW at hf
  refine lv_aload_n hx hb dn_String_charAt_0 rfl (lv_at hl 0 rfl) ?_
  refine dc_calli (dc_runVT (C := "java/lang/String") (ar := 0) (As := []) (rest := []) ⟨hx, hb, hml, hown, hg⟩ hK hN hT hG hS hA (ct_String_isLatin1_KW l dC dI cI cB cJ cZ cQ N H.size a v ad s (1, s) rfl) hP hD (dc_rec hG.2.2.2.2.1.1 hS) wn_4_7 wn_4_8 wn_4_9 wn_1_21 wn_4_10 rfl rfl (by decide +kernel) ⟨Nat.le_of_ble_eq_true rfl, Nat.le_of_ble_eq_true rfl⟩ rfl hl.1 rfl (Nat.le_of_ble_eq_true rfl) dn_String_charAt_1 ⟨Nat.le_of_ble_eq_true rfl, Nat.le_of_ble_eq_true rfl⟩) hP hD hS hA (fun r_1 _ H locs hw hP hD hS => ?_)
  have hw : r_1 = 1 := hw
  subst hw
  refine lv_if_eq (tgt := 16) hx hb dn_String_charAt_4 (by decide) (fun h9 => absurd h9 (by decide)) (fun _ => ?_)
  refine lv_aload_n hx hb dn_String_charAt_7 rfl (lv_at hl 0 rfl) ?_
  refine vk_getf hx hb hG.2.2.2.2.1.2.2.1 hS hown (hg _ wn_11_63) (fun _ h9 => h9) dn_String_charAt_8 ?_
  refine lv_iload_n hx hb dn_String_charAt_11 rfl (lv_at hl 1 rfl) ?_
  obtain ⟨q_2, hc_3, hf⟩ := dc_b hf
  refine dc_calli (dc_runSS (ar := 2) (As := [.ref ((ad 2)), .int v1]) (rest := []) ⟨hx, hb, hml, hown, hg⟩ hK hN hT hG hS hA (ct_StringLatin1_charAt_KWB l dC dI cI cB cJ cZ cQ N H.size a v ad v1 s q_2 hc_3) hP hD wn_4_11 wn_4_12 wn_1_22 wn_4_13 rfl rfl (by decide +kernel) ⟨Nat.le_of_ble_eq_true rfl, Nat.le_of_ble_eq_true rfl⟩ rfl hl.1 rfl (Nat.le_of_ble_eq_true rfl) dn_String_charAt_12 ⟨Nat.le_of_ble_eq_true rfl, Nat.le_of_ble_eq_true rfl⟩) hP hD hS hA (fun r_4 _ H locs hw hP hD hS => ?_)
  have hw : r_4 = q_2.1 := hw
  subst hw
  obtain ⟨hg_5, hf⟩ := dc_g hf
  rw [hQQ, ← Option.some.inj hf]
  exact xk_zret (w1 := fun u : Unit => (wC a v cI cB cJ cZ cQ q_2.2)) () hx hb hr (Decidable.not_not.mp hg_5) hlocks hK hS dn_String_charAt_15 hP hD rfl (Nat.le_refl _) (Nat.le_refl _)
