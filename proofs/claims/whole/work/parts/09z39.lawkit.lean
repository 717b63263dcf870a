theorem wn_1_0 : (Jvm.Cond.initialized "CircuitCyclesLaw") ∈ xw_G := xw_c1 (List.mem_of_getElem? (i := 0) rfl) rfl
theorem wn_1_31 : (Jvm.Cond.instantiable "CircuitCycles" (11 : Nat)) ∈ xw_G := xw_c1 (List.mem_of_getElem? (i := 31) rfl) rfl
theorem wn_1_39 : (Jvm.Cond.instantiable "CircuitCycles$Tokens" (9 : Nat)) ∈ xw_G := xw_c1 (List.mem_of_getElem? (i := 39) rfl) rfl
theorem wn_1_84 : (Jvm.Cond.instantiable "CircuitCycles$Scanner" (9 : Nat)) ∈ xw_G := xw_c1 (List.mem_of_getElem? (i := 84) rfl) rfl
theorem wn_1_118 : (Jvm.Cond.arrayClass Jvm.ClassFile.FieldType.byte) ∈ xw_G := xw_c1 (List.mem_of_getElem? (i := 118) rfl) rfl
theorem wn_1_121 : (Jvm.Cond.instantiable "CircuitCycles$Checker" (15 : Nat)) ∈ xw_G := xw_c1 (List.mem_of_getElem? (i := 121) rfl) rfl
theorem wn_1_177 : (Jvm.Cond.instantiable "CircuitCycles$Grammar" (15 : Nat)) ∈ xw_G := xw_c1 (List.mem_of_getElem? (i := 177) rfl) rfl
theorem wn_1_179 : (Jvm.Cond.instantiable "CircuitCycles$Meaning" (17 : Nat)) ∈ xw_G := xw_c1 (List.mem_of_getElem? (i := 179) rfl) rfl
theorem wn_2_47 : (Jvm.Cond.instantiable "CircuitCycles$Order" (10 : Nat)) ∈ xw_G := xw_c2 (List.mem_of_getElem? (i := 47) rfl) rfl
theorem wn_2_84 : (Jvm.Cond.instantiable "CircuitCycles$Machine" (5 : Nat)) ∈ xw_G := xw_c2 (List.mem_of_getElem? (i := 84) rfl) rfl
theorem wn_2_106 : (Jvm.Cond.instantiable "CircuitCycles$Circuit" (14 : Nat)) ∈ xw_G := xw_c2 (List.mem_of_getElem? (i := 106) rfl) rfl
theorem wn_2_112 : (Jvm.Cond.instantiable "CircuitCycles$Design" (16 : Nat)) ∈ xw_G := xw_c2 (List.mem_of_getElem? (i := 112) rfl) rfl
theorem wn_2_118 : (Jvm.Cond.instantiable "CircuitCycles$Parts" (15 : Nat)) ∈ xw_G := xw_c2 (List.mem_of_getElem? (i := 118) rfl) rfl
theorem wn_2_204 : (Jvm.Cond.instantiable "CircuitCycles$Code" (5 : Nat)) ∈ xw_G := xw_c2 (List.mem_of_getElem? (i := 204) rfl) rfl
theorem wn_3_159 : (Jvm.Cond.methodLink "CircuitCyclesLaw" (71 : Nat) ({ cls := "CircuitCycles", name := "read", desc := "()I" } : Jvm.MethodName)) ∈ xw_G := xw_c3 (List.mem_of_getElem? (i := 159) rfl) rfl
theorem wn_3_160 : (Jvm.Cond.instanceMethod ({ cls := "CircuitCycles", name := "read", desc := "()I" } : Jvm.MethodName)) ∈ xw_G := xw_c3 (List.mem_of_getElem? (i := 160) rfl) rfl
theorem wn_3_161 : (Jvm.Cond.selects "CircuitCycles" ({ cls := "CircuitCycles", name := "read", desc := "()I" } : Jvm.MethodName) ({ cls := "CircuitCycles", name := "read", desc := "()I" } : Jvm.MethodName)) ∈ xw_G := xw_c3 (List.mem_of_getElem? (i := 161) rfl) rfl
theorem wn_3_162 : (Jvm.Cond.code ({ cls := "CircuitCycles", name := "read", desc := "()I" } : Jvm.MethodName) prog_1_method_4_code (4 : Nat) (Option.some Jvm.ClassFile.FieldType.int)) ∈ xw_G := xw_c3 (List.mem_of_getElem? (i := 162) rfl) rfl
theorem wn_7_16 : (Jvm.Cond.methodLink "CircuitCyclesLaw" (75 : Nat) ({ cls := "CircuitCycles", name := "fault", desc := "()I" } : Jvm.MethodName)) ∈ xw_G := xw_c7 (List.mem_of_getElem? (i := 16) rfl) rfl
theorem wn_7_17 : (Jvm.Cond.instanceMethod ({ cls := "CircuitCycles", name := "fault", desc := "()I" } : Jvm.MethodName)) ∈ xw_G := xw_c7 (List.mem_of_getElem? (i := 17) rfl) rfl
theorem wn_7_18 : (Jvm.Cond.selects "CircuitCycles" ({ cls := "CircuitCycles", name := "fault", desc := "()I" } : Jvm.MethodName) ({ cls := "CircuitCycles", name := "fault", desc := "()I" } : Jvm.MethodName)) ∈ xw_G := xw_c7 (List.mem_of_getElem? (i := 18) rfl) rfl
theorem wn_7_19 : (Jvm.Cond.code ({ cls := "CircuitCycles", name := "fault", desc := "()I" } : Jvm.MethodName) prog_1_method_5_code (1 : Nat) (Option.some Jvm.ClassFile.FieldType.int)) ∈ xw_G := xw_c7 (List.mem_of_getElem? (i := 19) rfl) rfl
theorem wn_7_20 : (Jvm.Cond.methodLink "CircuitCyclesLaw" (58 : Nat) ({ cls := "CircuitCyclesLaw", name := "feed", desc := "(LCircuitCycles;IIIII[J)I" } : Jvm.MethodName)) ∈ xw_G := xw_c7 (List.mem_of_getElem? (i := 20) rfl) rfl
theorem wn_7_21 : (Jvm.Cond.static ({ cls := "CircuitCyclesLaw", name := "feed", desc := "(LCircuitCycles;IIIII[J)I" } : Jvm.MethodName)) ∈ xw_G := xw_c7 (List.mem_of_getElem? (i := 21) rfl) rfl
theorem wn_7_22 : (Jvm.Cond.codeWith ({ cls := "CircuitCyclesLaw", name := "feed", desc := "(LCircuitCycles;IIIII[J)I" } : Jvm.MethodName) method_3_code (8 : Nat) (Option.some Jvm.ClassFile.FieldType.int) [((0 : Nat), (16 : Nat), (19 : Nat), (13 : Nat))]) ∈ xw_G := xw_c7 (List.mem_of_getElem? (i := 22) rfl) rfl
theorem wn_7_97 : (Jvm.Cond.methodLink "CircuitCyclesLaw" (67 : Nat) ({ cls := "CircuitCyclesLaw", name := "end", desc := "(LCircuitCycles;I)I" } : Jvm.MethodName)) ∈ xw_G := xw_c7 (List.mem_of_getElem? (i := 97) rfl) rfl
theorem wn_7_98 : (Jvm.Cond.static ({ cls := "CircuitCyclesLaw", name := "end", desc := "(LCircuitCycles;I)I" } : Jvm.MethodName)) ∈ xw_G := xw_c7 (List.mem_of_getElem? (i := 98) rfl) rfl
theorem wn_7_99 : (Jvm.Cond.codeWith ({ cls := "CircuitCyclesLaw", name := "end", desc := "(LCircuitCycles;I)I" } : Jvm.MethodName) method_4_code (3 : Nat) (Option.some Jvm.ClassFile.FieldType.int) [((0 : Nat), (5 : Nat), (8 : Nat), (19 : Nat))]) ∈ xw_G := xw_c7 (List.mem_of_getElem? (i := 99) rfl) rfl
theorem wn_7_120 : (Jvm.Cond.methodLink "CircuitCyclesLaw" (79 : Nat) ({ cls := "CircuitCyclesLaw", name := "count", desc := "(LCircuitCycles;I[J)I" } : Jvm.MethodName)) ∈ xw_G := xw_c7 (List.mem_of_getElem? (i := 120) rfl) rfl
theorem wn_7_121 : (Jvm.Cond.static ({ cls := "CircuitCyclesLaw", name := "count", desc := "(LCircuitCycles;I[J)I" } : Jvm.MethodName)) ∈ xw_G := xw_c7 (List.mem_of_getElem? (i := 121) rfl) rfl
theorem wn_7_122 : (Jvm.Cond.codeWith ({ cls := "CircuitCyclesLaw", name := "count", desc := "(LCircuitCycles;I[J)I" } : Jvm.MethodName) method_5_code (4 : Nat) (Option.some Jvm.ClassFile.FieldType.int) [((0 : Nat), (9 : Nat), (12 : Nat), (25 : Nat)), ((0 : Nat), (9 : Nat), (15 : Nat), (19 : Nat))]) ∈ xw_G := xw_c7 (List.mem_of_getElem? (i := 122) rfl) rfl
theorem wn_7_144 : (Jvm.Cond.methodLink "CircuitCyclesLaw" (83 : Nat) ({ cls := "CircuitCyclesLaw", name := "find", desc := "(LCircuitCycles;[J)I" } : Jvm.MethodName)) ∈ xw_G := xw_c7 (List.mem_of_getElem? (i := 144) rfl) rfl
theorem wn_7_145 : (Jvm.Cond.static ({ cls := "CircuitCyclesLaw", name := "find", desc := "(LCircuitCycles;[J)I" } : Jvm.MethodName)) ∈ xw_G := xw_c7 (List.mem_of_getElem? (i := 145) rfl) rfl
theorem wn_7_146 : (Jvm.Cond.codeWith ({ cls := "CircuitCyclesLaw", name := "find", desc := "(LCircuitCycles;[J)I" } : Jvm.MethodName) method_6_code (3 : Nat) (Option.some Jvm.ClassFile.FieldType.int) [((0 : Nat), (8 : Nat), (11 : Nat), (25 : Nat))]) ∈ xw_G := xw_c7 (List.mem_of_getElem? (i := 146) rfl) rfl
theorem wn_7_169 : (Jvm.Cond.methodLink "CircuitCyclesLaw" (87 : Nat) ({ cls := "CircuitCyclesLaw", name := "signal", desc := "(LCircuitCycles;II[J)I" } : Jvm.MethodName)) ∈ xw_G := xw_c7 (List.mem_of_getElem? (i := 169) rfl) rfl
theorem wn_7_170 : (Jvm.Cond.static ({ cls := "CircuitCyclesLaw", name := "signal", desc := "(LCircuitCycles;II[J)I" } : Jvm.MethodName)) ∈ xw_G := xw_c7 (List.mem_of_getElem? (i := 170) rfl) rfl
theorem wn_7_171 : (Jvm.Cond.codeWith ({ cls := "CircuitCyclesLaw", name := "signal", desc := "(LCircuitCycles;II[J)I" } : Jvm.MethodName) method_7_code (5 : Nat) (Option.some Jvm.ClassFile.FieldType.int) [((0 : Nat), (10 : Nat), (13 : Nat), (25 : Nat)), ((0 : Nat), (10 : Nat), (17 : Nat), (35 : Nat)), ((0 : Nat), (10 : Nat), (21 : Nat), (19 : Nat))]) ∈ xw_G := xw_c7 (List.mem_of_getElem? (i := 171) rfl) rfl
theorem wn_7_200 : (Jvm.Cond.methodLink "CircuitCyclesLaw" (91 : Nat) ({ cls := "CircuitCyclesLaw", name := "reset", desc := "(LCircuitCycles;)I" } : Jvm.MethodName)) ∈ xw_G := xw_c7 (List.mem_of_getElem? (i := 200) rfl) rfl
theorem wn_7_201 : (Jvm.Cond.static ({ cls := "CircuitCyclesLaw", name := "reset", desc := "(LCircuitCycles;)I" } : Jvm.MethodName)) ∈ xw_G := xw_c7 (List.mem_of_getElem? (i := 201) rfl) rfl
theorem wn_7_202 : (Jvm.Cond.codeWith ({ cls := "CircuitCyclesLaw", name := "reset", desc := "(LCircuitCycles;)I" } : Jvm.MethodName) method_8_code (2 : Nat) (Option.some Jvm.ClassFile.FieldType.int) [((0 : Nat), (4 : Nat), (7 : Nat), (25 : Nat))]) ∈ xw_G := xw_c7 (List.mem_of_getElem? (i := 202) rfl) rfl
theorem wn_7_207 : (Jvm.Cond.methodLink "CircuitCyclesLaw" (95 : Nat) ({ cls := "CircuitCyclesLaw", name := "set", desc := "(LCircuitCycles;II)I" } : Jvm.MethodName)) ∈ xw_G := xw_c7 (List.mem_of_getElem? (i := 207) rfl) rfl
theorem wn_7_208 : (Jvm.Cond.static ({ cls := "CircuitCyclesLaw", name := "set", desc := "(LCircuitCycles;II)I" } : Jvm.MethodName)) ∈ xw_G := xw_c7 (List.mem_of_getElem? (i := 208) rfl) rfl
theorem wn_7_209 : (Jvm.Cond.codeWith ({ cls := "CircuitCyclesLaw", name := "set", desc := "(LCircuitCycles;II)I" } : Jvm.MethodName) method_9_code (4 : Nat) (Option.some Jvm.ClassFile.FieldType.int) [((0 : Nat), (6 : Nat), (9 : Nat), (25 : Nat)), ((0 : Nat), (6 : Nat), (12 : Nat), (35 : Nat)), ((0 : Nat), (6 : Nat), (15 : Nat), (19 : Nat))]) ∈ xw_G := xw_c7 (List.mem_of_getElem? (i := 209) rfl) rfl
theorem wn_7_219 : (Jvm.Cond.methodLink "CircuitCyclesLaw" (99 : Nat) ({ cls := "CircuitCyclesLaw", name := "step", desc := "(LCircuitCycles;[J)I" } : Jvm.MethodName)) ∈ xw_G := xw_c7 (List.mem_of_getElem? (i := 219) rfl) rfl
theorem wn_7_220 : (Jvm.Cond.static ({ cls := "CircuitCyclesLaw", name := "step", desc := "(LCircuitCycles;[J)I" } : Jvm.MethodName)) ∈ xw_G := xw_c7 (List.mem_of_getElem? (i := 220) rfl) rfl
theorem wn_7_221 : (Jvm.Cond.codeWith ({ cls := "CircuitCyclesLaw", name := "step", desc := "(LCircuitCycles;[J)I" } : Jvm.MethodName) method_10_code (3 : Nat) (Option.some Jvm.ClassFile.FieldType.int) [((0 : Nat), (8 : Nat), (11 : Nat), (25 : Nat))]) ∈ xw_G := xw_c7 (List.mem_of_getElem? (i := 221) rfl) rfl
theorem wn_8_43 : (Jvm.Cond.methodLink "CircuitCyclesLaw" (102 : Nat) ({ cls := "CircuitCyclesLaw", name := "value", desc := "(LCircuitCycles;I[J)I" } : Jvm.MethodName)) ∈ xw_G := xw_c8 (List.mem_of_getElem? (i := 43) rfl) rfl
theorem wn_8_44 : (Jvm.Cond.static ({ cls := "CircuitCyclesLaw", name := "value", desc := "(LCircuitCycles;I[J)I" } : Jvm.MethodName)) ∈ xw_G := xw_c8 (List.mem_of_getElem? (i := 44) rfl) rfl
theorem wn_8_45 : (Jvm.Cond.codeWith ({ cls := "CircuitCyclesLaw", name := "value", desc := "(LCircuitCycles;I[J)I" } : Jvm.MethodName) method_11_code (4 : Nat) (Option.some Jvm.ClassFile.FieldType.int) [((0 : Nat), (8 : Nat), (11 : Nat), (25 : Nat)), ((0 : Nat), (8 : Nat), (14 : Nat), (35 : Nat))]) ∈ xw_G := xw_c8 (List.mem_of_getElem? (i := 45) rfl) rfl
theorem wn_8_54 : (Jvm.Cond.methodLink "CircuitCyclesLaw" (105 : Nat) ({ cls := "CircuitCyclesLaw", name := "failing", desc := "(LCircuitCycles;[J)I" } : Jvm.MethodName)) ∈ xw_G := xw_c8 (List.mem_of_getElem? (i := 54) rfl) rfl
theorem wn_8_55 : (Jvm.Cond.static ({ cls := "CircuitCyclesLaw", name := "failing", desc := "(LCircuitCycles;[J)I" } : Jvm.MethodName)) ∈ xw_G := xw_c8 (List.mem_of_getElem? (i := 55) rfl) rfl
theorem wn_8_56 : (Jvm.Cond.codeWith ({ cls := "CircuitCyclesLaw", name := "failing", desc := "(LCircuitCycles;[J)I" } : Jvm.MethodName) method_12_code (3 : Nat) (Option.some Jvm.ClassFile.FieldType.int) [((0 : Nat), (8 : Nat), (11 : Nat), (25 : Nat))]) ∈ xw_G := xw_c8 (List.mem_of_getElem? (i := 56) rfl) rfl
theorem wn_8_66 : (Jvm.Cond.instantiable "CircuitCyclesModel" (91 : Nat)) ∈ xw_G := xw_c8 (List.mem_of_getElem? (i := 66) rfl) rfl
theorem wn_9_107 : (Jvm.Cond.arrayClass Jvm.ClassFile.FieldType.boolean) ∈ xw_G := xw_c9 (List.mem_of_getElem? (i := 107) rfl) rfl
theorem wn_9_108 : (Jvm.Cond.methodLink "CircuitCyclesLaw" (64 : Nat) ({ cls := "CircuitCyclesModel", name := "thrown", desc := "()I" } : Jvm.MethodName)) ∈ xw_G := xw_c9 (List.mem_of_getElem? (i := 108) rfl) rfl
theorem wn_9_109 : (Jvm.Cond.instanceMethod ({ cls := "CircuitCyclesModel", name := "thrown", desc := "()I" } : Jvm.MethodName)) ∈ xw_G := xw_c9 (List.mem_of_getElem? (i := 109) rfl) rfl
theorem wn_9_110 : (Jvm.Cond.selects "CircuitCyclesModel" ({ cls := "CircuitCyclesModel", name := "thrown", desc := "()I" } : Jvm.MethodName) ({ cls := "CircuitCyclesModel", name := "thrown", desc := "()I" } : Jvm.MethodName)) ∈ xw_G := xw_c9 (List.mem_of_getElem? (i := 110) rfl) rfl
theorem wn_9_111 : (Jvm.Cond.code ({ cls := "CircuitCyclesModel", name := "thrown", desc := "()I" } : Jvm.MethodName) prog_14_method_2_code (1 : Nat) (Option.some Jvm.ClassFile.FieldType.int)) ∈ xw_G := xw_c9 (List.mem_of_getElem? (i := 111) rfl) rfl
theorem wn_9_112 : (Jvm.Cond.methodLink "CircuitCyclesLaw" (74 : Nat) ({ cls := "CircuitCyclesModel", name := "read", desc := "()I" } : Jvm.MethodName)) ∈ xw_G := xw_c9 (List.mem_of_getElem? (i := 112) rfl) rfl
theorem wn_9_113 : (Jvm.Cond.instanceMethod ({ cls := "CircuitCyclesModel", name := "read", desc := "()I" } : Jvm.MethodName)) ∈ xw_G := xw_c9 (List.mem_of_getElem? (i := 113) rfl) rfl
theorem wn_9_114 : (Jvm.Cond.selects "CircuitCyclesModel" ({ cls := "CircuitCyclesModel", name := "read", desc := "()I" } : Jvm.MethodName) ({ cls := "CircuitCyclesModel", name := "read", desc := "()I" } : Jvm.MethodName)) ∈ xw_G := xw_c9 (List.mem_of_getElem? (i := 114) rfl) rfl
theorem wn_9_115 : (Jvm.Cond.code ({ cls := "CircuitCyclesModel", name := "read", desc := "()I" } : Jvm.MethodName) prog_14_method_83_code (3 : Nat) (Option.some Jvm.ClassFile.FieldType.int)) ∈ xw_G := xw_c9 (List.mem_of_getElem? (i := 115) rfl) rfl
theorem wn_10_239 : (Jvm.Cond.methodLink "CircuitCyclesLaw" (63 : Nat) ({ cls := "CircuitCyclesModel", name := "feed", desc := "(IIIII)I" } : Jvm.MethodName)) ∈ xw_G := xw_c10 (List.mem_of_getElem? (i := 239) rfl) rfl
theorem wn_11_0 : (Jvm.Cond.instanceMethod ({ cls := "CircuitCyclesModel", name := "feed", desc := "(IIIII)I" } : Jvm.MethodName)) ∈ xw_G := xw_c11 (List.mem_of_getElem? (i := 0) rfl) rfl
theorem wn_11_1 : (Jvm.Cond.selects "CircuitCyclesModel" ({ cls := "CircuitCyclesModel", name := "feed", desc := "(IIIII)I" } : Jvm.MethodName) ({ cls := "CircuitCyclesModel", name := "feed", desc := "(IIIII)I" } : Jvm.MethodName)) ∈ xw_G := xw_c11 (List.mem_of_getElem? (i := 1) rfl) rfl
theorem wn_11_2 : (Jvm.Cond.code ({ cls := "CircuitCyclesModel", name := "feed", desc := "(IIIII)I" } : Jvm.MethodName) prog_14_method_97_code (8 : Nat) (Option.some Jvm.ClassFile.FieldType.int)) ∈ xw_G := xw_c11 (List.mem_of_getElem? (i := 2) rfl) rfl
theorem wn_11_3 : (Jvm.Cond.methodLink "CircuitCyclesLaw" (70 : Nat) ({ cls := "CircuitCyclesModel", name := "end", desc := "(I)V" } : Jvm.MethodName)) ∈ xw_G := xw_c11 (List.mem_of_getElem? (i := 3) rfl) rfl
theorem wn_11_4 : (Jvm.Cond.instanceMethod ({ cls := "CircuitCyclesModel", name := "end", desc := "(I)V" } : Jvm.MethodName)) ∈ xw_G := xw_c11 (List.mem_of_getElem? (i := 4) rfl) rfl
theorem wn_11_5 : (Jvm.Cond.selects "CircuitCyclesModel" ({ cls := "CircuitCyclesModel", name := "end", desc := "(I)V" } : Jvm.MethodName) ({ cls := "CircuitCyclesModel", name := "end", desc := "(I)V" } : Jvm.MethodName)) ∈ xw_G := xw_c11 (List.mem_of_getElem? (i := 5) rfl) rfl
theorem wn_11_6 : (Jvm.Cond.code ({ cls := "CircuitCyclesModel", name := "end", desc := "(I)V" } : Jvm.MethodName) prog_14_method_98_code (2 : Nat) (Option.none : Option Jvm.ClassFile.FieldType)) ∈ xw_G := xw_c11 (List.mem_of_getElem? (i := 6) rfl) rfl
theorem wn_11_7 : (Jvm.Cond.methodLink "CircuitCyclesLaw" (78 : Nat) ({ cls := "CircuitCyclesModel", name := "fault", desc := "()I" } : Jvm.MethodName)) ∈ xw_G := xw_c11 (List.mem_of_getElem? (i := 7) rfl) rfl
theorem wn_11_8 : (Jvm.Cond.instanceMethod ({ cls := "CircuitCyclesModel", name := "fault", desc := "()I" } : Jvm.MethodName)) ∈ xw_G := xw_c11 (List.mem_of_getElem? (i := 8) rfl) rfl
theorem wn_11_9 : (Jvm.Cond.selects "CircuitCyclesModel" ({ cls := "CircuitCyclesModel", name := "fault", desc := "()I" } : Jvm.MethodName) ({ cls := "CircuitCyclesModel", name := "fault", desc := "()I" } : Jvm.MethodName)) ∈ xw_G := xw_c11 (List.mem_of_getElem? (i := 9) rfl) rfl
theorem wn_11_10 : (Jvm.Cond.code ({ cls := "CircuitCyclesModel", name := "fault", desc := "()I" } : Jvm.MethodName) prog_14_method_99_code (1 : Nat) (Option.some Jvm.ClassFile.FieldType.int)) ∈ xw_G := xw_c11 (List.mem_of_getElem? (i := 10) rfl) rfl
theorem wn_11_11 : (Jvm.Cond.methodLink "CircuitCyclesLaw" (82 : Nat) ({ cls := "CircuitCyclesModel", name := "count", desc := "(I)I" } : Jvm.MethodName)) ∈ xw_G := xw_c11 (List.mem_of_getElem? (i := 11) rfl) rfl
theorem wn_11_12 : (Jvm.Cond.instanceMethod ({ cls := "CircuitCyclesModel", name := "count", desc := "(I)I" } : Jvm.MethodName)) ∈ xw_G := xw_c11 (List.mem_of_getElem? (i := 12) rfl) rfl
theorem wn_11_13 : (Jvm.Cond.selects "CircuitCyclesModel" ({ cls := "CircuitCyclesModel", name := "count", desc := "(I)I" } : Jvm.MethodName) ({ cls := "CircuitCyclesModel", name := "count", desc := "(I)I" } : Jvm.MethodName)) ∈ xw_G := xw_c11 (List.mem_of_getElem? (i := 13) rfl) rfl
theorem wn_11_14 : (Jvm.Cond.code ({ cls := "CircuitCyclesModel", name := "count", desc := "(I)I" } : Jvm.MethodName) prog_14_method_100_code (2 : Nat) (Option.some Jvm.ClassFile.FieldType.int)) ∈ xw_G := xw_c11 (List.mem_of_getElem? (i := 14) rfl) rfl
theorem wn_11_15 : (Jvm.Cond.methodLink "CircuitCyclesLaw" (86 : Nat) ({ cls := "CircuitCyclesModel", name := "find", desc := "()I" } : Jvm.MethodName)) ∈ xw_G := xw_c11 (List.mem_of_getElem? (i := 15) rfl) rfl
theorem wn_11_16 : (Jvm.Cond.instanceMethod ({ cls := "CircuitCyclesModel", name := "find", desc := "()I" } : Jvm.MethodName)) ∈ xw_G := xw_c11 (List.mem_of_getElem? (i := 16) rfl) rfl
theorem wn_11_17 : (Jvm.Cond.selects "CircuitCyclesModel" ({ cls := "CircuitCyclesModel", name := "find", desc := "()I" } : Jvm.MethodName) ({ cls := "CircuitCyclesModel", name := "find", desc := "()I" } : Jvm.MethodName)) ∈ xw_G := xw_c11 (List.mem_of_getElem? (i := 17) rfl) rfl
theorem wn_11_18 : (Jvm.Cond.code ({ cls := "CircuitCyclesModel", name := "find", desc := "()I" } : Jvm.MethodName) prog_14_method_103_code (3 : Nat) (Option.some Jvm.ClassFile.FieldType.int)) ∈ xw_G := xw_c11 (List.mem_of_getElem? (i := 18) rfl) rfl
theorem wn_11_27 : (Jvm.Cond.methodLink "CircuitCyclesLaw" (90 : Nat) ({ cls := "CircuitCyclesModel", name := "signal", desc := "(II)I" } : Jvm.MethodName)) ∈ xw_G := xw_c11 (List.mem_of_getElem? (i := 27) rfl) rfl
theorem wn_11_28 : (Jvm.Cond.instanceMethod ({ cls := "CircuitCyclesModel", name := "signal", desc := "(II)I" } : Jvm.MethodName)) ∈ xw_G := xw_c11 (List.mem_of_getElem? (i := 28) rfl) rfl
theorem wn_11_29 : (Jvm.Cond.selects "CircuitCyclesModel" ({ cls := "CircuitCyclesModel", name := "signal", desc := "(II)I" } : Jvm.MethodName) ({ cls := "CircuitCyclesModel", name := "signal", desc := "(II)I" } : Jvm.MethodName)) ∈ xw_G := xw_c11 (List.mem_of_getElem? (i := 29) rfl) rfl
theorem wn_11_30 : (Jvm.Cond.code ({ cls := "CircuitCyclesModel", name := "signal", desc := "(II)I" } : Jvm.MethodName) prog_14_method_105_code (3 : Nat) (Option.some Jvm.ClassFile.FieldType.int)) ∈ xw_G := xw_c11 (List.mem_of_getElem? (i := 30) rfl) rfl
theorem wn_11_39 : (Jvm.Cond.methodLink "CircuitCyclesLaw" (94 : Nat) ({ cls := "CircuitCyclesModel", name := "reset", desc := "()V" } : Jvm.MethodName)) ∈ xw_G := xw_c11 (List.mem_of_getElem? (i := 39) rfl) rfl
theorem wn_11_40 : (Jvm.Cond.instanceMethod ({ cls := "CircuitCyclesModel", name := "reset", desc := "()V" } : Jvm.MethodName)) ∈ xw_G := xw_c11 (List.mem_of_getElem? (i := 40) rfl) rfl
theorem wn_11_41 : (Jvm.Cond.selects "CircuitCyclesModel" ({ cls := "CircuitCyclesModel", name := "reset", desc := "()V" } : Jvm.MethodName) ({ cls := "CircuitCyclesModel", name := "reset", desc := "()V" } : Jvm.MethodName)) ∈ xw_G := xw_c11 (List.mem_of_getElem? (i := 41) rfl) rfl
theorem wn_11_42 : (Jvm.Cond.code ({ cls := "CircuitCyclesModel", name := "reset", desc := "()V" } : Jvm.MethodName) prog_14_method_106_code (1 : Nat) (Option.none : Option Jvm.ClassFile.FieldType)) ∈ xw_G := xw_c11 (List.mem_of_getElem? (i := 42) rfl) rfl
theorem wn_11_43 : (Jvm.Cond.methodLink "CircuitCyclesLaw" (98 : Nat) ({ cls := "CircuitCyclesModel", name := "set", desc := "(II)V" } : Jvm.MethodName)) ∈ xw_G := xw_c11 (List.mem_of_getElem? (i := 43) rfl) rfl
theorem wn_11_44 : (Jvm.Cond.instanceMethod ({ cls := "CircuitCyclesModel", name := "set", desc := "(II)V" } : Jvm.MethodName)) ∈ xw_G := xw_c11 (List.mem_of_getElem? (i := 44) rfl) rfl
theorem wn_11_45 : (Jvm.Cond.selects "CircuitCyclesModel" ({ cls := "CircuitCyclesModel", name := "set", desc := "(II)V" } : Jvm.MethodName) ({ cls := "CircuitCyclesModel", name := "set", desc := "(II)V" } : Jvm.MethodName)) ∈ xw_G := xw_c11 (List.mem_of_getElem? (i := 45) rfl) rfl
theorem wn_11_46 : (Jvm.Cond.code ({ cls := "CircuitCyclesModel", name := "set", desc := "(II)V" } : Jvm.MethodName) prog_14_method_107_code (3 : Nat) (Option.none : Option Jvm.ClassFile.FieldType)) ∈ xw_G := xw_c11 (List.mem_of_getElem? (i := 46) rfl) rfl
theorem wn_11_47 : (Jvm.Cond.methodLink "CircuitCyclesLaw" (101 : Nat) ({ cls := "CircuitCyclesModel", name := "step", desc := "()I" } : Jvm.MethodName)) ∈ xw_G := xw_c11 (List.mem_of_getElem? (i := 47) rfl) rfl
theorem wn_11_48 : (Jvm.Cond.instanceMethod ({ cls := "CircuitCyclesModel", name := "step", desc := "()I" } : Jvm.MethodName)) ∈ xw_G := xw_c11 (List.mem_of_getElem? (i := 48) rfl) rfl
theorem wn_11_49 : (Jvm.Cond.selects "CircuitCyclesModel" ({ cls := "CircuitCyclesModel", name := "step", desc := "()I" } : Jvm.MethodName) ({ cls := "CircuitCyclesModel", name := "step", desc := "()I" } : Jvm.MethodName)) ∈ xw_G := xw_c11 (List.mem_of_getElem? (i := 49) rfl) rfl
theorem wn_11_50 : (Jvm.Cond.code ({ cls := "CircuitCyclesModel", name := "step", desc := "()I" } : Jvm.MethodName) prog_14_method_108_code (2 : Nat) (Option.some Jvm.ClassFile.FieldType.int)) ∈ xw_G := xw_c11 (List.mem_of_getElem? (i := 50) rfl) rfl
theorem wn_11_55 : (Jvm.Cond.methodLink "CircuitCyclesLaw" (104 : Nat) ({ cls := "CircuitCyclesModel", name := "value", desc := "(I)J" } : Jvm.MethodName)) ∈ xw_G := xw_c11 (List.mem_of_getElem? (i := 55) rfl) rfl
theorem wn_11_56 : (Jvm.Cond.instanceMethod ({ cls := "CircuitCyclesModel", name := "value", desc := "(I)J" } : Jvm.MethodName)) ∈ xw_G := xw_c11 (List.mem_of_getElem? (i := 56) rfl) rfl
theorem wn_11_57 : (Jvm.Cond.selects "CircuitCyclesModel" ({ cls := "CircuitCyclesModel", name := "value", desc := "(I)J" } : Jvm.MethodName) ({ cls := "CircuitCyclesModel", name := "value", desc := "(I)J" } : Jvm.MethodName)) ∈ xw_G := xw_c11 (List.mem_of_getElem? (i := 57) rfl) rfl
theorem wn_11_58 : (Jvm.Cond.code ({ cls := "CircuitCyclesModel", name := "value", desc := "(I)J" } : Jvm.MethodName) prog_14_method_109_code (2 : Nat) (Option.some Jvm.ClassFile.FieldType.long)) ∈ xw_G := xw_c11 (List.mem_of_getElem? (i := 58) rfl) rfl
theorem wn_11_59 : (Jvm.Cond.methodLink "CircuitCyclesLaw" (107 : Nat) ({ cls := "CircuitCyclesModel", name := "failing", desc := "()I" } : Jvm.MethodName)) ∈ xw_G := xw_c11 (List.mem_of_getElem? (i := 59) rfl) rfl
theorem wn_11_60 : (Jvm.Cond.instanceMethod ({ cls := "CircuitCyclesModel", name := "failing", desc := "()I" } : Jvm.MethodName)) ∈ xw_G := xw_c11 (List.mem_of_getElem? (i := 60) rfl) rfl
theorem wn_11_61 : (Jvm.Cond.selects "CircuitCyclesModel" ({ cls := "CircuitCyclesModel", name := "failing", desc := "()I" } : Jvm.MethodName) ({ cls := "CircuitCyclesModel", name := "failing", desc := "()I" } : Jvm.MethodName)) ∈ xw_G := xw_c11 (List.mem_of_getElem? (i := 61) rfl) rfl
theorem wn_11_62 : (Jvm.Cond.code ({ cls := "CircuitCyclesModel", name := "failing", desc := "()I" } : Jvm.MethodName) prog_14_method_110_code (1 : Nat) (Option.some Jvm.ClassFile.FieldType.int)) ∈ xw_G := xw_c11 (List.mem_of_getElem? (i := 62) rfl) rfl
def yn_L_law : MethodName := ⟨rn_L, "law", "([I)Z"⟩
abbrev bn_L_law : ByteArray := code
theorem dn_L_law_23 : decode bn_L_law 23 = .ok (.iload 4, 2) := by decide +kernel
theorem dn_L_law_25 : decode bn_L_law 25 = .ok (.aload_n 0, 1) := by decide +kernel
theorem dn_L_law_26 : decode bn_L_law 26 = .ok (.arraylength, 1) := by decide +kernel
theorem dn_L_law_27 : decode bn_L_law 27 = .ok (.bipush 6, 2) := by decide +kernel
theorem dn_L_law_29 : decode bn_L_law 29 = .ok (.isub, 1) := by decide +kernel
theorem dn_L_law_30 : decode bn_L_law 30 = .ok (.if_icmp .gt 629, 3) := by decide +kernel
theorem dn_L_law_33 : decode bn_L_law 33 = .ok (.aload_n 0, 1) := by decide +kernel
theorem dn_L_law_34 : decode bn_L_law 34 = .ok (.iload 4, 2) := by decide +kernel
theorem dn_L_law_36 : decode bn_L_law 36 = .ok (.iaload, 1) := by decide +kernel
theorem dn_L_law_37 : decode bn_L_law 37 = .ok (.bipush 15, 2) := by decide +kernel
theorem dn_L_law_39 : decode bn_L_law 39 = .ok (.iand, 1) := by decide +kernel
theorem dn_L_law_40 : decode bn_L_law 40 = .ok (.tableswitch 613 0 11 #[64, 168, 204, 217, 230, 286, 330, 398, 422, 470, 514, 569], 64) := by decide +kernel
theorem dn_L_law_104 : decode bn_L_law 104 = .ok (.aload_n 1, 1) := by decide +kernel
theorem dn_L_law_105 : decode bn_L_law 105 = .ok (.aload_n 0, 1) := by decide +kernel
theorem dn_L_law_106 : decode bn_L_law 106 = .ok (.iload 4, 2) := by decide +kernel
theorem dn_L_law_108 : decode bn_L_law 108 = .ok (.iconst 1, 1) := by decide +kernel
theorem dn_L_law_109 : decode bn_L_law 109 = .ok (.iadd, 1) := by decide +kernel
theorem dn_L_law_110 : decode bn_L_law 110 = .ok (.iaload, 1) := by decide +kernel
theorem dn_L_law_111 : decode bn_L_law 111 = .ok (.aload_n 0, 1) := by decide +kernel
theorem dn_L_law_112 : decode bn_L_law 112 = .ok (.iload 4, 2) := by decide +kernel
theorem dn_L_law_114 : decode bn_L_law 114 = .ok (.iconst 2, 1) := by decide +kernel
theorem dn_L_law_115 : decode bn_L_law 115 = .ok (.iadd, 1) := by decide +kernel
theorem dn_L_law_116 : decode bn_L_law 116 = .ok (.iaload, 1) := by decide +kernel
theorem dn_L_law_117 : decode bn_L_law 117 = .ok (.aload_n 0, 1) := by decide +kernel
theorem dn_L_law_118 : decode bn_L_law 118 = .ok (.iload 4, 2) := by decide +kernel
theorem dn_L_law_120 : decode bn_L_law 120 = .ok (.iconst 3, 1) := by decide +kernel
theorem dn_L_law_121 : decode bn_L_law 121 = .ok (.iadd, 1) := by decide +kernel
theorem dn_L_law_122 : decode bn_L_law 122 = .ok (.iaload, 1) := by decide +kernel
theorem dn_L_law_123 : decode bn_L_law 123 = .ok (.aload_n 0, 1) := by decide +kernel
theorem dn_L_law_124 : decode bn_L_law 124 = .ok (.iload 4, 2) := by decide +kernel
theorem dn_L_law_126 : decode bn_L_law 126 = .ok (.iconst 4, 1) := by decide +kernel
theorem dn_L_law_127 : decode bn_L_law 127 = .ok (.iadd, 1) := by decide +kernel
theorem dn_L_law_128 : decode bn_L_law 128 = .ok (.iaload, 1) := by decide +kernel
theorem dn_L_law_129 : decode bn_L_law 129 = .ok (.aload_n 0, 1) := by decide +kernel
theorem dn_L_law_130 : decode bn_L_law 130 = .ok (.iload 4, 2) := by decide +kernel
theorem dn_L_law_132 : decode bn_L_law 132 = .ok (.iconst 5, 1) := by decide +kernel
theorem dn_L_law_133 : decode bn_L_law 133 = .ok (.iadd, 1) := by decide +kernel
theorem dn_L_law_134 : decode bn_L_law 134 = .ok (.iaload, 1) := by decide +kernel
theorem dn_L_law_135 : decode bn_L_law 135 = .ok (.aload_n 3, 1) := by decide +kernel
theorem dn_L_law_136 : decode bn_L_law 136 = .ok (.invokestatic 58, 3) := by decide +kernel
theorem dn_L_law_139 : decode bn_L_law 139 = .ok (.istore 5, 2) := by decide +kernel
theorem dn_L_law_141 : decode bn_L_law 141 = .ok (.aload_n 2, 1) := by decide +kernel
theorem dn_L_law_142 : decode bn_L_law 142 = .ok (.aload_n 0, 1) := by decide +kernel
theorem dn_L_law_143 : decode bn_L_law 143 = .ok (.iload 4, 2) := by decide +kernel
theorem dn_L_law_145 : decode bn_L_law 145 = .ok (.iconst 1, 1) := by decide +kernel
theorem dn_L_law_146 : decode bn_L_law 146 = .ok (.iadd, 1) := by decide +kernel
theorem dn_L_law_147 : decode bn_L_law 147 = .ok (.iaload, 1) := by decide +kernel
theorem dn_L_law_148 : decode bn_L_law 148 = .ok (.aload_n 0, 1) := by decide +kernel
theorem dn_L_law_149 : decode bn_L_law 149 = .ok (.iload 4, 2) := by decide +kernel
theorem dn_L_law_151 : decode bn_L_law 151 = .ok (.iconst 2, 1) := by decide +kernel
theorem dn_L_law_152 : decode bn_L_law 152 = .ok (.iadd, 1) := by decide +kernel
theorem dn_L_law_153 : decode bn_L_law 153 = .ok (.iaload, 1) := by decide +kernel
theorem dn_L_law_154 : decode bn_L_law 154 = .ok (.aload_n 0, 1) := by decide +kernel
theorem dn_L_law_155 : decode bn_L_law 155 = .ok (.iload 4, 2) := by decide +kernel
theorem dn_L_law_157 : decode bn_L_law 157 = .ok (.iconst 3, 1) := by decide +kernel
theorem dn_L_law_158 : decode bn_L_law 158 = .ok (.iadd, 1) := by decide +kernel
theorem dn_L_law_159 : decode bn_L_law 159 = .ok (.iaload, 1) := by decide +kernel
theorem dn_L_law_160 : decode bn_L_law 160 = .ok (.aload_n 0, 1) := by decide +kernel
theorem dn_L_law_161 : decode bn_L_law 161 = .ok (.iload 4, 2) := by decide +kernel
theorem dn_L_law_163 : decode bn_L_law 163 = .ok (.iconst 4, 1) := by decide +kernel
theorem dn_L_law_164 : decode bn_L_law 164 = .ok (.iadd, 1) := by decide +kernel
theorem dn_L_law_165 : decode bn_L_law 165 = .ok (.iaload, 1) := by decide +kernel
theorem dn_L_law_166 : decode bn_L_law 166 = .ok (.aload_n 0, 1) := by decide +kernel
theorem dn_L_law_167 : decode bn_L_law 167 = .ok (.iload 4, 2) := by decide +kernel
theorem dn_L_law_169 : decode bn_L_law 169 = .ok (.iconst 5, 1) := by decide +kernel
theorem dn_L_law_170 : decode bn_L_law 170 = .ok (.iadd, 1) := by decide +kernel
theorem dn_L_law_171 : decode bn_L_law 171 = .ok (.iaload, 1) := by decide +kernel
theorem dn_L_law_172 : decode bn_L_law 172 = .ok (.invokevirtual 63, 3) := by decide +kernel
theorem dn_L_law_175 : decode bn_L_law 175 = .ok (.istore 6, 2) := by decide +kernel
theorem dn_L_law_177 : decode bn_L_law 177 = .ok (.aload_n 2, 1) := by decide +kernel
theorem dn_L_law_178 : decode bn_L_law 178 = .ok (.invokevirtual 64, 3) := by decide +kernel
theorem dn_L_law_181 : decode bn_L_law 181 = .ok (.iload 5, 2) := by decide +kernel
theorem dn_L_law_183 : decode bn_L_law 183 = .ok (.if_icmp .eq 5, 3) := by decide +kernel
theorem dn_L_law_186 : decode bn_L_law 186 = .ok (.iconst 0, 1) := by decide +kernel
theorem dn_L_law_187 : decode bn_L_law 187 = .ok (.ireturn, 1) := by decide +kernel
theorem dn_L_law_188 : decode bn_L_law 188 = .ok (.iload 5, 2) := by decide +kernel
theorem dn_L_law_190 : decode bn_L_law 190 = .ok (.ifCond .ne 15, 3) := by decide +kernel
theorem dn_L_law_193 : decode bn_L_law 193 = .ok (.aload_n 3, 1) := by decide +kernel
theorem dn_L_law_194 : decode bn_L_law 194 = .ok (.iconst 0, 1) := by decide +kernel
theorem dn_L_law_195 : decode bn_L_law 195 = .ok (.laload, 1) := by decide +kernel
theorem dn_L_law_196 : decode bn_L_law 196 = .ok (.iload 6, 2) := by decide +kernel
theorem dn_L_law_198 : decode bn_L_law 198 = .ok (.i2l, 1) := by decide +kernel
theorem dn_L_law_199 : decode bn_L_law 199 = .ok (.lcmp, 1) := by decide +kernel
theorem dn_L_law_200 : decode bn_L_law 200 = .ok (.ifCond .eq 5, 3) := by decide +kernel
theorem dn_L_law_203 : decode bn_L_law 203 = .ok (.iconst 0, 1) := by decide +kernel
theorem dn_L_law_204 : decode bn_L_law 204 = .ok (.ireturn, 1) := by decide +kernel
theorem dn_L_law_205 : decode bn_L_law 205 = .ok (.goto 448, 3) := by decide +kernel
theorem dn_L_law_208 : decode bn_L_law 208 = .ok (.aload_n 1, 1) := by decide +kernel
theorem dn_L_law_209 : decode bn_L_law 209 = .ok (.aload_n 0, 1) := by decide +kernel
theorem dn_L_law_210 : decode bn_L_law 210 = .ok (.iload 4, 2) := by decide +kernel
theorem dn_L_law_212 : decode bn_L_law 212 = .ok (.iconst 1, 1) := by decide +kernel
theorem dn_L_law_213 : decode bn_L_law 213 = .ok (.iadd, 1) := by decide +kernel
theorem dn_L_law_214 : decode bn_L_law 214 = .ok (.iaload, 1) := by decide +kernel
theorem dn_L_law_215 : decode bn_L_law 215 = .ok (.invokestatic 67, 3) := by decide +kernel
theorem dn_L_law_218 : decode bn_L_law 218 = .ok (.istore 5, 2) := by decide +kernel
theorem dn_L_law_220 : decode bn_L_law 220 = .ok (.aload_n 2, 1) := by decide +kernel
theorem dn_L_law_221 : decode bn_L_law 221 = .ok (.aload_n 0, 1) := by decide +kernel
theorem dn_L_law_222 : decode bn_L_law 222 = .ok (.iload 4, 2) := by decide +kernel
theorem dn_L_law_224 : decode bn_L_law 224 = .ok (.iconst 1, 1) := by decide +kernel
theorem dn_L_law_225 : decode bn_L_law 225 = .ok (.iadd, 1) := by decide +kernel
theorem dn_L_law_226 : decode bn_L_law 226 = .ok (.iaload, 1) := by decide +kernel
theorem dn_L_law_227 : decode bn_L_law 227 = .ok (.invokevirtual 70, 3) := by decide +kernel
theorem dn_L_law_230 : decode bn_L_law 230 = .ok (.aload_n 2, 1) := by decide +kernel
theorem dn_L_law_231 : decode bn_L_law 231 = .ok (.invokevirtual 64, 3) := by decide +kernel
theorem dn_L_law_234 : decode bn_L_law 234 = .ok (.iload 5, 2) := by decide +kernel
theorem dn_L_law_236 : decode bn_L_law 236 = .ok (.if_icmp .eq 5, 3) := by decide +kernel
theorem dn_L_law_239 : decode bn_L_law 239 = .ok (.iconst 0, 1) := by decide +kernel
theorem dn_L_law_240 : decode bn_L_law 240 = .ok (.ireturn, 1) := by decide +kernel
theorem dn_L_law_241 : decode bn_L_law 241 = .ok (.goto 412, 3) := by decide +kernel
theorem dn_L_law_244 : decode bn_L_law 244 = .ok (.aload_n 1, 1) := by decide +kernel
theorem dn_L_law_245 : decode bn_L_law 245 = .ok (.invokevirtual 71, 3) := by decide +kernel
theorem dn_L_law_248 : decode bn_L_law 248 = .ok (.aload_n 2, 1) := by decide +kernel
theorem dn_L_law_249 : decode bn_L_law 249 = .ok (.invokevirtual 74, 3) := by decide +kernel
theorem dn_L_law_252 : decode bn_L_law 252 = .ok (.if_icmp .eq 401, 3) := by decide +kernel
theorem dn_L_law_255 : decode bn_L_law 255 = .ok (.iconst 0, 1) := by decide +kernel
theorem dn_L_law_256 : decode bn_L_law 256 = .ok (.ireturn, 1) := by decide +kernel
theorem dn_L_law_257 : decode bn_L_law 257 = .ok (.aload_n 1, 1) := by decide +kernel
theorem dn_L_law_258 : decode bn_L_law 258 = .ok (.invokevirtual 75, 3) := by decide +kernel
theorem dn_L_law_261 : decode bn_L_law 261 = .ok (.aload_n 2, 1) := by decide +kernel
theorem dn_L_law_262 : decode bn_L_law 262 = .ok (.invokevirtual 78, 3) := by decide +kernel
theorem dn_L_law_265 : decode bn_L_law 265 = .ok (.if_icmp .eq 388, 3) := by decide +kernel
theorem dn_L_law_268 : decode bn_L_law 268 = .ok (.iconst 0, 1) := by decide +kernel
theorem dn_L_law_269 : decode bn_L_law 269 = .ok (.ireturn, 1) := by decide +kernel
theorem dn_L_law_270 : decode bn_L_law 270 = .ok (.aload_n 1, 1) := by decide +kernel
theorem dn_L_law_271 : decode bn_L_law 271 = .ok (.aload_n 0, 1) := by decide +kernel
theorem dn_L_law_272 : decode bn_L_law 272 = .ok (.iload 4, 2) := by decide +kernel
theorem dn_L_law_274 : decode bn_L_law 274 = .ok (.iconst 1, 1) := by decide +kernel
theorem dn_L_law_275 : decode bn_L_law 275 = .ok (.iadd, 1) := by decide +kernel
theorem dn_L_law_276 : decode bn_L_law 276 = .ok (.iaload, 1) := by decide +kernel
theorem dn_L_law_277 : decode bn_L_law 277 = .ok (.aload_n 3, 1) := by decide +kernel
theorem dn_L_law_278 : decode bn_L_law 278 = .ok (.invokestatic 79, 3) := by decide +kernel
theorem dn_L_law_281 : decode bn_L_law 281 = .ok (.istore 5, 2) := by decide +kernel
theorem dn_L_law_283 : decode bn_L_law 283 = .ok (.aload_n 2, 1) := by decide +kernel
theorem dn_L_law_284 : decode bn_L_law 284 = .ok (.aload_n 0, 1) := by decide +kernel
theorem dn_L_law_285 : decode bn_L_law 285 = .ok (.iload 4, 2) := by decide +kernel
theorem dn_L_law_287 : decode bn_L_law 287 = .ok (.iconst 1, 1) := by decide +kernel
theorem dn_L_law_288 : decode bn_L_law 288 = .ok (.iadd, 1) := by decide +kernel
theorem dn_L_law_289 : decode bn_L_law 289 = .ok (.iaload, 1) := by decide +kernel
theorem dn_L_law_290 : decode bn_L_law 290 = .ok (.invokevirtual 82, 3) := by decide +kernel
theorem dn_L_law_293 : decode bn_L_law 293 = .ok (.istore 6, 2) := by decide +kernel
theorem dn_L_law_295 : decode bn_L_law 295 = .ok (.aload_n 2, 1) := by decide +kernel
theorem dn_L_law_296 : decode bn_L_law 296 = .ok (.invokevirtual 64, 3) := by decide +kernel
theorem dn_L_law_299 : decode bn_L_law 299 = .ok (.iload 5, 2) := by decide +kernel
theorem dn_L_law_301 : decode bn_L_law 301 = .ok (.if_icmp .eq 5, 3) := by decide +kernel
theorem dn_L_law_304 : decode bn_L_law 304 = .ok (.iconst 0, 1) := by decide +kernel
theorem dn_L_law_305 : decode bn_L_law 305 = .ok (.ireturn, 1) := by decide +kernel
theorem dn_L_law_306 : decode bn_L_law 306 = .ok (.iload 5, 2) := by decide +kernel
theorem dn_L_law_308 : decode bn_L_law 308 = .ok (.ifCond .ne 15, 3) := by decide +kernel
theorem dn_L_law_311 : decode bn_L_law 311 = .ok (.aload_n 3, 1) := by decide +kernel
theorem dn_L_law_312 : decode bn_L_law 312 = .ok (.iconst 0, 1) := by decide +kernel
theorem dn_L_law_313 : decode bn_L_law 313 = .ok (.laload, 1) := by decide +kernel
theorem dn_L_law_314 : decode bn_L_law 314 = .ok (.iload 6, 2) := by decide +kernel
theorem dn_L_law_316 : decode bn_L_law 316 = .ok (.i2l, 1) := by decide +kernel
theorem dn_L_law_317 : decode bn_L_law 317 = .ok (.lcmp, 1) := by decide +kernel
theorem dn_L_law_318 : decode bn_L_law 318 = .ok (.ifCond .eq 5, 3) := by decide +kernel
theorem dn_L_law_321 : decode bn_L_law 321 = .ok (.iconst 0, 1) := by decide +kernel
theorem dn_L_law_322 : decode bn_L_law 322 = .ok (.ireturn, 1) := by decide +kernel
theorem dn_L_law_323 : decode bn_L_law 323 = .ok (.goto 330, 3) := by decide +kernel
theorem dn_L_law_326 : decode bn_L_law 326 = .ok (.aload_n 1, 1) := by decide +kernel
theorem dn_L_law_327 : decode bn_L_law 327 = .ok (.aload_n 3, 1) := by decide +kernel
theorem dn_L_law_328 : decode bn_L_law 328 = .ok (.invokestatic 83, 3) := by decide +kernel
theorem dn_L_law_331 : decode bn_L_law 331 = .ok (.istore 5, 2) := by decide +kernel
theorem dn_L_law_333 : decode bn_L_law 333 = .ok (.aload_n 2, 1) := by decide +kernel
theorem dn_L_law_334 : decode bn_L_law 334 = .ok (.invokevirtual 86, 3) := by decide +kernel
theorem dn_L_law_337 : decode bn_L_law 337 = .ok (.istore 6, 2) := by decide +kernel
theorem dn_L_law_339 : decode bn_L_law 339 = .ok (.aload_n 2, 1) := by decide +kernel
theorem dn_L_law_340 : decode bn_L_law 340 = .ok (.invokevirtual 64, 3) := by decide +kernel
theorem dn_L_law_343 : decode bn_L_law 343 = .ok (.iload 5, 2) := by decide +kernel
theorem dn_L_law_345 : decode bn_L_law 345 = .ok (.if_icmp .eq 5, 3) := by decide +kernel
theorem dn_L_law_348 : decode bn_L_law 348 = .ok (.iconst 0, 1) := by decide +kernel
theorem dn_L_law_349 : decode bn_L_law 349 = .ok (.ireturn, 1) := by decide +kernel
theorem dn_L_law_350 : decode bn_L_law 350 = .ok (.iload 5, 2) := by decide +kernel
theorem dn_L_law_352 : decode bn_L_law 352 = .ok (.ifCond .ne 15, 3) := by decide +kernel
theorem dn_L_law_355 : decode bn_L_law 355 = .ok (.aload_n 3, 1) := by decide +kernel
theorem dn_L_law_356 : decode bn_L_law 356 = .ok (.iconst 0, 1) := by decide +kernel
theorem dn_L_law_357 : decode bn_L_law 357 = .ok (.laload, 1) := by decide +kernel
theorem dn_L_law_358 : decode bn_L_law 358 = .ok (.iload 6, 2) := by decide +kernel
theorem dn_L_law_360 : decode bn_L_law 360 = .ok (.i2l, 1) := by decide +kernel
theorem dn_L_law_361 : decode bn_L_law 361 = .ok (.lcmp, 1) := by decide +kernel
theorem dn_L_law_362 : decode bn_L_law 362 = .ok (.ifCond .eq 5, 3) := by decide +kernel
theorem dn_L_law_365 : decode bn_L_law 365 = .ok (.iconst 0, 1) := by decide +kernel
theorem dn_L_law_366 : decode bn_L_law 366 = .ok (.ireturn, 1) := by decide +kernel
theorem dn_L_law_367 : decode bn_L_law 367 = .ok (.goto 286, 3) := by decide +kernel
theorem dn_L_law_370 : decode bn_L_law 370 = .ok (.aload_n 1, 1) := by decide +kernel
theorem dn_L_law_371 : decode bn_L_law 371 = .ok (.aload_n 0, 1) := by decide +kernel
theorem dn_L_law_372 : decode bn_L_law 372 = .ok (.iload 4, 2) := by decide +kernel
theorem dn_L_law_374 : decode bn_L_law 374 = .ok (.iconst 1, 1) := by decide +kernel
theorem dn_L_law_375 : decode bn_L_law 375 = .ok (.iadd, 1) := by decide +kernel
theorem dn_L_law_376 : decode bn_L_law 376 = .ok (.iaload, 1) := by decide +kernel
theorem dn_L_law_377 : decode bn_L_law 377 = .ok (.aload_n 0, 1) := by decide +kernel
theorem dn_L_law_378 : decode bn_L_law 378 = .ok (.iload 4, 2) := by decide +kernel
theorem dn_L_law_380 : decode bn_L_law 380 = .ok (.iconst 2, 1) := by decide +kernel
theorem dn_L_law_381 : decode bn_L_law 381 = .ok (.iadd, 1) := by decide +kernel
theorem dn_L_law_382 : decode bn_L_law 382 = .ok (.iaload, 1) := by decide +kernel
theorem dn_L_law_383 : decode bn_L_law 383 = .ok (.aload_n 3, 1) := by decide +kernel
theorem dn_L_law_384 : decode bn_L_law 384 = .ok (.invokestatic 87, 3) := by decide +kernel
theorem dn_L_law_387 : decode bn_L_law 387 = .ok (.istore 5, 2) := by decide +kernel
theorem dn_L_law_389 : decode bn_L_law 389 = .ok (.aload_n 2, 1) := by decide +kernel
theorem dn_L_law_390 : decode bn_L_law 390 = .ok (.aload_n 0, 1) := by decide +kernel
theorem dn_L_law_391 : decode bn_L_law 391 = .ok (.iload 4, 2) := by decide +kernel
theorem dn_L_law_393 : decode bn_L_law 393 = .ok (.iconst 1, 1) := by decide +kernel
theorem dn_L_law_394 : decode bn_L_law 394 = .ok (.iadd, 1) := by decide +kernel
theorem dn_L_law_395 : decode bn_L_law 395 = .ok (.iaload, 1) := by decide +kernel
theorem dn_L_law_396 : decode bn_L_law 396 = .ok (.aload_n 0, 1) := by decide +kernel
theorem dn_L_law_397 : decode bn_L_law 397 = .ok (.iload 4, 2) := by decide +kernel
theorem dn_L_law_399 : decode bn_L_law 399 = .ok (.iconst 2, 1) := by decide +kernel
theorem dn_L_law_400 : decode bn_L_law 400 = .ok (.iadd, 1) := by decide +kernel
theorem dn_L_law_401 : decode bn_L_law 401 = .ok (.iaload, 1) := by decide +kernel
theorem dn_L_law_402 : decode bn_L_law 402 = .ok (.invokevirtual 90, 3) := by decide +kernel
theorem dn_L_law_405 : decode bn_L_law 405 = .ok (.istore 6, 2) := by decide +kernel
theorem dn_L_law_407 : decode bn_L_law 407 = .ok (.aload_n 2, 1) := by decide +kernel
theorem dn_L_law_408 : decode bn_L_law 408 = .ok (.invokevirtual 64, 3) := by decide +kernel
theorem dn_L_law_411 : decode bn_L_law 411 = .ok (.iload 5, 2) := by decide +kernel
theorem dn_L_law_413 : decode bn_L_law 413 = .ok (.if_icmp .eq 5, 3) := by decide +kernel
theorem dn_L_law_416 : decode bn_L_law 416 = .ok (.iconst 0, 1) := by decide +kernel
theorem dn_L_law_417 : decode bn_L_law 417 = .ok (.ireturn, 1) := by decide +kernel
theorem dn_L_law_418 : decode bn_L_law 418 = .ok (.iload 5, 2) := by decide +kernel
theorem dn_L_law_420 : decode bn_L_law 420 = .ok (.ifCond .ne 15, 3) := by decide +kernel
theorem dn_L_law_423 : decode bn_L_law 423 = .ok (.aload_n 3, 1) := by decide +kernel
theorem dn_L_law_424 : decode bn_L_law 424 = .ok (.iconst 0, 1) := by decide +kernel
theorem dn_L_law_425 : decode bn_L_law 425 = .ok (.laload, 1) := by decide +kernel
theorem dn_L_law_426 : decode bn_L_law 426 = .ok (.iload 6, 2) := by decide +kernel
theorem dn_L_law_428 : decode bn_L_law 428 = .ok (.i2l, 1) := by decide +kernel
theorem dn_L_law_429 : decode bn_L_law 429 = .ok (.lcmp, 1) := by decide +kernel
theorem dn_L_law_430 : decode bn_L_law 430 = .ok (.ifCond .eq 5, 3) := by decide +kernel
theorem dn_L_law_433 : decode bn_L_law 433 = .ok (.iconst 0, 1) := by decide +kernel
theorem dn_L_law_434 : decode bn_L_law 434 = .ok (.ireturn, 1) := by decide +kernel
theorem dn_L_law_435 : decode bn_L_law 435 = .ok (.goto 218, 3) := by decide +kernel
theorem dn_L_law_438 : decode bn_L_law 438 = .ok (.aload_n 1, 1) := by decide +kernel
theorem dn_L_law_439 : decode bn_L_law 439 = .ok (.invokestatic 91, 3) := by decide +kernel
theorem dn_L_law_442 : decode bn_L_law 442 = .ok (.istore 5, 2) := by decide +kernel
theorem dn_L_law_444 : decode bn_L_law 444 = .ok (.aload_n 2, 1) := by decide +kernel
theorem dn_L_law_445 : decode bn_L_law 445 = .ok (.invokevirtual 94, 3) := by decide +kernel
theorem dn_L_law_448 : decode bn_L_law 448 = .ok (.aload_n 2, 1) := by decide +kernel
theorem dn_L_law_449 : decode bn_L_law 449 = .ok (.invokevirtual 64, 3) := by decide +kernel
theorem dn_L_law_452 : decode bn_L_law 452 = .ok (.iload 5, 2) := by decide +kernel
theorem dn_L_law_454 : decode bn_L_law 454 = .ok (.if_icmp .eq 5, 3) := by decide +kernel
theorem dn_L_law_457 : decode bn_L_law 457 = .ok (.iconst 0, 1) := by decide +kernel
theorem dn_L_law_458 : decode bn_L_law 458 = .ok (.ireturn, 1) := by decide +kernel
theorem dn_L_law_459 : decode bn_L_law 459 = .ok (.goto 194, 3) := by decide +kernel
theorem dn_L_law_462 : decode bn_L_law 462 = .ok (.aload_n 1, 1) := by decide +kernel
theorem dn_L_law_463 : decode bn_L_law 463 = .ok (.aload_n 0, 1) := by decide +kernel
theorem dn_L_law_464 : decode bn_L_law 464 = .ok (.iload 4, 2) := by decide +kernel
theorem dn_L_law_466 : decode bn_L_law 466 = .ok (.iconst 1, 1) := by decide +kernel
theorem dn_L_law_467 : decode bn_L_law 467 = .ok (.iadd, 1) := by decide +kernel
theorem dn_L_law_468 : decode bn_L_law 468 = .ok (.iaload, 1) := by decide +kernel
theorem dn_L_law_469 : decode bn_L_law 469 = .ok (.aload_n 0, 1) := by decide +kernel
theorem dn_L_law_470 : decode bn_L_law 470 = .ok (.iload 4, 2) := by decide +kernel
theorem dn_L_law_472 : decode bn_L_law 472 = .ok (.iconst 2, 1) := by decide +kernel
theorem dn_L_law_473 : decode bn_L_law 473 = .ok (.iadd, 1) := by decide +kernel
theorem dn_L_law_474 : decode bn_L_law 474 = .ok (.iaload, 1) := by decide +kernel
theorem dn_L_law_475 : decode bn_L_law 475 = .ok (.invokestatic 95, 3) := by decide +kernel
theorem dn_L_law_478 : decode bn_L_law 478 = .ok (.istore 5, 2) := by decide +kernel
theorem dn_L_law_480 : decode bn_L_law 480 = .ok (.aload_n 2, 1) := by decide +kernel
theorem dn_L_law_481 : decode bn_L_law 481 = .ok (.aload_n 0, 1) := by decide +kernel
theorem dn_L_law_482 : decode bn_L_law 482 = .ok (.iload 4, 2) := by decide +kernel
theorem dn_L_law_484 : decode bn_L_law 484 = .ok (.iconst 1, 1) := by decide +kernel
theorem dn_L_law_485 : decode bn_L_law 485 = .ok (.iadd, 1) := by decide +kernel
theorem dn_L_law_486 : decode bn_L_law 486 = .ok (.iaload, 1) := by decide +kernel
theorem dn_L_law_487 : decode bn_L_law 487 = .ok (.aload_n 0, 1) := by decide +kernel
theorem dn_L_law_488 : decode bn_L_law 488 = .ok (.iload 4, 2) := by decide +kernel
theorem dn_L_law_490 : decode bn_L_law 490 = .ok (.iconst 2, 1) := by decide +kernel
theorem dn_L_law_491 : decode bn_L_law 491 = .ok (.iadd, 1) := by decide +kernel
theorem dn_L_law_492 : decode bn_L_law 492 = .ok (.iaload, 1) := by decide +kernel
theorem dn_L_law_493 : decode bn_L_law 493 = .ok (.invokevirtual 98, 3) := by decide +kernel
theorem dn_L_law_496 : decode bn_L_law 496 = .ok (.aload_n 2, 1) := by decide +kernel
theorem dn_L_law_497 : decode bn_L_law 497 = .ok (.invokevirtual 64, 3) := by decide +kernel
theorem dn_L_law_500 : decode bn_L_law 500 = .ok (.iload 5, 2) := by decide +kernel
theorem dn_L_law_502 : decode bn_L_law 502 = .ok (.if_icmp .eq 5, 3) := by decide +kernel
theorem dn_L_law_505 : decode bn_L_law 505 = .ok (.iconst 0, 1) := by decide +kernel
theorem dn_L_law_506 : decode bn_L_law 506 = .ok (.ireturn, 1) := by decide +kernel
theorem dn_L_law_507 : decode bn_L_law 507 = .ok (.goto 146, 3) := by decide +kernel
theorem dn_L_law_510 : decode bn_L_law 510 = .ok (.aload_n 1, 1) := by decide +kernel
theorem dn_L_law_511 : decode bn_L_law 511 = .ok (.aload_n 3, 1) := by decide +kernel
theorem dn_L_law_512 : decode bn_L_law 512 = .ok (.invokestatic 99, 3) := by decide +kernel
theorem dn_L_law_515 : decode bn_L_law 515 = .ok (.istore 5, 2) := by decide +kernel
theorem dn_L_law_517 : decode bn_L_law 517 = .ok (.aload_n 2, 1) := by decide +kernel
theorem dn_L_law_518 : decode bn_L_law 518 = .ok (.invokevirtual 101, 3) := by decide +kernel
theorem dn_L_law_521 : decode bn_L_law 521 = .ok (.istore 6, 2) := by decide +kernel
theorem dn_L_law_523 : decode bn_L_law 523 = .ok (.aload_n 2, 1) := by decide +kernel
theorem dn_L_law_524 : decode bn_L_law 524 = .ok (.invokevirtual 64, 3) := by decide +kernel
theorem dn_L_law_527 : decode bn_L_law 527 = .ok (.iload 5, 2) := by decide +kernel
theorem dn_L_law_529 : decode bn_L_law 529 = .ok (.if_icmp .eq 5, 3) := by decide +kernel
theorem dn_L_law_532 : decode bn_L_law 532 = .ok (.iconst 0, 1) := by decide +kernel
theorem dn_L_law_533 : decode bn_L_law 533 = .ok (.ireturn, 1) := by decide +kernel
theorem dn_L_law_534 : decode bn_L_law 534 = .ok (.iload 5, 2) := by decide +kernel
theorem dn_L_law_536 : decode bn_L_law 536 = .ok (.ifCond .ne 15, 3) := by decide +kernel
theorem dn_L_law_539 : decode bn_L_law 539 = .ok (.aload_n 3, 1) := by decide +kernel
theorem dn_L_law_540 : decode bn_L_law 540 = .ok (.iconst 0, 1) := by decide +kernel
theorem dn_L_law_541 : decode bn_L_law 541 = .ok (.laload, 1) := by decide +kernel
theorem dn_L_law_542 : decode bn_L_law 542 = .ok (.iload 6, 2) := by decide +kernel
theorem dn_L_law_544 : decode bn_L_law 544 = .ok (.i2l, 1) := by decide +kernel
theorem dn_L_law_545 : decode bn_L_law 545 = .ok (.lcmp, 1) := by decide +kernel
theorem dn_L_law_546 : decode bn_L_law 546 = .ok (.ifCond .eq 5, 3) := by decide +kernel
theorem dn_L_law_549 : decode bn_L_law 549 = .ok (.iconst 0, 1) := by decide +kernel
theorem dn_L_law_550 : decode bn_L_law 550 = .ok (.ireturn, 1) := by decide +kernel
theorem dn_L_law_551 : decode bn_L_law 551 = .ok (.goto 102, 3) := by decide +kernel
theorem dn_L_law_554 : decode bn_L_law 554 = .ok (.aload_n 1, 1) := by decide +kernel
theorem dn_L_law_555 : decode bn_L_law 555 = .ok (.aload_n 0, 1) := by decide +kernel
theorem dn_L_law_556 : decode bn_L_law 556 = .ok (.iload 4, 2) := by decide +kernel
theorem dn_L_law_558 : decode bn_L_law 558 = .ok (.iconst 1, 1) := by decide +kernel
theorem dn_L_law_559 : decode bn_L_law 559 = .ok (.iadd, 1) := by decide +kernel
theorem dn_L_law_560 : decode bn_L_law 560 = .ok (.iaload, 1) := by decide +kernel
theorem dn_L_law_561 : decode bn_L_law 561 = .ok (.aload_n 3, 1) := by decide +kernel
theorem dn_L_law_562 : decode bn_L_law 562 = .ok (.invokestatic 102, 3) := by decide +kernel
theorem dn_L_law_565 : decode bn_L_law 565 = .ok (.istore 5, 2) := by decide +kernel
theorem dn_L_law_567 : decode bn_L_law 567 = .ok (.aload_n 2, 1) := by decide +kernel
theorem dn_L_law_568 : decode bn_L_law 568 = .ok (.aload_n 0, 1) := by decide +kernel
theorem dn_L_law_569 : decode bn_L_law 569 = .ok (.iload 4, 2) := by decide +kernel
theorem dn_L_law_571 : decode bn_L_law 571 = .ok (.iconst 1, 1) := by decide +kernel
theorem dn_L_law_572 : decode bn_L_law 572 = .ok (.iadd, 1) := by decide +kernel
theorem dn_L_law_573 : decode bn_L_law 573 = .ok (.iaload, 1) := by decide +kernel
theorem dn_L_law_574 : decode bn_L_law 574 = .ok (.invokevirtual 104, 3) := by decide +kernel
theorem dn_L_law_577 : decode bn_L_law 577 = .ok (.lstore 6, 2) := by decide +kernel
theorem dn_L_law_579 : decode bn_L_law 579 = .ok (.aload_n 2, 1) := by decide +kernel
theorem dn_L_law_580 : decode bn_L_law 580 = .ok (.invokevirtual 64, 3) := by decide +kernel
theorem dn_L_law_583 : decode bn_L_law 583 = .ok (.iload 5, 2) := by decide +kernel
theorem dn_L_law_585 : decode bn_L_law 585 = .ok (.if_icmp .eq 5, 3) := by decide +kernel
theorem dn_L_law_588 : decode bn_L_law 588 = .ok (.iconst 0, 1) := by decide +kernel
theorem dn_L_law_589 : decode bn_L_law 589 = .ok (.ireturn, 1) := by decide +kernel
theorem dn_L_law_590 : decode bn_L_law 590 = .ok (.iload 5, 2) := by decide +kernel
theorem dn_L_law_592 : decode bn_L_law 592 = .ok (.ifCond .ne 14, 3) := by decide +kernel
theorem dn_L_law_595 : decode bn_L_law 595 = .ok (.aload_n 3, 1) := by decide +kernel
theorem dn_L_law_596 : decode bn_L_law 596 = .ok (.iconst 0, 1) := by decide +kernel
theorem dn_L_law_597 : decode bn_L_law 597 = .ok (.laload, 1) := by decide +kernel
theorem dn_L_law_598 : decode bn_L_law 598 = .ok (.lload 6, 2) := by decide +kernel
theorem dn_L_law_600 : decode bn_L_law 600 = .ok (.lcmp, 1) := by decide +kernel
theorem dn_L_law_601 : decode bn_L_law 601 = .ok (.ifCond .eq 5, 3) := by decide +kernel
theorem dn_L_law_604 : decode bn_L_law 604 = .ok (.iconst 0, 1) := by decide +kernel
theorem dn_L_law_605 : decode bn_L_law 605 = .ok (.ireturn, 1) := by decide +kernel
theorem dn_L_law_606 : decode bn_L_law 606 = .ok (.goto 47, 3) := by decide +kernel
theorem dn_L_law_609 : decode bn_L_law 609 = .ok (.aload_n 1, 1) := by decide +kernel
theorem dn_L_law_610 : decode bn_L_law 610 = .ok (.aload_n 3, 1) := by decide +kernel
theorem dn_L_law_611 : decode bn_L_law 611 = .ok (.invokestatic 105, 3) := by decide +kernel
theorem dn_L_law_614 : decode bn_L_law 614 = .ok (.istore 5, 2) := by decide +kernel
theorem dn_L_law_616 : decode bn_L_law 616 = .ok (.aload_n 2, 1) := by decide +kernel
theorem dn_L_law_617 : decode bn_L_law 617 = .ok (.invokevirtual 107, 3) := by decide +kernel
theorem dn_L_law_620 : decode bn_L_law 620 = .ok (.istore 6, 2) := by decide +kernel
theorem dn_L_law_622 : decode bn_L_law 622 = .ok (.aload_n 2, 1) := by decide +kernel
theorem dn_L_law_623 : decode bn_L_law 623 = .ok (.invokevirtual 64, 3) := by decide +kernel
theorem dn_L_law_626 : decode bn_L_law 626 = .ok (.iload 5, 2) := by decide +kernel
theorem dn_L_law_628 : decode bn_L_law 628 = .ok (.if_icmp .eq 5, 3) := by decide +kernel
theorem dn_L_law_631 : decode bn_L_law 631 = .ok (.iconst 0, 1) := by decide +kernel
theorem dn_L_law_632 : decode bn_L_law 632 = .ok (.ireturn, 1) := by decide +kernel
theorem dn_L_law_633 : decode bn_L_law 633 = .ok (.iload 5, 2) := by decide +kernel
theorem dn_L_law_635 : decode bn_L_law 635 = .ok (.ifCond .ne 15, 3) := by decide +kernel
theorem dn_L_law_638 : decode bn_L_law 638 = .ok (.aload_n 3, 1) := by decide +kernel
theorem dn_L_law_639 : decode bn_L_law 639 = .ok (.iconst 0, 1) := by decide +kernel
theorem dn_L_law_640 : decode bn_L_law 640 = .ok (.laload, 1) := by decide +kernel
theorem dn_L_law_641 : decode bn_L_law 641 = .ok (.iload 6, 2) := by decide +kernel
theorem dn_L_law_643 : decode bn_L_law 643 = .ok (.i2l, 1) := by decide +kernel
theorem dn_L_law_644 : decode bn_L_law 644 = .ok (.lcmp, 1) := by decide +kernel
theorem dn_L_law_645 : decode bn_L_law 645 = .ok (.ifCond .eq 5, 3) := by decide +kernel
theorem dn_L_law_648 : decode bn_L_law 648 = .ok (.iconst 0, 1) := by decide +kernel
theorem dn_L_law_649 : decode bn_L_law 649 = .ok (.ireturn, 1) := by decide +kernel
theorem dn_L_law_650 : decode bn_L_law 650 = .ok (.goto 3, 3) := by decide +kernel
theorem dn_L_law_653 : decode bn_L_law 653 = .ok (.iinc 4 6, 3) := by decide +kernel
theorem dn_L_law_656 : decode bn_L_law 656 = .ok (.goto (-633), 3) := by decide +kernel
theorem dn_L_law_659 : decode bn_L_law 659 = .ok (.iconst 1, 1) := by decide +kernel
theorem dn_L_law_660 : decode bn_L_law 660 = .ok (.ireturn, 1) := by decide +kernel
/-! At the law's entry: the classes' numbers, the array classes, what a throw reads. -/
theorem xl_arr {ty : FieldType} {args : Array Value} {s : State} (h : (Cond.arrayClass ty).before args s = true) (hra : ∀ c : ClassId, s.vm.findClass ("[" ++ ty.toString) = some c → va_RA s c ty) : ∃ cA : ClassId, ArrOfT s cA ty ∧ va_RA s cA ty := by
  obtain ⟨cA, kA, comp, h1, h2, h3⟩ := Cond.arrayClass_spec h
  exact ⟨cA, fun n z => ⟨fun k h => (by cases h), kA, h2, comp, h3⟩, hra _ h1⟩
theorem xl_K {args : Array Value} {s : State} (hg : ∀ w ∈ xw_G, w.before args s = true) (hq : xq_Ar s) : ∃ (dC : Nat → ClassId) (dI : Nat → Nat → Nat) (cI cB cJ cZ cQ : ClassId), va_K (dC, dI) xcl (xt cI cB cJ cZ cQ) s := by
  obtain ⟨c0, i0, hK0⟩ := u_known (C := rn_M) (T := fn_M) (N := 91) hg in_M (hg _ wn_8_66)
  obtain ⟨c1, i1, hK1⟩ := u_known (C := rn_C) (T := fn_C) (N := 11) hg in_C (hg _ wn_1_31)
  obtain ⟨c2, i2, hK2⟩ := u_known (C := rn_Tokens) (T := fn_Tokens) (N := 9) hg in_Tokens (hg _ wn_1_39)
  obtain ⟨c3, i3, hK3⟩ := u_known (C := rn_Scanner) (T := fn_Scanner) (N := 9) hg in_Scanner (hg _ wn_1_84)
  obtain ⟨c4, i4, hK4⟩ := u_known (C := rn_Checker) (T := fn_Checker) (N := 15) hg in_Checker (hg _ wn_1_121)
  obtain ⟨c5, i5, hK5⟩ := u_known (C := rn_Meaning) (T := fn_Meaning) (N := 17) hg in_Meaning (hg _ wn_1_179)
  obtain ⟨c6, i6, hK6⟩ := u_known (C := rn_Grammar) (T := fn_Grammar) (N := 15) hg in_Grammar (hg _ wn_1_177)
  obtain ⟨c7, i7, hK7⟩ := u_known (C := rn_Order) (T := fn_Order) (N := 10) hg in_Order (hg _ wn_2_47)
  obtain ⟨c8, i8, hK8⟩ := u_known (C := rn_Machine) (T := fn_Machine) (N := 5) hg in_Machine (hg _ wn_2_84)
  obtain ⟨c9, i9, hK9⟩ := u_known (C := rn_Circuit) (T := fn_Circuit) (N := 14) hg in_Circuit (hg _ wn_2_106)
  obtain ⟨c10, i10, hK10⟩ := u_known (C := rn_Design) (T := fn_Design) (N := 16) hg in_Design (hg _ wn_2_112)
  obtain ⟨c11, i11, hK11⟩ := u_known (C := rn_Parts) (T := fn_Parts) (N := 15) hg in_Parts (hg _ wn_2_118)
  obtain ⟨c12, i12, hK12⟩ := u_known (C := rn_Code) (T := fn_Code) (N := 5) hg in_Code (hg _ wn_2_204)
  obtain ⟨cI, aI, rI⟩ := xl_arr (ty := .int) (hg _ wn_1_119) (fun _ h => h)
  obtain ⟨cB, aB, rB⟩ := xl_arr (ty := .byte) (hg _ wn_1_118) (fun _ h => h)
  obtain ⟨cJ, aJ, rJ⟩ := xl_arr (ty := .long) (hg _ wn_1_82) (fun _ h => h)
  obtain ⟨cZ, aZ, rZ⟩ := xl_arr (ty := .boolean) (hg _ wn_9_107) (fun _ h => h)
  obtain ⟨cQ, cI2, kQ, e1, e2, e3, e4⟩ := hq
  refine ⟨fun k => if k = 0 then c0 else if k = 1 then c1 else if k = 2 then c2 else if k = 3 then c3 else if k = 4 then c4 else if k = 5 then c5 else if k = 6 then c6 else if k = 7 then c7 else if k = 8 then c8 else if k = 9 then c9 else if k = 10 then c10 else if k = 11 then c11 else c12, fun k => if k = 0 then i0 else if k = 1 then i1 else if k = 2 then i2 else if k = 3 then i3 else if k = 4 then i4 else if k = 5 then i5 else if k = 6 then i6 else if k = 7 then i7 else if k = 8 then i8 else if k = 9 then i9 else if k = 10 then i10 else if k = 11 then i11 else i12, cI, cB, cJ, cZ, cQ, ?_, ?_⟩
  · intro k q hq
    match k, hq with
    | 0, hq => cases hq; exact hK0
    | 1, hq => cases hq; exact hK1
    | 2, hq => cases hq; exact hK2
    | 3, hq => cases hq; exact hK3
    | 4, hq => cases hq; exact hK4
    | 5, hq => cases hq; exact hK5
    | 6, hq => cases hq; exact hK6
    | 7, hq => cases hq; exact hK7
    | 8, hq => cases hq; exact hK8
    | 9, hq => cases hq; exact hK9
    | 10, hq => cases hq; exact hK10
    | 11, hq => cases hq; exact hK11
    | 12, hq => cases hq; exact hK12
    | k + 13, hq => simp [xcl] at hq
  · intro k q hq
    match k, hq with
    | 0, hq => cases hq; exact ⟨aI, rI⟩
    | 1, hq => cases hq; exact ⟨aB, rB⟩
    | 2, hq => cases hq; exact ⟨aJ, rJ⟩
    | 3, hq => cases hq; exact ⟨aZ, rZ⟩
    | 4, hq => cases hq; exact ⟨fun n z => ⟨fun k h => (by cases h), kQ, e3, cI2, e4⟩, e1⟩
    | k + 5, hq => simp at hq
theorem xl_lays {C n d : String} {A B : Array Value} {s U : State} (hW : s.WarmedH U.vm) (hk : ∀ q : Nat, q < s.heap.size → U.heap[q]? = s.heap[q]?) (h : (Cond.laysStatic C n d).before A s = true) : (Cond.laysStatic C n d).before B U = true := by
  have h1 : (Cond.laysStatic C n d).before A (s.setVm U.vm) = true := Cond.holds_shifted (State.Shifted.of_warmed hW) _ [] rfl h
  obtain ⟨c, k, i, f, a, cell, g1, g2, g3, g4, g5, g6, g7, g8, g9⟩ := Cond.laysStatic_spec h1
  have g5' : U.heap[a]? = some cell := by
    have h5 : s.heap[a]? = some cell := g5
    rw [hk a (Array.getElem?_eq_some_iff.mp h5).1]; exact h5
  have g1' : U.vm.findClass C = some c := g1
  have g2' : U.fieldFound? C n d = some (c, k, i, f) := g2
  simp [Cond.before, Cond.holds, Cond.value, g1', g2', g3, g4, g5', g6, g7, g8, g9]
/-- what a throw reads, at any later state of the law's run -/
theorem xl_St {args : Array Value} {s U : State} (hts : ∀ w ∈ lw_tbl, w.before args s = true) (h1 : (Cond.isRef xs_u).before args s = true) (h2 : (Cond.isRef xs_n).before args s = true) (hW : s.WarmedH U.vm) (hk : ∀ q : Nat, q < s.heap.size → U.heap[q]? = s.heap[q]?) : xs_St U := by
  have t1 : (Cond.laysStatic "java/lang/Throwable" "UNASSIGNED_STACK" "[Ljava/lang/StackTraceElement;").before args s = true := hts _ (List.mem_append_right _ (by decide +kernel))
  have t2 : (Cond.laysStatic "java/lang/Throwable" "SUPPRESSED_SENTINEL" "Ljava/util/List;").before args s = true := hts _ (List.mem_append_right _ (by decide +kernel))
  have t3 : (Cond.initialized "java/lang/Throwable").before args s = true := hts _ (List.mem_append_right _ (by decide +kernel))
  have z1 := va_Zqof (A := fun _ => False) t1 t3 h1 (fun _ _ h => h)
  have z2 := va_Zqof (A := fun _ => False) t2 t3 h2 (fun _ _ h => h)
  refine ⟨(z1.kept (fun a h _ => hk a h)).moved hW.alike, (z2.kept (fun a h _ => hk a h)).moved hW.alike, xl_lays hW hk t1, xl_lays hW hk t2, xs_mem hW ?_⟩
  have key : ∀ w ∈ xs_L, w ∈ tables_1 := by decide +kernel
  intro w hw
  exact xs_same (U := s) (T := s) hw rfl (hts w (List.mem_append_right _ (key w hw)))
/-! THE CLAIM OUT OF ONE WALK OF THE LAW'S BODY. Your part is whole_start (and what it stands on); all else here is the same for every law, but numbers. -/
def R_law : String := "CircuitCyclesLaw"
def lw_P (b : Addr) (xs : List Int32) (args : Array Value) (s : State) : Prop := args = #[.ref b] ∧ s.IntsAt b xs ∧ xs.length ≤ 3072 ∧ (Jvm.Cond.and given_1 narrow_1).before args s = true
def lw_Q (_ : Array Value) (s : State) (o : Outcome) (t : State) : Prop := o = .returned (some (.int 1)) ∧ Framed s o t [] 601024 7293034
def lw_Z (below : List Frame) (a : Array Value) (s : State) : State → Prop := fun t => ∃ o, t.status = .running ∧ Ended t below o ∧ lw_Q a s o t
/-- the law's own end, with 1 on the stack, nothing written that was there before, its room as the claim has it -/
theorem lw_ret {p : Program} {l : Launch} {e : Env} {s : State} {m : MethodId} {below : List Frame} {meth : Method} {c : Code} {b : Nat} (hx : p.tables.exec = Jvm.exec) (hb : c.code = code) (hr : meth.sig.returnType = ret) (hlocks : meth.locks = false) {pc : Nat} {H : Heap} {ls : Array Slot} (hdg : decode code pc = .ok (.ireturn, 1)) : W p l e room_1 s m #[Value.ref b] below meth c H [] 601024 7293034 (lw_Z below #[Value.ref b] s) (F0 m pc ls [.int 1]) := by
  intro T hT X
  obtain ⟨fs, hret, hrun, hended, hW, hframe⟩ := X.leave (v := some (.int 1)) (hlocks := hlocks) (fun h => by rw [hr] at h; cases h)
  have hmeth' : T.vm.method? m = some meth := X.method'
  refine ⟨T.setFrames fs, ?_, .returned (some (.int 1)), hrun, hended, rfl, ⟨_, rfl⟩, hW, hframe⟩
  jvm_step X.here [X.here.top, hx, hb, hdg, hmeth', hr, ret, narrow_b1]
  (try refine ⟨rfl, ?_⟩); (try refine ⟨rfl, ?_⟩)
  first | (intro acts; rw [hret _ acts rfl rfl rfl]) | rw [hret _ _ rfl rfl rfl]
  exact Steps.refl _
/-- what holds at the law's entry: the machine, the code, the tables' words (any of lw_tbl by 'hts w (by decide +kernel)'), the script of L ints xs at the cell b, what the Statement gives of the start (any of its parts by flat_of_before) -/
def lw_At (p : Program) (s : State) (m : MethodId) (meth : Method) (c : Code) (b L : Nat) (xs : Nat → Int32) : Prop :=
  p.tables.exec = Jvm.exec ∧ c.code = code ∧ meth.sig.returnType = ret ∧ c.maxLocals = 8 ∧ s.vm.findClass R_law = some m.cls ∧ (∀ w ∈ lw_tbl, w.before #[Value.ref b] s = true) ∧ va_X b L xs s s.heap ∧ b < s.heap.size ∧ meth.locks = false ∧ (Jvm.Cond.and given_1 narrow_1).before #[Value.ref b] s = true
theorem lw_pre {D : va_G} {cl : List vw_C} {tys : List (ClassId × FieldType)} {A : Nat → Prop} {s : State} {H : Heap} {locs : List Loc} {args : Array Value} {wc pl : va_W} {av : List Value} (hK : va_K D cl tys s) (hN : xn_St s) (hT : dc_St A s s.heap) (hno : xs_No s) (hts : ∀ w ∈ lw_tbl, w.before args s = true) (h1 : (Cond.isRef xs_u).before args s = true) (h2 : (Cond.isRef xs_n).before args s = true) (hnA : ∀ q : Nat, q < s.heap.size → ¬ A q) (hP : va_P D cl (wc ++ pl) H) (hD : va_D A (wc ++ pl)) (hS : va_S A s.heap H locs) (hA : ∀ q : Nat, s.heap.size ≤ q → A q) : ∀ U : State, U.heap = H → s.WarmedH U.vm → dc_PX D cl tys av H.size wc av.toArray U := fun U hU hW =>
  ⟨⟨rfl, by rw [hU], by rw [hU]; exact va_P_l hP, va_K.moved hW.alike hK, (va_D_l hD).weaken (fun _ _ _ _ => trivial), xn_moved hW hN, by rw [hU]; exact hT.at hS hW (va_free (va_D_l hD) hS hA (List.range wc.length) (dc_all wc))⟩, hno.moved hW.alike, xl_St hts h1 h2 hW (fun q hq => by rw [hU]; exact hS.2.1 q hq (hnA q hq))⟩
