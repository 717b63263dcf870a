/-! read: the spare circuit becomes the one that stands. -/
set_option maxRecDepth 100000 in
set_option maxHeartbeats 4000000 in
theorem wC_Psw {D : va_G} {cl : List vw_C} {a : Nat → Nat} {v : Nat → Value} {cI cB cJ cZ cQ : ClassId} {s : ms} {H : Heap} (h : va_P D cl (((wC a v cI cB cJ cZ cQ s).set 0 (a 100, .inr (1, (oC a v s).set 9 (.ref (a 108))))).set 0 (a 100, .inr (1, ((oC a v s).set 9 (.ref (a 108))).set 10 (.ref (a 112))))) H) : va_P D cl (wC (swA a) v cI cB cJ cZ cQ (swS s)) H := h.sub [0, 1, 2, 3, 4, 5, 6, 7, 12, 13, 14, 15, 8, 9, 10, 11, 16, 17, 18, 19, 20, 21, 22, 23, 24, 25, 26, 27, 28, 29, 30, 31, 32, 33, 34, 35, 36, 37, 38, 39, 40, 41, 76, 77, 78, 79, 80, 81, 82, 83, 84, 85, 86, 87, 88, 89, 90, 91, 92, 93, 94, 95, 96, 97, 98, 99, 100, 101, 102, 103, 104, 105, 106, 107, 108, 109, 42, 43, 44, 45, 46, 47, 48, 49, 50, 51, 52, 53, 54, 55, 56, 57, 58, 59, 60, 61, 62, 63, 64, 65, 66, 67, 68, 69, 70, 71, 72, 73, 74, 75, 116, 117, 118, 119, 120, 121, 110, 111, 112, 113, 114, 115] rfl
set_option maxRecDepth 100000 in
set_option maxHeartbeats 4000000 in
theorem wC_Dsw {A : Nat → Prop} {a : Nat → Nat} {v : Nat → Value} {cI cB cJ cZ cQ : ClassId} {s : ms} (h : va_D A (((wC a v cI cB cJ cZ cQ s).set 0 (a 100, .inr (1, (oC a v s).set 9 (.ref (a 108))))).set 0 (a 100, .inr (1, ((oC a v s).set 9 (.ref (a 108))).set 10 (.ref (a 112)))))) : va_D A (wC (swA a) v cI cB cJ cZ cQ (swS s)) := h.sub [0, 1, 2, 3, 4, 5, 6, 7, 12, 13, 14, 15, 8, 9, 10, 11, 16, 17, 18, 19, 20, 21, 22, 23, 24, 25, 26, 27, 28, 29, 30, 31, 32, 33, 34, 35, 36, 37, 38, 39, 40, 41, 76, 77, 78, 79, 80, 81, 82, 83, 84, 85, 86, 87, 88, 89, 90, 91, 92, 93, 94, 95, 96, 97, 98, 99, 100, 101, 102, 103, 104, 105, 106, 107, 108, 109, 42, 43, 44, 45, 46, 47, 48, 49, 50, 51, 52, 53, 54, 55, 56, 57, 58, 59, 60, 61, 62, 63, 64, 65, 66, 67, 68, 69, 70, 71, 72, 73, 74, 75, 116, 117, 118, 119, 120, 121, 110, 111, 112, 113, 114, 115] (by decide +kernel) rfl
theorem wn_1_59 : (Jvm.Cond.fieldLink "CircuitCycles" (108 : Nat) "CircuitCycles$Tokens" "faultCode" "I") ∈ xw_G := xw_c1 (List.mem_of_getElem? (i := 59) rfl) rfl
theorem wn_1_61 : (Jvm.Cond.fieldLink "CircuitCycles" (105 : Nat) "CircuitCycles$Tokens" "faultPlace" "I") ∈ xw_G := xw_c1 (List.mem_of_getElem? (i := 61) rfl) rfl
theorem wn_1_98 : (Jvm.Cond.fieldLink "CircuitCycles" (98 : Nat) "CircuitCycles$Scanner" "words" "I") ∈ xw_G := xw_c1 (List.mem_of_getElem? (i := 98) rfl) rfl
theorem wn_1_142 : (Jvm.Cond.fieldLink "CircuitCycles" (112 : Nat) "CircuitCycles$Checker" "faultCode" "I") ∈ xw_G := xw_c1 (List.mem_of_getElem? (i := 142) rfl) rfl
theorem wn_1_144 : (Jvm.Cond.fieldLink "CircuitCycles" (113 : Nat) "CircuitCycles$Checker" "faultPlace" "I") ∈ xw_G := xw_c1 (List.mem_of_getElem? (i := 144) rfl) rfl
theorem wn_3_127 : (Jvm.Cond.fieldLink "CircuitCycles" (12 : Nat) "CircuitCycles" "tokens" "LCircuitCycles$Tokens;") ∈ xw_G := xw_c3 (List.mem_of_getElem? (i := 127) rfl) rfl
theorem wn_3_129 : (Jvm.Cond.fieldLink "CircuitCycles" (28 : Nat) "CircuitCycles" "checker" "LCircuitCycles$Checker;") ∈ xw_G := xw_c3 (List.mem_of_getElem? (i := 129) rfl) rfl
theorem wn_3_130 : (Jvm.Cond.fieldLink "CircuitCycles" (42 : Nat) "CircuitCycles" "grammar" "LCircuitCycles$Grammar;") ∈ xw_G := xw_c3 (List.mem_of_getElem? (i := 130) rfl) rfl
theorem wn_3_131 : (Jvm.Cond.fieldLink "CircuitCycles" (49 : Nat) "CircuitCycles" "order" "LCircuitCycles$Order;") ∈ xw_G := xw_c3 (List.mem_of_getElem? (i := 131) rfl) rfl
theorem wn_3_178 : (Jvm.Cond.methodLink "CircuitCycles" (94 : Nat) ({ cls := "CircuitCycles$Scanner", name := "scan", desc := "(LCircuitCycles$Design;)V" } : Jvm.MethodName)) ∈ xw_G := xw_c3 (List.mem_of_getElem? (i := 178) rfl) rfl
theorem wn_3_179 : (Jvm.Cond.instanceMethod ({ cls := "CircuitCycles$Scanner", name := "scan", desc := "(LCircuitCycles$Design;)V" } : Jvm.MethodName)) ∈ xw_G := xw_c3 (List.mem_of_getElem? (i := 179) rfl) rfl
theorem wn_3_180 : (Jvm.Cond.selects "CircuitCycles$Scanner" ({ cls := "CircuitCycles$Scanner", name := "scan", desc := "(LCircuitCycles$Design;)V" } : Jvm.MethodName) ({ cls := "CircuitCycles$Scanner", name := "scan", desc := "(LCircuitCycles$Design;)V" } : Jvm.MethodName)) ∈ xw_G := xw_c3 (List.mem_of_getElem? (i := 180) rfl) rfl
theorem wn_3_181 : (Jvm.Cond.code ({ cls := "CircuitCycles$Scanner", name := "scan", desc := "(LCircuitCycles$Design;)V" } : Jvm.MethodName) prog_11_method_2_code (5 : Nat) (Option.none : Option Jvm.ClassFile.FieldType)) ∈ xw_G := xw_c3 (List.mem_of_getElem? (i := 181) rfl) rfl
theorem wn_4_140 : (Jvm.Cond.methodLink "CircuitCycles" (101 : Nat) ({ cls := "CircuitCycles$Grammar", name := "parse", desc := "(LCircuitCycles$Design;I)V" } : Jvm.MethodName)) ∈ xw_G := xw_c4 (List.mem_of_getElem? (i := 140) rfl) rfl
theorem wn_4_141 : (Jvm.Cond.instanceMethod ({ cls := "CircuitCycles$Grammar", name := "parse", desc := "(LCircuitCycles$Design;I)V" } : Jvm.MethodName)) ∈ xw_G := xw_c4 (List.mem_of_getElem? (i := 141) rfl) rfl
theorem wn_4_142 : (Jvm.Cond.selects "CircuitCycles$Grammar" ({ cls := "CircuitCycles$Grammar", name := "parse", desc := "(LCircuitCycles$Design;I)V" } : Jvm.MethodName) ({ cls := "CircuitCycles$Grammar", name := "parse", desc := "(LCircuitCycles$Design;I)V" } : Jvm.MethodName)) ∈ xw_G := xw_c4 (List.mem_of_getElem? (i := 142) rfl) rfl
theorem wn_4_143 : (Jvm.Cond.code ({ cls := "CircuitCycles$Grammar", name := "parse", desc := "(LCircuitCycles$Design;I)V" } : Jvm.MethodName) prog_6_method_2_code (5 : Nat) (Option.none : Option Jvm.ClassFile.FieldType)) ∈ xw_G := xw_c4 (List.mem_of_getElem? (i := 143) rfl) rfl
theorem wn_6_161 : (Jvm.Cond.methodLink "CircuitCycles" (114 : Nat) ({ cls := "CircuitCycles$Design", name := "excess", desc := "()I" } : Jvm.MethodName)) ∈ xw_G := xw_c6 (List.mem_of_getElem? (i := 161) rfl) rfl
theorem wn_6_162 : (Jvm.Cond.instanceMethod ({ cls := "CircuitCycles$Design", name := "excess", desc := "()I" } : Jvm.MethodName)) ∈ xw_G := xw_c6 (List.mem_of_getElem? (i := 162) rfl) rfl
theorem wn_6_163 : (Jvm.Cond.selects "CircuitCycles$Design" ({ cls := "CircuitCycles$Design", name := "excess", desc := "()I" } : Jvm.MethodName) ({ cls := "CircuitCycles$Design", name := "excess", desc := "()I" } : Jvm.MethodName)) ∈ xw_G := xw_c6 (List.mem_of_getElem? (i := 163) rfl) rfl
theorem wn_6_164 : (Jvm.Cond.code ({ cls := "CircuitCycles$Design", name := "excess", desc := "()I" } : Jvm.MethodName) prog_5_method_15_code (4 : Nat) (Option.some Jvm.ClassFile.FieldType.int)) ∈ xw_G := xw_c6 (List.mem_of_getElem? (i := 164) rfl) rfl
theorem wn_6_168 : (Jvm.Cond.methodLink "CircuitCycles" (118 : Nat) ({ cls := "CircuitCycles$Design", name := "topPlace", desc := "()I" } : Jvm.MethodName)) ∈ xw_G := xw_c6 (List.mem_of_getElem? (i := 168) rfl) rfl
theorem wn_6_169 : (Jvm.Cond.instanceMethod ({ cls := "CircuitCycles$Design", name := "topPlace", desc := "()I" } : Jvm.MethodName)) ∈ xw_G := xw_c6 (List.mem_of_getElem? (i := 169) rfl) rfl
theorem wn_6_170 : (Jvm.Cond.selects "CircuitCycles$Design" ({ cls := "CircuitCycles$Design", name := "topPlace", desc := "()I" } : Jvm.MethodName) ({ cls := "CircuitCycles$Design", name := "topPlace", desc := "()I" } : Jvm.MethodName)) ∈ xw_G := xw_c6 (List.mem_of_getElem? (i := 170) rfl) rfl
theorem wn_6_171 : (Jvm.Cond.code ({ cls := "CircuitCycles$Design", name := "topPlace", desc := "()I" } : Jvm.MethodName) prog_5_method_13_code (1 : Nat) (Option.some Jvm.ClassFile.FieldType.int)) ∈ xw_G := xw_c6 (List.mem_of_getElem? (i := 171) rfl) rfl
theorem wn_6_172 : (Jvm.Cond.methodLink "CircuitCycles" (121 : Nat) ({ cls := "CircuitCycles$Circuit", name := "build", desc := "()V" } : Jvm.MethodName)) ∈ xw_G := xw_c6 (List.mem_of_getElem? (i := 172) rfl) rfl
theorem wn_6_173 : (Jvm.Cond.instanceMethod ({ cls := "CircuitCycles$Circuit", name := "build", desc := "()V" } : Jvm.MethodName)) ∈ xw_G := xw_c6 (List.mem_of_getElem? (i := 173) rfl) rfl
theorem wn_6_174 : (Jvm.Cond.selects "CircuitCycles$Circuit" ({ cls := "CircuitCycles$Circuit", name := "build", desc := "()V" } : Jvm.MethodName) ({ cls := "CircuitCycles$Circuit", name := "build", desc := "()V" } : Jvm.MethodName)) ∈ xw_G := xw_c6 (List.mem_of_getElem? (i := 174) rfl) rfl
theorem wn_6_175 : (Jvm.Cond.code ({ cls := "CircuitCycles$Circuit", name := "build", desc := "()V" } : Jvm.MethodName) prog_3_method_2_code (3 : Nat) (Option.none : Option Jvm.ClassFile.FieldType)) ∈ xw_G := xw_c6 (List.mem_of_getElem? (i := 175) rfl) rfl
theorem wn_6_211 : (Jvm.Cond.methodLink "CircuitCycles" (124 : Nat) ({ cls := "CircuitCycles$Order", name := "arrange", desc := "(LCircuitCycles$Circuit;)I" } : Jvm.MethodName)) ∈ xw_G := xw_c6 (List.mem_of_getElem? (i := 211) rfl) rfl
theorem wn_6_212 : (Jvm.Cond.instanceMethod ({ cls := "CircuitCycles$Order", name := "arrange", desc := "(LCircuitCycles$Circuit;)I" } : Jvm.MethodName)) ∈ xw_G := xw_c6 (List.mem_of_getElem? (i := 212) rfl) rfl
theorem wn_6_213 : (Jvm.Cond.selects "CircuitCycles$Order" ({ cls := "CircuitCycles$Order", name := "arrange", desc := "(LCircuitCycles$Circuit;)I" } : Jvm.MethodName) ({ cls := "CircuitCycles$Order", name := "arrange", desc := "(LCircuitCycles$Circuit;)I" } : Jvm.MethodName)) ∈ xw_G := xw_c6 (List.mem_of_getElem? (i := 213) rfl) rfl
theorem wn_6_214 : (Jvm.Cond.code ({ cls := "CircuitCycles$Order", name := "arrange", desc := "(LCircuitCycles$Circuit;)I" } : Jvm.MethodName) prog_9_method_2_code (3 : Nat) (Option.some Jvm.ClassFile.FieldType.int)) ∈ xw_G := xw_c6 (List.mem_of_getElem? (i := 214) rfl) rfl
theorem dn_C_read_29 : decode bn_C_read 29 = .ok (.aload_n 0, 1) := by decide +kernel
theorem dn_C_read_30 : decode bn_C_read 30 = .ok (.getfield 42, 3) := by decide +kernel
theorem dn_C_read_33 : decode bn_C_read 33 = .ok (.aload_n 1, 1) := by decide +kernel
theorem dn_C_read_34 : decode bn_C_read 34 = .ok (.aload_n 0, 1) := by decide +kernel
theorem dn_C_read_35 : decode bn_C_read 35 = .ok (.getfield 21, 3) := by decide +kernel
theorem dn_C_read_38 : decode bn_C_read 38 = .ok (.getfield 98, 3) := by decide +kernel
theorem dn_C_read_41 : decode bn_C_read 41 = .ok (.invokevirtual 101, 3) := by decide +kernel
theorem dn_C_read_44 : decode bn_C_read 44 = .ok (.aload_n 0, 1) := by decide +kernel
theorem dn_C_read_45 : decode bn_C_read 45 = .ok (.getfield 12, 3) := by decide +kernel
theorem dn_C_read_48 : decode bn_C_read 48 = .ok (.getfield 105, 3) := by decide +kernel
theorem dn_C_read_51 : decode bn_C_read 51 = .ok (.istore_n 2, 1) := by decide +kernel
theorem dn_C_read_52 : decode bn_C_read 52 = .ok (.aload_n 0, 1) := by decide +kernel
theorem dn_C_read_53 : decode bn_C_read 53 = .ok (.aload_n 0, 1) := by decide +kernel
theorem dn_C_read_54 : decode bn_C_read 54 = .ok (.getfield 12, 3) := by decide +kernel
theorem dn_C_read_57 : decode bn_C_read 57 = .ok (.getfield 108, 3) := by decide +kernel
theorem dn_C_read_60 : decode bn_C_read 60 = .ok (.putfield 111, 3) := by decide +kernel
theorem dn_C_read_63 : decode bn_C_read 63 = .ok (.aload_n 0, 1) := by decide +kernel
theorem dn_C_read_64 : decode bn_C_read 64 = .ok (.getfield 111, 3) := by decide +kernel
theorem dn_C_read_67 : decode bn_C_read 67 = .ok (.ifCond .ne 22, 3) := by decide +kernel
theorem dn_C_read_70 : decode bn_C_read 70 = .ok (.aload_n 0, 1) := by decide +kernel
theorem dn_C_read_71 : decode bn_C_read 71 = .ok (.aload_n 0, 1) := by decide +kernel
theorem dn_C_read_72 : decode bn_C_read 72 = .ok (.getfield 28, 3) := by decide +kernel
theorem dn_C_read_75 : decode bn_C_read 75 = .ok (.getfield 112, 3) := by decide +kernel
theorem dn_C_read_78 : decode bn_C_read 78 = .ok (.putfield 111, 3) := by decide +kernel
theorem dn_C_read_81 : decode bn_C_read 81 = .ok (.aload_n 0, 1) := by decide +kernel
theorem dn_C_read_82 : decode bn_C_read 82 = .ok (.getfield 28, 3) := by decide +kernel
theorem dn_C_read_85 : decode bn_C_read 85 = .ok (.getfield 113, 3) := by decide +kernel
theorem dn_C_read_88 : decode bn_C_read 88 = .ok (.istore_n 2, 1) := by decide +kernel
theorem dn_C_read_89 : decode bn_C_read 89 = .ok (.aload_n 0, 1) := by decide +kernel
theorem dn_C_read_90 : decode bn_C_read 90 = .ok (.getfield 111, 3) := by decide +kernel
theorem dn_C_read_93 : decode bn_C_read 93 = .ok (.ifCond .ne 16, 3) := by decide +kernel
theorem dn_C_read_96 : decode bn_C_read 96 = .ok (.aload_n 0, 1) := by decide +kernel
theorem dn_C_read_97 : decode bn_C_read 97 = .ok (.aload_n 1, 1) := by decide +kernel
theorem dn_C_read_98 : decode bn_C_read 98 = .ok (.invokevirtual 114, 3) := by decide +kernel
theorem dn_C_read_101 : decode bn_C_read 101 = .ok (.putfield 111, 3) := by decide +kernel
theorem dn_C_read_104 : decode bn_C_read 104 = .ok (.aload_n 1, 1) := by decide +kernel
theorem dn_C_read_105 : decode bn_C_read 105 = .ok (.invokevirtual 118, 3) := by decide +kernel
theorem dn_C_read_108 : decode bn_C_read 108 = .ok (.istore_n 2, 1) := by decide +kernel
theorem dn_C_read_109 : decode bn_C_read 109 = .ok (.aload_n 0, 1) := by decide +kernel
theorem dn_C_read_110 : decode bn_C_read 110 = .ok (.getfield 111, 3) := by decide +kernel
theorem dn_C_read_113 : decode bn_C_read 113 = .ok (.ifCond .ne 46, 3) := by decide +kernel
theorem dn_C_read_116 : decode bn_C_read 116 = .ok (.aload_n 0, 1) := by decide +kernel
theorem dn_C_read_117 : decode bn_C_read 117 = .ok (.getfield 67, 3) := by decide +kernel
theorem dn_C_read_120 : decode bn_C_read 120 = .ok (.invokevirtual 121, 3) := by decide +kernel
theorem dn_C_read_123 : decode bn_C_read 123 = .ok (.aload_n 0, 1) := by decide +kernel
theorem dn_C_read_124 : decode bn_C_read 124 = .ok (.getfield 49, 3) := by decide +kernel
theorem dn_C_read_127 : decode bn_C_read 127 = .ok (.aload_n 0, 1) := by decide +kernel
theorem dn_C_read_128 : decode bn_C_read 128 = .ok (.getfield 67, 3) := by decide +kernel
theorem dn_C_read_131 : decode bn_C_read 131 = .ok (.invokevirtual 124, 3) := by decide +kernel
theorem dn_C_read_134 : decode bn_C_read 134 = .ok (.istore_n 3, 1) := by decide +kernel
theorem dn_C_read_135 : decode bn_C_read 135 = .ok (.aload_n 0, 1) := by decide +kernel
theorem dn_C_read_136 : decode bn_C_read 136 = .ok (.iload_n 3, 1) := by decide +kernel
theorem dn_C_read_137 : decode bn_C_read 137 = .ok (.iconst (-1), 1) := by decide +kernel
theorem dn_C_read_138 : decode bn_C_read 138 = .ok (.if_icmp .ne 7, 3) := by decide +kernel
theorem dn_C_read_141 : decode bn_C_read 141 = .ok (.iconst 0, 1) := by decide +kernel
theorem dn_C_read_142 : decode bn_C_read 142 = .ok (.goto 5, 3) := by decide +kernel
theorem dn_C_read_145 : decode bn_C_read 145 = .ok (.bipush 45, 2) := by decide +kernel
theorem dn_C_read_147 : decode bn_C_read 147 = .ok (.putfield 111, 3) := by decide +kernel
theorem dn_C_read_150 : decode bn_C_read 150 = .ok (.aload_n 0, 1) := by decide +kernel
theorem dn_C_read_151 : decode bn_C_read 151 = .ok (.getfield 67, 3) := by decide +kernel
theorem dn_C_read_154 : decode bn_C_read 154 = .ok (.iload_n 3, 1) := by decide +kernel
theorem dn_C_read_155 : decode bn_C_read 155 = .ok (.invokevirtual 128, 3) := by decide +kernel
theorem dn_C_read_158 : decode bn_C_read 158 = .ok (.istore_n 2, 1) := by decide +kernel
theorem dn_C_read_159 : decode bn_C_read 159 = .ok (.aload_n 0, 1) := by decide +kernel
theorem dn_C_read_160 : decode bn_C_read 160 = .ok (.getfield 111, 3) := by decide +kernel
theorem dn_C_read_163 : decode bn_C_read 163 = .ok (.ifCond .eq 5, 3) := by decide +kernel
theorem dn_C_read_166 : decode bn_C_read 166 = .ok (.iload_n 2, 1) := by decide +kernel
theorem dn_C_read_167 : decode bn_C_read 167 = .ok (.ireturn, 1) := by decide +kernel
theorem dn_C_read_168 : decode bn_C_read 168 = .ok (.aload_n 0, 1) := by decide +kernel
theorem dn_C_read_169 : decode bn_C_read 169 = .ok (.getfield 63, 3) := by decide +kernel
theorem dn_C_read_172 : decode bn_C_read 172 = .ok (.astore_n 3, 1) := by decide +kernel
theorem dn_C_read_173 : decode bn_C_read 173 = .ok (.aload_n 0, 1) := by decide +kernel
theorem dn_C_read_174 : decode bn_C_read 174 = .ok (.aload_n 0, 1) := by decide +kernel
theorem dn_C_read_175 : decode bn_C_read 175 = .ok (.getfield 67, 3) := by decide +kernel
theorem dn_C_read_178 : decode bn_C_read 178 = .ok (.putfield 63, 3) := by decide +kernel
theorem dn_C_read_181 : decode bn_C_read 181 = .ok (.aload_n 0, 1) := by decide +kernel
theorem dn_C_read_182 : decode bn_C_read 182 = .ok (.aload_n 3, 1) := by decide +kernel
theorem dn_C_read_183 : decode bn_C_read 183 = .ok (.putfield 67, 3) := by decide +kernel
theorem dn_C_read_186 : decode bn_C_read 186 = .ok (.aload_n 0, 1) := by decide +kernel
theorem dn_C_read_187 : decode bn_C_read 187 = .ok (.iconst 1, 1) := by decide +kernel
theorem dn_C_read_188 : decode bn_C_read 188 = .ok (.putfield 132, 3) := by decide +kernel
theorem dn_C_read_191 : decode bn_C_read 191 = .ok (.aload_n 0, 1) := by decide +kernel
theorem dn_C_read_192 : decode bn_C_read 192 = .ok (.getfield 56, 3) := by decide +kernel
theorem dn_C_read_195 : decode bn_C_read 195 = .ok (.aload_n 0, 1) := by decide +kernel
theorem dn_C_read_196 : decode bn_C_read 196 = .ok (.getfield 63, 3) := by decide +kernel
theorem dn_C_read_199 : decode bn_C_read 199 = .ok (.invokevirtual 136, 3) := by decide +kernel
theorem dn_C_read_202 : decode bn_C_read 202 = .ok (.iconst (-1), 1) := by decide +kernel
theorem dn_C_read_203 : decode bn_C_read 203 = .ok (.ireturn, 1) := by decide +kernel
set_option maxHeartbeats 8000000 in
set_option maxRecDepth 100000 in
theorem ct_C_read_C (l : Launch) (dC : Nat → ClassId) (dI : Nat → Nat → Nat) (cI cB cJ cZ cQ : ClassId) (N sz : Nat) (a : Nat → Nat) (v : Nat → Value) (ad : Nat → Nat) (s : ms) (y : (Int32 × ms)) (hf : fn_C_read_C N s = some y) : Met l yn_C_read (xw yn_C_read bn_C_read 4 (some .int)) ({ frames := 10, cells := 0, slots := 0, locals := 229 }) (dc_PS (dC, dI) xcl (xt cI cB cJ cZ cQ) [.ref ((a 100))] sz (wC a v cI cB cJ cZ cQ s) ad) (xk_Qi (dC, dI) xcl (xt cI cB cJ cZ cQ) (fun (r : Int32) (u : ((Nat → Nat) × (Nat → Value))) => r = y.1 ∧ u.1 100 = a 100) (fun u : ((Nat → Nat) × (Nat → Value)) => wC u.1 u.2 cI cB cJ cZ cQ y.2) (va_A (wC a v cI cB cJ cZ cQ s) sz)) 0 0 (va_A (wC a v cI cB cJ cZ cQ s) sz) := by
  refine dc_ofS (ad := ad) (QA := xk_Qi (dC, dI) xcl (xt cI cB cJ cZ cQ) (fun (r : Int32) (u : ((Nat → Nat) × (Nat → Value))) => r = y.1 ∧ u.1 100 = a 100) (fun u : ((Nat → Nat) × (Nat → Value)) => wC u.1 u.2 cI cB cJ cZ cQ y.2)) (by decide) (Nat.le_of_ble_eq_true rfl) ?_
  intro p e s0 m below meth c hx hb hml hown hg hr hlocks hin hP hK hN A hA hD hT hG ls hl
  have hown : s0.vm.findClass rn_C = some m.cls := hown
  obtain ⟨H, hH⟩ : ∃ z, z = s0.heap := ⟨_, rfl⟩
  rw [← hH] at hP
  have hS : va_S A s0.heap H [] := by rw [hH]; exact va_S.rf
  suffices kk : ∀ QQ : State → Prop, QQ = MQ below (xk_Qi (dC, dI) xcl (xt cI cB cJ cZ cQ) (fun (r : Int32) (u : ((Nat → Nat) × (Nat → Value))) => r = y.1 ∧ u.1 100 = a 100) (fun u : ((Nat → Nat) × (Nat → Value)) => wC u.1 u.2 cI cB cJ cZ cQ y.2) A) [.ref ((a 100))].toArray s0 0 0 A → dcC p l e ({ frames := 10, cells := 0, slots := 0, locals := 229 }) s0 m [.ref ((a 100))].toArray below meth c QQ (dC, dI) A (wC a v cI cB cJ cZ cQ s) 0 4 [(0, .ref ((a 100)))] [] by
    have k9 := kk _ rfl H [] ls hP hD hS hl
    rw [hH] at k9; exact k9
  clear hP hD hS hl hH H ls
  intro QQ hQQ
  have bl_159 : ∀ (v : Nat → Value) (x2 : Int32) (s : ms), bk_C_read_C_159 N x2 s = some y → dcC p l e ({ frames := 10, cells := 0, slots := 0, locals := 229 }) s0 m [.ref ((a 100))].toArray below meth c QQ (dC, dI) A (wC a v cI cB cJ cZ cQ s) 159 4 [(0, .ref ((a 100))), (2, .int x2)] [] := by
    intro v x2 s hf H locs ls hP hD hS hl
    unfold bk_C_read_C_159 at hf
    refine lv_aload_n hx hb dn_C_read_159 rfl (lv_at hl 0 rfl) ?_
    refine va_get (D := (dC, dI)) (ci := 1) (v := .int ((s.1 201 0))) (C := rn_C) (T := fn_C) (N := 11) hx hb hg in_C hown hK hP 0 rfl rfl 1 (by decide) (hg _ wn_3_126) (fun _ h9 => h9) rfl dn_C_read_160 ?_
    refine lv_if_eq (tgt := 168) hx hb dn_C_read_163 (by decide) (fun h => ?_) (fun h => ?_)
    · have hf := (if_pos h).symm.trans hf
      refine lv_aload_n hx hb dn_C_read_168 rfl (lv_at hl 0 rfl) ?_
      refine va_get (D := (dC, dI)) (ci := 1) (v := .ref ((a 112))) (C := rn_C) (T := fn_C) (N := 11) hx hb hg in_C hown hK hP 0 rfl rfl 9 (by decide) (hg _ wn_3_134) (fun _ h9 => h9) rfl dn_C_read_169 ?_
      refine lv_astore_n (lv' := [(3, .ref ((a 112))), (0, .ref ((a 100))), (2, .int x2)]) hx hb dn_C_read_172 rfl hl (by decide) rfl (fun ls hl => ?_)
      refine lv_aload_n hx hb dn_C_read_173 rfl (lv_at hl 1 rfl) ?_
      refine lv_aload_n hx hb dn_C_read_174 rfl (lv_at hl 1 rfl) ?_
      refine va_get (D := (dC, dI)) (ci := 1) (v := .ref ((a 108))) (C := rn_C) (T := fn_C) (N := 11) hx hb hg in_C hown hK hP 0 rfl rfl 10 (by decide) (hg _ wn_3_135) (fun _ h9 => h9) rfl dn_C_read_175 ?_
      refine va_put (D := (dC, dI)) (ci := 1) (v := .ref (a 108)) (ty := (.object "CircuitCycles$Circuit")) (C := rn_C) (T := fn_C) (N := 11) hx hb hg in_C tn_C tk_C nn_C hown hK hP hD hS 0 rfl rfl 9 (by decide) (hg _ wn_3_134) (fun _ h9 => h9) rfl (tk_C 9 (by decide)) rfl rfl (Nat.le_of_ble_eq_true rfl) dn_C_read_178 (fun H locs hP hD hS => ?_)
      refine lv_aload_n hx hb dn_C_read_181 rfl (lv_at hl 1 rfl) ?_
      refine lv_aload_n hx hb dn_C_read_182 rfl (lv_at hl 0 rfl) ?_
      refine va_put (D := (dC, dI)) (ci := 1) (v := .ref (a 112)) (ty := (.object "CircuitCycles$Circuit")) (C := rn_C) (T := fn_C) (N := 11) hx hb hg in_C tn_C tk_C nn_C hown hK hP hD hS 0 rfl rfl 10 (by decide) (hg _ wn_3_135) (fun _ h9 => h9) rfl (tk_C 10 (by decide)) rfl rfl (Nat.le_of_ble_eq_true rfl) dn_C_read_183 (fun H locs hP hD hS => ?_)
      have hP := wC_Psw hP
      have hD := wC_Dsw hD
      have hl : lv_has ls 4 [(0, .ref (swA a 100))] := lv_sub hl [1] rfl
      have ha : swA a 100 = a 100 := rfl
      generalize swA a = a at hP hD hl ha
      refine lv_aload_n hx hb dn_C_read_186 rfl (lv_at hl 0 rfl) ?_
      refine lv_iconst (v := 1) hx hb dn_C_read_187 (by decide) ?_
      refine va_put (D := (dC, dI)) (ci := 1) (v := .int 1) (ty := .boolean) (C := rn_C) (T := fn_C) (N := 11) hx hb hg in_C tn_C tk_C nn_C hown hK hP hD hS 0 rfl rfl 8 (by decide) (hg _ wn_3_133) (fun _ h9 => h9) rfl (tk_C 8 (by decide)) rfl rfl (Nat.le_of_ble_eq_true rfl) dn_C_read_188 (fun H locs hP hD hS => ?_)
      have hP := wC_P_208 hP
      have hD := wC_D_208 hD
      refine lv_aload_n hx hb dn_C_read_191 rfl (lv_at hl 0 rfl) ?_
      refine va_get (D := (dC, dI)) (ci := 1) (v := .ref ((a 107))) (C := rn_C) (T := fn_C) (N := 11) hx hb hg in_C hown hK hP 0 rfl rfl 7 (by decide) (hg _ wn_3_132) (fun _ h9 => h9) rfl dn_C_read_192 ?_
      refine lv_aload_n hx hb dn_C_read_195 rfl (lv_at hl 0 rfl) ?_
      refine va_get (D := (dC, dI)) (ci := 1) (v := .ref ((a 112))) (C := rn_C) (T := fn_C) (N := 11) hx hb hg in_C hown hK hP 0 rfl rfl 9 (by decide) (hg _ wn_3_134) (fun _ h9 => h9) rfl dn_C_read_196 ?_
      obtain ⟨q_1, hc_2, hf⟩ := dc_b hf
      refine dc_callv (dc_runV (ar := 1) (As := [.ref ((a 112))]) (rest := []) (ci := 8) (q0 := 7) ⟨hx, hb, hml, hown, hg⟩ hK hN hT hS hA (ct_Machine_restart_Ma_Cc l dC dI cI cB cJ cZ cQ N H.size a v (upI (swS s) 208 (fun _ => 1)) q_1 hc_2) hP hD rfl rfl wn_7_8 wn_7_9 wn_7_10 wn_1_8 wn_7_11 rfl rfl (by decide +kernel) ⟨Nat.le_of_ble_eq_true rfl, Nat.le_of_ble_eq_true rfl⟩ rfl hl.1 rfl (Nat.le_of_ble_eq_true rfl) dn_C_read_199 ⟨Nat.le_of_ble_eq_true rfl, Nat.le_of_ble_eq_true rfl⟩) hP hD hS hA (fun _ H locs hw hP hD hS => ?_)
      refine lv_iconst (v := (-1)) hx hb dn_C_read_202 (by decide) ?_
      rw [hQQ, ← Option.some.inj hf]
      exact xk_iret (w1 := fun u : ((Nat → Nat) × (Nat → Value)) => wC u.1 u.2 cI cB cJ cZ cQ q_1.2) (a, v) hx hb hr hlocks hK hS dn_C_read_203 hP hD ⟨rfl, ha⟩ (Nat.le_refl _) (Nat.le_refl _)
    · have hf := (if_neg h).symm.trans hf
      refine lv_iload_n hx hb dn_C_read_166 rfl (lv_at hl 1 rfl) ?_
      rw [hQQ, ← Option.some.inj hf]
      exact xk_iret (w1 := fun u : ((Nat → Nat) × (Nat → Value)) => wC u.1 u.2 cI cB cJ cZ cQ s) (a, v) hx hb hr hlocks hK hS dn_C_read_167 hP hD ⟨rfl, rfl⟩ (Nat.le_refl _) (Nat.le_refl _)
  have bl_147 : ∀ (v : Nat → Value) (x3 : Int32) (t0 : Int32) (s : ms), bk_C_read_C_147 N x3 t0 s = some y → dcC p l e ({ frames := 10, cells := 0, slots := 0, locals := 229 }) s0 m [.ref ((a 100))].toArray below meth c QQ (dC, dI) A (wC a v cI cB cJ cZ cQ s) 147 4 [(0, .ref ((a 100))), (3, .int x3)] [.int t0, .ref ((a 100))] := by
    intro v x3 t0 s hf H locs ls hP hD hS hl
    unfold bk_C_read_C_147 at hf
    refine va_put (D := (dC, dI)) (ci := 1) (v := .int t0) (ty := .int) (C := rn_C) (T := fn_C) (N := 11) hx hb hg in_C tn_C tk_C nn_C hown hK hP hD hS 0 rfl rfl 1 (by decide) (hg _ wn_3_126) (fun _ h9 => h9) rfl (tk_C 1 (by decide)) rfl rfl (Nat.le_of_ble_eq_true rfl) dn_C_read_147 (fun H locs hP hD hS => ?_)
    have hP := wC_P_201 hP
    have hD := wC_D_201 hD
    refine lv_aload_n hx hb dn_C_read_150 rfl (lv_at hl 0 rfl) ?_
    refine va_get (D := (dC, dI)) (ci := 1) (v := .ref ((a 108))) (C := rn_C) (T := fn_C) (N := 11) hx hb hg in_C hown hK hP 0 rfl rfl 10 (by decide) (hg _ wn_3_135) (fun _ h9 => h9) rfl dn_C_read_151 ?_
    refine lv_iload_n hx hb dn_C_read_154 rfl (lv_at hl 1 rfl) ?_
    obtain ⟨q_1, hc_2, hf⟩ := dc_b hf
    refine dc_calli (dc_runV (ar := 1) (As := [.int x3]) (rest := []) (ci := 9) (q0 := 8) ⟨hx, hb, hml, hown, hg⟩ hK hN hT hS hA (ct_Circuit_placeOf_Cs l dC dI cI cB cJ cZ cQ N H.size a v x3 (upI s 201 (fun _ => t0)) q_1 hc_2) hP hD rfl rfl wn_7_4 wn_7_5 wn_7_6 wn_1_9 wn_7_7 rfl rfl (by decide +kernel) ⟨Nat.le_of_ble_eq_true rfl, Nat.le_of_ble_eq_true rfl⟩ rfl hl.1 rfl (Nat.le_of_ble_eq_true rfl) dn_C_read_155 ⟨Nat.le_of_ble_eq_true rfl, Nat.le_of_ble_eq_true rfl⟩) hP hD hS hA (fun r_3 _ H locs hw hP hD hS => ?_)
    have hw : r_3 = q_1.1 := hw
    subst hw
    refine lv_istore_n (lv' := [(2, .int q_1.1), (0, .ref ((a 100))), (3, .int x3)]) hx hb dn_C_read_158 rfl hl (by decide) rfl (fun ls hl => ?_)
    exact bl_159 v q_1.1 q_1.2 hf H locs ls hP hD hS (lv_sub hl [1, 0] rfl)
  have bl_109 : ∀ (v : Nat → Value) (x2 : Int32) (s : ms), bk_C_read_C_109 N x2 s = some y → dcC p l e ({ frames := 10, cells := 0, slots := 0, locals := 229 }) s0 m [.ref ((a 100))].toArray below meth c QQ (dC, dI) A (wC a v cI cB cJ cZ cQ s) 109 4 [(0, .ref ((a 100))), (2, .int x2)] [] := by
    intro v x2 s hf H locs ls hP hD hS hl
    unfold bk_C_read_C_109 at hf
    refine lv_aload_n hx hb dn_C_read_109 rfl (lv_at hl 0 rfl) ?_
    refine va_get (D := (dC, dI)) (ci := 1) (v := .int ((s.1 201 0))) (C := rn_C) (T := fn_C) (N := 11) hx hb hg in_C hown hK hP 0 rfl rfl 1 (by decide) (hg _ wn_3_126) (fun _ h9 => h9) rfl dn_C_read_110 ?_
    refine lv_if_ne (tgt := 159) hx hb dn_C_read_113 (by decide) (fun h => ?_) (fun h => ?_)
    · have hf := (if_neg h).symm.trans hf
      exact bl_159 v x2 s hf H locs ls hP hD hS hl
    · have hf := (if_pos h).symm.trans hf
      refine lv_aload_n hx hb dn_C_read_116 rfl (lv_at hl 0 rfl) ?_
      refine va_get (D := (dC, dI)) (ci := 1) (v := .ref ((a 108))) (C := rn_C) (T := fn_C) (N := 11) hx hb hg in_C hown hK hP 0 rfl rfl 10 (by decide) (hg _ wn_3_135) (fun _ h9 => h9) rfl dn_C_read_117 ?_
      obtain ⟨q_1, hc_2, hf⟩ := dc_b hf
      refine dc_callv (dc_runV (ar := 0) (As := []) (rest := []) (ci := 9) (q0 := 8) ⟨hx, hb, hml, hown, hg⟩ hK hN hT hS hA (ct_Circuit_build_Cs l dC dI cI cB cJ cZ cQ N H.size a v s q_1 hc_2) hP hD rfl rfl wn_6_172 wn_6_173 wn_6_174 wn_1_9 wn_6_175 rfl rfl (by decide +kernel) ⟨Nat.le_of_ble_eq_true rfl, Nat.le_of_ble_eq_true rfl⟩ rfl hl.1 rfl (Nat.le_of_ble_eq_true rfl) dn_C_read_120 ⟨Nat.le_of_ble_eq_true rfl, Nat.le_of_ble_eq_true rfl⟩) hP hD hS hA (fun _ H locs hw hP hD hS => ?_)
      refine lv_aload_n hx hb dn_C_read_123 rfl (lv_at hl 0 rfl) ?_
      refine va_get (D := (dC, dI)) (ci := 1) (v := .ref ((a 106))) (C := rn_C) (T := fn_C) (N := 11) hx hb hg in_C hown hK hP 0 rfl rfl 6 (by decide) (hg _ wn_3_131) (fun _ h9 => h9) rfl dn_C_read_124 ?_
      refine lv_aload_n hx hb dn_C_read_127 rfl (lv_at hl 0 rfl) ?_
      refine va_get (D := (dC, dI)) (ci := 1) (v := .ref ((a 108))) (C := rn_C) (T := fn_C) (N := 11) hx hb hg in_C hown hK hP 0 rfl rfl 10 (by decide) (hg _ wn_3_135) (fun _ h9 => h9) rfl dn_C_read_128 ?_
      obtain ⟨q_3, hc_4, hf⟩ := dc_b hf
      refine dc_calli (dc_runV (ar := 1) (As := [.ref ((a 108))]) (rest := []) (ci := 7) (q0 := 6) ⟨hx, hb, hml, hown, hg⟩ hK hN hT hS hA (ct_Order_arrange_Or_Cs l dC dI cI cB cJ cZ cQ N H.size a v q_1.2 q_3 hc_4) hP hD rfl rfl wn_6_211 wn_6_212 wn_6_213 wn_1_7 wn_6_214 rfl rfl (by decide +kernel) ⟨Nat.le_of_ble_eq_true rfl, Nat.le_of_ble_eq_true rfl⟩ rfl hl.1 rfl (Nat.le_of_ble_eq_true rfl) dn_C_read_131 ⟨Nat.le_of_ble_eq_true rfl, Nat.le_of_ble_eq_true rfl⟩) hP hD hS hA (fun r_5 _ H locs hw hP hD hS => ?_)
      have hw : r_5 = q_3.1 := hw
      subst hw
      refine lv_istore_n (lv' := [(3, .int q_3.1), (0, .ref ((a 100))), (2, .int x2)]) hx hb dn_C_read_134 rfl hl (by decide) rfl (fun ls hl => ?_)
      refine lv_aload_n hx hb dn_C_read_135 rfl (lv_at hl 1 rfl) ?_
      refine lv_iload_n hx hb dn_C_read_136 rfl (lv_at hl 0 rfl) ?_
      refine lv_iconst (v := (-1)) hx hb dn_C_read_137 (by decide) ?_
      refine lv_icmp_ne (tgt := 145) hx hb dn_C_read_138 (by decide) (fun h => ?_) (fun h => ?_)
      · have hf := (if_neg h).symm.trans hf
        refine lv_bipush (v := 45) hx hb dn_C_read_145 (by decide) ?_
        exact bl_147 ((va_up v 7 (.ref (a 108)))) q_3.1 45 q_3.2 hf H locs ls hP hD hS (lv_sub hl [1, 0] rfl)
      · have hf := (if_pos h).symm.trans hf
        refine lv_iconst (v := 0) hx hb dn_C_read_141 (by decide) ?_
        refine lv_goto (tgt := 147) hx hb dn_C_read_142 (by decide) ?_
        exact bl_147 ((va_up v 7 (.ref (a 108)))) q_3.1 0 q_3.2 hf H locs ls hP hD hS (lv_sub hl [1, 0] rfl)
  have bl_89 : ∀ (v : Nat → Value) (x2 : Int32) (s : ms), bk_C_read_C_89 N x2 s = some y → dcC p l e ({ frames := 10, cells := 0, slots := 0, locals := 229 }) s0 m [.ref ((a 100))].toArray below meth c QQ (dC, dI) A (wC a v cI cB cJ cZ cQ s) 89 4 [(0, .ref ((a 100))), (1, .ref ((a 109))), (2, .int x2)] [] := by
    intro v x2 s hf H locs ls hP hD hS hl
    unfold bk_C_read_C_89 at hf
    refine lv_aload_n hx hb dn_C_read_89 rfl (lv_at hl 0 rfl) ?_
    refine va_get (D := (dC, dI)) (ci := 1) (v := .int ((s.1 201 0))) (C := rn_C) (T := fn_C) (N := 11) hx hb hg in_C hown hK hP 0 rfl rfl 1 (by decide) (hg _ wn_3_126) (fun _ h9 => h9) rfl dn_C_read_90 ?_
    refine lv_if_ne (tgt := 109) hx hb dn_C_read_93 (by decide) (fun h => ?_) (fun h => ?_)
    · have hf := (if_neg h).symm.trans hf
      exact bl_109 v x2 s hf H locs ls hP hD hS (lv_sub hl [0, 2] rfl)
    · have hf := (if_pos h).symm.trans hf
      refine lv_aload_n hx hb dn_C_read_96 rfl (lv_at hl 0 rfl) ?_
      refine lv_aload_n hx hb dn_C_read_97 rfl (lv_at hl 1 rfl) ?_
      obtain ⟨q_1, hc_2, hf⟩ := dc_b hf
      refine dc_calli (dc_runV (ar := 0) (As := []) (rest := [.ref ((a 100))]) (ci := 10) (q0 := 9) ⟨hx, hb, hml, hown, hg⟩ hK hN hT hS hA (ct_Design_excess_Ds l dC dI cI cB cJ cZ cQ N H.size a v s q_1 hc_2) hP hD rfl rfl wn_6_161 wn_6_162 wn_6_163 wn_1_10 wn_6_164 rfl rfl (by decide +kernel) ⟨Nat.le_of_ble_eq_true rfl, Nat.le_of_ble_eq_true rfl⟩ rfl hl.1 rfl (Nat.le_of_ble_eq_true rfl) dn_C_read_98 ⟨Nat.le_of_ble_eq_true rfl, Nat.le_of_ble_eq_true rfl⟩) hP hD hS hA (fun r_3 _ H locs hw hP hD hS => ?_)
      have hw : r_3 = q_1.1 := hw
      subst hw
      refine va_put (D := (dC, dI)) (ci := 1) (v := .int q_1.1) (ty := .int) (C := rn_C) (T := fn_C) (N := 11) hx hb hg in_C tn_C tk_C nn_C hown hK hP hD hS 0 rfl rfl 1 (by decide) (hg _ wn_3_126) (fun _ h9 => h9) rfl (tk_C 1 (by decide)) rfl rfl (Nat.le_of_ble_eq_true rfl) dn_C_read_101 (fun H locs hP hD hS => ?_)
      have hP := wC_P_201 hP
      have hD := wC_D_201 hD
      refine lv_aload_n hx hb dn_C_read_104 rfl (lv_at hl 1 rfl) ?_
      obtain ⟨q_4, hc_5, hf⟩ := dc_b hf
      refine dc_calli (dc_runV (ar := 0) (As := []) (rest := []) (ci := 10) (q0 := 9) ⟨hx, hb, hml, hown, hg⟩ hK hN hT hS hA (ct_Design_topPlace_Ds l dC dI cI cB cJ cZ cQ N H.size a v (upI q_1.2 201 (fun _ => q_1.1)) q_4 hc_5) hP hD rfl rfl wn_6_168 wn_6_169 wn_6_170 wn_1_10 wn_6_171 rfl rfl (by decide +kernel) ⟨Nat.le_of_ble_eq_true rfl, Nat.le_of_ble_eq_true rfl⟩ rfl hl.1 rfl (Nat.le_of_ble_eq_true rfl) dn_C_read_105 ⟨Nat.le_of_ble_eq_true rfl, Nat.le_of_ble_eq_true rfl⟩) hP hD hS hA (fun r_6 _ H locs hw hP hD hS => ?_)
      have hw : r_6 = q_4.1 := hw
      subst hw
      refine lv_istore_n (lv' := [(2, .int q_4.1), (0, .ref ((a 100))), (1, .ref ((a 109)))]) hx hb dn_C_read_108 rfl hl (by decide) rfl (fun ls hl => ?_)
      exact bl_109 v q_4.1 q_4.2 hf H locs ls hP hD hS (lv_sub hl [1, 0] rfl)
  intro H locs ls hP hD hS hl
  unfold fn_C_read_C at hf
  refine lv_aload_n hx hb dn_C_read_0 rfl (lv_at hl 0 rfl) ?_
  refine va_get (D := (dC, dI)) (ci := 1) (v := .ref ((a 108))) (C := rn_C) (T := fn_C) (N := 11) hx hb hg in_C hown hK hP 0 rfl rfl 10 (by decide) (hg _ wn_3_135) (fun _ h9 => h9) rfl dn_C_read_1 ?_
  refine va_get (D := (dC, dI)) (ci := 9) (v := .ref ((a 109))) (C := rn_Circuit) (T := fn_Circuit) (N := 14) hx hb hg in_Circuit hown hK hP 8 rfl rfl 0 (by decide) (hg _ wn_3_62) (fun _ h9 => h9) rfl dn_C_read_4 ?_
  refine lv_astore_n (lv' := [(1, .ref ((a 109))), (0, .ref ((a 100)))]) hx hb dn_C_read_7 rfl hl (by decide) rfl (fun ls hl => ?_)
  refine lv_aload_n hx hb dn_C_read_8 rfl (lv_at hl 0 rfl) ?_
  refine lv_aload_n hx hb dn_C_read_9 rfl (lv_at hl 1 rfl) ?_
  refine va_get (D := (dC, dI)) (ci := 1) (v := .int ((s.1 200 0))) (C := rn_C) (T := fn_C) (N := 11) hx hb hg in_C hown hK hP 0 rfl rfl 0 (by decide) (hg _ wn_3_125) (fun _ h9 => h9) rfl dn_C_read_10 ?_
  obtain ⟨q_1, hc_2, hf⟩ := dc_b hf
  refine dc_callv (dc_runV (ar := 1) (As := [.int ((s.1 200 0))]) (rest := []) (ci := 10) (q0 := 9) ⟨hx, hb, hml, hown, hg⟩ hK hN hT hS hA (ct_Design_clear_Ds l dC dI cI cB cJ cZ cQ N H.size a v ((s.1 200 0)) s q_1 hc_2) hP hD rfl rfl wn_3_163 wn_3_164 wn_3_165 wn_1_10 wn_3_166 rfl rfl (by decide +kernel) ⟨Nat.le_of_ble_eq_true rfl, Nat.le_of_ble_eq_true rfl⟩ rfl hl.1 rfl (Nat.le_of_ble_eq_true rfl) dn_C_read_13 ⟨Nat.le_of_ble_eq_true rfl, Nat.le_of_ble_eq_true rfl⟩) hP hD hS hA (fun _ H locs hw hP hD hS => ?_)
  refine lv_aload_n hx hb dn_C_read_16 rfl (lv_at hl 1 rfl) ?_
  refine lv_iconst (v := 0) hx hb dn_C_read_17 (by decide) ?_
  refine va_put (D := (dC, dI)) (ci := 1) (v := .int 0) (ty := .int) (C := rn_C) (T := fn_C) (N := 11) hx hb hg in_C tn_C tk_C nn_C hown hK hP hD hS 0 rfl rfl 0 (by decide) (hg _ wn_3_125) (fun _ h9 => h9) rfl (tk_C 0 (by decide)) rfl rfl (Nat.le_of_ble_eq_true rfl) dn_C_read_18 (fun H locs hP hD hS => ?_)
  have hP := wC_P_200 hP
  have hD := wC_D_200 hD
  refine lv_aload_n hx hb dn_C_read_21 rfl (lv_at hl 1 rfl) ?_
  refine va_get (D := (dC, dI)) (ci := 1) (v := .ref ((a 102))) (C := rn_C) (T := fn_C) (N := 11) hx hb hg in_C hown hK hP 0 rfl rfl 3 (by decide) (hg _ wn_3_128) (fun _ h9 => h9) rfl dn_C_read_22 ?_
  refine lv_aload_n hx hb dn_C_read_25 rfl (lv_at hl 0 rfl) ?_
  obtain ⟨q_3, hc_4, hf⟩ := dc_b hf
  refine dc_callv (dc_runVS (ar := 1) (As := [.ref ((a 109))]) (rest := []) (ci := 3) (q0 := 2) ⟨hx, hb, hml, hown, hg⟩ hK hN hT hG hS hA (ct_Scanner_scan_Sc_Ds l dC dI cI cB cJ cZ cQ N H.size a v ad (upI q_1.2 200 (fun _ => 0)) q_3 hc_4) hP hD rfl rfl wn_3_178 wn_3_179 wn_3_180 wn_1_3 wn_3_181 rfl rfl (by decide +kernel) ⟨Nat.le_of_ble_eq_true rfl, Nat.le_of_ble_eq_true rfl⟩ rfl hl.1 rfl (Nat.le_of_ble_eq_true rfl) dn_C_read_26 ⟨Nat.le_of_ble_eq_true rfl, Nat.le_of_ble_eq_true rfl⟩) hP hD hS hA (fun _ H locs hw hP hD hS => ?_)
  refine lv_aload_n hx hb dn_C_read_29 rfl (lv_at hl 1 rfl) ?_
  refine va_get (D := (dC, dI)) (ci := 1) (v := .ref ((a 105))) (C := rn_C) (T := fn_C) (N := 11) hx hb hg in_C hown hK hP 0 rfl rfl 5 (by decide) (hg _ wn_3_130) (fun _ h9 => h9) rfl dn_C_read_30 ?_
  refine lv_aload_n hx hb dn_C_read_33 rfl (lv_at hl 0 rfl) ?_
  refine lv_aload_n hx hb dn_C_read_34 rfl (lv_at hl 1 rfl) ?_
  refine va_get (D := (dC, dI)) (ci := 1) (v := .ref ((a 102))) (C := rn_C) (T := fn_C) (N := 11) hx hb hg in_C hown hK hP 0 rfl rfl 3 (by decide) (hg _ wn_3_128) (fun _ h9 => h9) rfl dn_C_read_35 ?_
  refine va_get (D := (dC, dI)) (ci := 3) (v := .int ((q_3.2.1 228 0))) (C := rn_Scanner) (T := fn_Scanner) (N := 9) hx hb hg in_Scanner hown hK hP 2 rfl rfl 8 (by decide) (hg _ wn_1_98) (fun _ h9 => h9) rfl dn_C_read_38 ?_
  obtain ⟨q_5, hc_6, hf⟩ := dc_b hf
  refine dc_callv (dc_runV (ar := 2) (As := [.ref ((a 109)), .int ((q_3.2.1 228 0))]) (rest := []) (ci := 6) (q0 := 5) ⟨hx, hb, hml, hown, hg⟩ hK hN hT hS hA (ct_Grammar_parse_Gr_Ds l dC dI cI cB cJ cZ cQ N H.size a ((va_up (va_up v 0 (.ref (a 307))) 1 (.ref (a 111)))) ((q_3.2.1 228 0)) q_3.2 q_5 hc_6) hP hD rfl rfl wn_4_140 wn_4_141 wn_4_142 wn_1_5 wn_4_143 rfl rfl (by decide +kernel) ⟨Nat.le_of_ble_eq_true rfl, Nat.le_of_ble_eq_true rfl⟩ rfl hl.1 rfl (Nat.le_of_ble_eq_true rfl) dn_C_read_41 ⟨Nat.le_of_ble_eq_true rfl, Nat.le_of_ble_eq_true rfl⟩) hP hD hS hA (fun _ H locs hw hP hD hS => ?_)
  refine lv_aload_n hx hb dn_C_read_44 rfl (lv_at hl 1 rfl) ?_
  refine va_get (D := (dC, dI)) (ci := 1) (v := .ref ((a 101))) (C := rn_C) (T := fn_C) (N := 11) hx hb hg in_C hown hK hP 0 rfl rfl 2 (by decide) (hg _ wn_3_127) (fun _ h9 => h9) rfl dn_C_read_45 ?_
  refine va_get (D := (dC, dI)) (ci := 2) (v := .int ((q_5.2.1 218 0))) (C := rn_Tokens) (T := fn_Tokens) (N := 9) hx hb hg in_Tokens hown hK hP 1 rfl rfl 7 (by decide) (hg _ wn_1_61) (fun _ h9 => h9) rfl dn_C_read_48 ?_
  refine lv_istore_n (lv' := [(2, .int ((q_5.2.1 218 0))), (1, .ref ((a 109))), (0, .ref ((a 100)))]) hx hb dn_C_read_51 rfl hl (by decide) rfl (fun ls hl => ?_)
  refine lv_aload_n hx hb dn_C_read_52 rfl (lv_at hl 2 rfl) ?_
  refine lv_aload_n hx hb dn_C_read_53 rfl (lv_at hl 2 rfl) ?_
  refine va_get (D := (dC, dI)) (ci := 1) (v := .ref ((a 101))) (C := rn_C) (T := fn_C) (N := 11) hx hb hg in_C hown hK hP 0 rfl rfl 2 (by decide) (hg _ wn_3_127) (fun _ h9 => h9) rfl dn_C_read_54 ?_
  refine va_get (D := (dC, dI)) (ci := 2) (v := .int ((q_5.2.1 217 0))) (C := rn_Tokens) (T := fn_Tokens) (N := 9) hx hb hg in_Tokens hown hK hP 1 rfl rfl 6 (by decide) (hg _ wn_1_59) (fun _ h9 => h9) rfl dn_C_read_57 ?_
  refine va_put (D := (dC, dI)) (ci := 1) (v := .int ((q_5.2.1 217 0))) (ty := .int) (C := rn_C) (T := fn_C) (N := 11) hx hb hg in_C tn_C tk_C nn_C hown hK hP hD hS 0 rfl rfl 1 (by decide) (hg _ wn_3_126) (fun _ h9 => h9) rfl (tk_C 1 (by decide)) rfl rfl (Nat.le_of_ble_eq_true rfl) dn_C_read_60 (fun H locs hP hD hS => ?_)
  have hP := wC_P_201 hP
  have hD := wC_D_201 hD
  refine lv_aload_n hx hb dn_C_read_63 rfl (lv_at hl 2 rfl) ?_
  refine va_get (D := (dC, dI)) (ci := 1) (v := .int ((q_5.2.1 217 0))) (C := rn_C) (T := fn_C) (N := 11) hx hb hg in_C hown hK hP 0 rfl rfl 1 (by decide) (hg _ wn_3_126) (fun _ h9 => h9) rfl dn_C_read_64 ?_
  refine lv_if_ne (tgt := 89) hx hb dn_C_read_67 (by decide) (fun h => ?_) (fun h => ?_)
  · have hf := (if_neg h).symm.trans hf
    exact bl_89 ((va_up (va_up (va_up (va_up (va_up (va_up (va_up v 0 (.ref (a 307))) 1 (.ref (a 111))) 2 (.ref (a 110))) 3 (.ref (a 111))) 4 (.ref (a 109))) 5 (.ref (a 110))) 6 (.ref (a 111)))) ((q_5.2.1 218 0)) (upI q_5.2 201 (fun _ => (q_5.2.1 217 0))) hf H locs ls hP hD hS (lv_sub hl [2, 1, 0] rfl)
  · have hf := (if_pos h).symm.trans hf
    refine lv_aload_n hx hb dn_C_read_70 rfl (lv_at hl 2 rfl) ?_
    refine lv_aload_n hx hb dn_C_read_71 rfl (lv_at hl 2 rfl) ?_
    refine va_get (D := (dC, dI)) (ci := 1) (v := .ref ((a 103))) (C := rn_C) (T := fn_C) (N := 11) hx hb hg in_C hown hK hP 0 rfl rfl 4 (by decide) (hg _ wn_3_129) (fun _ h9 => h9) rfl dn_C_read_72 ?_
    refine va_get (D := (dC, dI)) (ci := 4) (v := .int ((q_5.2.1 242 0))) (C := rn_Checker) (T := fn_Checker) (N := 15) hx hb hg in_Checker hown hK hP 3 rfl rfl 13 (by decide) (hg _ wn_1_142) (fun _ h9 => h9) rfl dn_C_read_75 ?_
    refine va_put (D := (dC, dI)) (ci := 1) (v := .int ((q_5.2.1 242 0))) (ty := .int) (C := rn_C) (T := fn_C) (N := 11) hx hb hg in_C tn_C tk_C nn_C hown hK hP hD hS 0 rfl rfl 1 (by decide) (hg _ wn_3_126) (fun _ h9 => h9) rfl (tk_C 1 (by decide)) rfl rfl (Nat.le_of_ble_eq_true rfl) dn_C_read_78 (fun H locs hP hD hS => ?_)
    have hP := wC_P_201 hP
    have hD := wC_D_201 hD
    refine lv_aload_n hx hb dn_C_read_81 rfl (lv_at hl 2 rfl) ?_
    refine va_get (D := (dC, dI)) (ci := 1) (v := .ref ((a 103))) (C := rn_C) (T := fn_C) (N := 11) hx hb hg in_C hown hK hP 0 rfl rfl 4 (by decide) (hg _ wn_3_129) (fun _ h9 => h9) rfl dn_C_read_82 ?_
    refine va_get (D := (dC, dI)) (ci := 4) (v := .int ((q_5.2.1 243 0))) (C := rn_Checker) (T := fn_Checker) (N := 15) hx hb hg in_Checker hown hK hP 3 rfl rfl 14 (by decide) (hg _ wn_1_144) (fun _ h9 => h9) rfl dn_C_read_85 ?_
    refine lv_istore_n (lv' := [(2, .int ((q_5.2.1 243 0))), (1, .ref ((a 109))), (0, .ref ((a 100)))]) hx hb dn_C_read_88 rfl hl (by decide) rfl (fun ls hl => ?_)
    exact bl_89 ((va_up (va_up (va_up (va_up (va_up (va_up (va_up v 0 (.ref (a 307))) 1 (.ref (a 111))) 2 (.ref (a 110))) 3 (.ref (a 111))) 4 (.ref (a 109))) 5 (.ref (a 110))) 6 (.ref (a 111)))) ((q_5.2.1 243 0)) (upI (upI q_5.2 201 (fun _ => (q_5.2.1 217 0))) 201 (fun _ => (q_5.2.1 242 0))) hf H locs ls hP hD hS (lv_sub hl [2, 1, 0] rfl)
