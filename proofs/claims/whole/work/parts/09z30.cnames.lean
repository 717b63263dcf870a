/-! Names of the class. -/
def rn_Long : String := "java/lang/Long"
theorem wn_1_1 : (Jvm.Cond.initialized "CircuitCycles") ∈ xw_G := xw_c1 (List.mem_of_getElem? (i := 1) rfl) rfl
theorem wn_1_2 : (Jvm.Cond.initialized "CircuitCycles$Tokens") ∈ xw_G := xw_c1 (List.mem_of_getElem? (i := 2) rfl) rfl
theorem wn_1_3 : (Jvm.Cond.initialized "CircuitCycles$Scanner") ∈ xw_G := xw_c1 (List.mem_of_getElem? (i := 3) rfl) rfl
theorem wn_1_4 : (Jvm.Cond.initialized "CircuitCycles$Checker") ∈ xw_G := xw_c1 (List.mem_of_getElem? (i := 4) rfl) rfl
theorem wn_1_5 : (Jvm.Cond.initialized "CircuitCycles$Grammar") ∈ xw_G := xw_c1 (List.mem_of_getElem? (i := 5) rfl) rfl
theorem wn_1_6 : (Jvm.Cond.initialized "CircuitCycles$Meaning") ∈ xw_G := xw_c1 (List.mem_of_getElem? (i := 6) rfl) rfl
theorem wn_1_7 : (Jvm.Cond.initialized "CircuitCycles$Order") ∈ xw_G := xw_c1 (List.mem_of_getElem? (i := 7) rfl) rfl
theorem wn_1_8 : (Jvm.Cond.initialized "CircuitCycles$Machine") ∈ xw_G := xw_c1 (List.mem_of_getElem? (i := 8) rfl) rfl
theorem wn_1_9 : (Jvm.Cond.initialized "CircuitCycles$Circuit") ∈ xw_G := xw_c1 (List.mem_of_getElem? (i := 9) rfl) rfl
theorem wn_1_10 : (Jvm.Cond.initialized "CircuitCycles$Design") ∈ xw_G := xw_c1 (List.mem_of_getElem? (i := 10) rfl) rfl
theorem wn_1_11 : (Jvm.Cond.initialized "CircuitCycles$Parts") ∈ xw_G := xw_c1 (List.mem_of_getElem? (i := 11) rfl) rfl
theorem wn_1_12 : (Jvm.Cond.initialized "CircuitCycles$Code") ∈ xw_G := xw_c1 (List.mem_of_getElem? (i := 12) rfl) rfl
theorem wn_1_19 : (Jvm.Cond.initialized "java/lang/Math") ∈ xw_G := xw_c1 (List.mem_of_getElem? (i := 19) rfl) rfl
theorem wn_1_28 : (Jvm.Cond.initialized "java/lang/Long") ∈ xw_G := xw_c1 (List.mem_of_getElem? (i := 28) rfl) rfl
theorem wn_1_29 : (Jvm.Cond.initialized "java/lang/System") ∈ xw_G := xw_c1 (List.mem_of_getElem? (i := 29) rfl) rfl
theorem wn_1_45 : (Jvm.Cond.fieldLink "CircuitCycles$Tokens" (10 : Nat) "CircuitCycles$Tokens" "row" "[J") ∈ xw_G := xw_c1 (List.mem_of_getElem? (i := 45) rfl) rfl
theorem wn_1_46 : (Jvm.Cond.fieldLink "CircuitCycles$Tokens" (16 : Nat) "CircuitCycles$Tokens" "size" "I") ∈ xw_G := xw_c1 (List.mem_of_getElem? (i := 46) rfl) rfl
theorem wn_1_47 : (Jvm.Cond.fieldLink "CircuitCycles$Grammar" (61 : Nat) "CircuitCycles$Tokens" "size" "I") ∈ xw_G := xw_c1 (List.mem_of_getElem? (i := 47) rfl) rfl
theorem wn_1_48 : (Jvm.Cond.fieldLink "CircuitCycles$Tokens" (20 : Nat) "CircuitCycles$Tokens" "index" "I") ∈ xw_G := xw_c1 (List.mem_of_getElem? (i := 48) rfl) rfl
theorem wn_1_49 : (Jvm.Cond.fieldLink "CircuitCycles$Grammar" (180 : Nat) "CircuitCycles$Tokens" "index" "I") ∈ xw_G := xw_c1 (List.mem_of_getElem? (i := 49) rfl) rfl
theorem wn_1_50 : (Jvm.Cond.fieldLink "CircuitCycles$Grammar" (70 : Nat) "CircuitCycles$Tokens" "kind" "I") ∈ xw_G := xw_c1 (List.mem_of_getElem? (i := 50) rfl) rfl
theorem wn_1_51 : (Jvm.Cond.fieldLink "CircuitCycles$Tokens" (39 : Nat) "CircuitCycles$Tokens" "kind" "I") ∈ xw_G := xw_c1 (List.mem_of_getElem? (i := 51) rfl) rfl
theorem wn_1_52 : (Jvm.Cond.fieldLink "CircuitCycles$Grammar" (105 : Nat) "CircuitCycles$Tokens" "place" "I") ∈ xw_G := xw_c1 (List.mem_of_getElem? (i := 52) rfl) rfl
theorem wn_1_53 : (Jvm.Cond.fieldLink "CircuitCycles$Tokens" (43 : Nat) "CircuitCycles$Tokens" "place" "I") ∈ xw_G := xw_c1 (List.mem_of_getElem? (i := 53) rfl) rfl
theorem wn_1_54 : (Jvm.Cond.fieldLink "CircuitCycles$Grammar" (102 : Nat) "CircuitCycles$Tokens" "extra" "I") ∈ xw_G := xw_c1 (List.mem_of_getElem? (i := 54) rfl) rfl
theorem wn_1_55 : (Jvm.Cond.fieldLink "CircuitCycles$Tokens" (49 : Nat) "CircuitCycles$Tokens" "extra" "I") ∈ xw_G := xw_c1 (List.mem_of_getElem? (i := 55) rfl) rfl
theorem wn_1_56 : (Jvm.Cond.fieldLink "CircuitCycles$Grammar" (64 : Nat) "CircuitCycles$Tokens" "faultCode" "I") ∈ xw_G := xw_c1 (List.mem_of_getElem? (i := 56) rfl) rfl
theorem wn_1_57 : (Jvm.Cond.fieldLink "CircuitCycles$Checker" (67 : Nat) "CircuitCycles$Tokens" "faultCode" "I") ∈ xw_G := xw_c1 (List.mem_of_getElem? (i := 57) rfl) rfl
theorem wn_1_58 : (Jvm.Cond.fieldLink "CircuitCycles$Tokens" (26 : Nat) "CircuitCycles$Tokens" "faultCode" "I") ∈ xw_G := xw_c1 (List.mem_of_getElem? (i := 58) rfl) rfl
theorem wn_1_60 : (Jvm.Cond.fieldLink "CircuitCycles$Tokens" (29 : Nat) "CircuitCycles$Tokens" "faultPlace" "I") ∈ xw_G := xw_c1 (List.mem_of_getElem? (i := 60) rfl) rfl
theorem wn_1_62 : (Jvm.Cond.fieldLink "CircuitCycles$Tokens" (23 : Nat) "CircuitCycles$Tokens" "opens" "I") ∈ xw_G := xw_c1 (List.mem_of_getElem? (i := 62) rfl) rfl
theorem wn_1_89 : (Jvm.Cond.fieldLink "CircuitCycles$Scanner" (28 : Nat) "CircuitCycles$Scanner" "tokens" "LCircuitCycles$Tokens;") ∈ xw_G := xw_c1 (List.mem_of_getElem? (i := 89) rfl) rfl
theorem wn_1_90 : (Jvm.Cond.fieldLink "CircuitCycles$Scanner" (9 : Nat) "CircuitCycles$Scanner" "text" "[B") ∈ xw_G := xw_c1 (List.mem_of_getElem? (i := 90) rfl) rfl
theorem wn_1_91 : (Jvm.Cond.fieldLink "CircuitCycles$Scanner" (45 : Nat) "CircuitCycles$Scanner" "length" "I") ∈ xw_G := xw_c1 (List.mem_of_getElem? (i := 91) rfl) rfl
theorem wn_1_92 : (Jvm.Cond.fieldLink "CircuitCycles$Scanner" (50 : Nat) "CircuitCycles$Scanner" "code" "LCircuitCycles$Code;") ∈ xw_G := xw_c1 (List.mem_of_getElem? (i := 92) rfl) rfl
theorem wn_1_93 : (Jvm.Cond.fieldLink "CircuitCycles$Scanner" (15 : Nat) "CircuitCycles$Scanner" "heads" "[I") ∈ xw_G := xw_c1 (List.mem_of_getElem? (i := 93) rfl) rfl
theorem wn_1_94 : (Jvm.Cond.fieldLink "CircuitCycles$Scanner" (19 : Nat) "CircuitCycles$Scanner" "nexts" "[I") ∈ xw_G := xw_c1 (List.mem_of_getElem? (i := 94) rfl) rfl
theorem wn_1_95 : (Jvm.Cond.fieldLink "CircuitCycles$Scanner" (22 : Nat) "CircuitCycles$Scanner" "wordStarts" "[I") ∈ xw_G := xw_c1 (List.mem_of_getElem? (i := 95) rfl) rfl
theorem wn_1_96 : (Jvm.Cond.fieldLink "CircuitCycles$Scanner" (25 : Nat) "CircuitCycles$Scanner" "wordKinds" "[I") ∈ xw_G := xw_c1 (List.mem_of_getElem? (i := 96) rfl) rfl
theorem wn_1_97 : (Jvm.Cond.fieldLink "CircuitCycles$Scanner" (62 : Nat) "CircuitCycles$Scanner" "words" "I") ∈ xw_G := xw_c1 (List.mem_of_getElem? (i := 97) rfl) rfl
theorem wn_1_126 : (Jvm.Cond.fieldLink "CircuitCycles$Checker" (27 : Nat) "CircuitCycles$Checker" "tokens" "LCircuitCycles$Tokens;") ∈ xw_G := xw_c1 (List.mem_of_getElem? (i := 126) rfl) rfl
theorem wn_1_127 : (Jvm.Cond.fieldLink "CircuitCycles$Checker" (37 : Nat) "CircuitCycles$Checker" "parts" "LCircuitCycles$Parts;") ∈ xw_G := xw_c1 (List.mem_of_getElem? (i := 127) rfl) rfl
theorem wn_1_128 : (Jvm.Cond.fieldLink "CircuitCycles$Checker" (42 : Nat) "CircuitCycles$Checker" "code" "LCircuitCycles$Code;") ∈ xw_G := xw_c1 (List.mem_of_getElem? (i := 128) rfl) rfl
theorem wn_1_129 : (Jvm.Cond.fieldLink "CircuitCycles$Checker" (43 : Nat) "CircuitCycles$Checker" "module" "I") ∈ xw_G := xw_c1 (List.mem_of_getElem? (i := 129) rfl) rfl
theorem wn_1_130 : (Jvm.Cond.fieldLink "CircuitCycles$Checker" (61 : Nat) "CircuitCycles$Checker" "firstDecl" "I") ∈ xw_G := xw_c1 (List.mem_of_getElem? (i := 130) rfl) rfl
theorem wn_1_131 : (Jvm.Cond.fieldLink "CircuitCycles$Checker" (9 : Nat) "CircuitCycles$Checker" "modules" "[I") ∈ xw_G := xw_c1 (List.mem_of_getElem? (i := 131) rfl) rfl
theorem wn_1_132 : (Jvm.Cond.fieldLink "CircuitCycles$Checker" (15 : Nat) "CircuitCycles$Checker" "decls" "[I") ∈ xw_G := xw_c1 (List.mem_of_getElem? (i := 132) rfl) rfl
theorem wn_1_133 : (Jvm.Cond.fieldLink "CircuitCycles$Checker" (18 : Nat) "CircuitCycles$Checker" "stamps" "[I") ∈ xw_G := xw_c1 (List.mem_of_getElem? (i := 133) rfl) rfl
theorem wn_1_134 : (Jvm.Cond.fieldLink "CircuitCycles$Checker" (21 : Nat) "CircuitCycles$Checker" "names" "[I") ∈ xw_G := xw_c1 (List.mem_of_getElem? (i := 134) rfl) rfl
theorem wn_1_135 : (Jvm.Cond.fieldLink "CircuitCycles$Checker" (24 : Nat) "CircuitCycles$Checker" "widths" "[I") ∈ xw_G := xw_c1 (List.mem_of_getElem? (i := 135) rfl) rfl
theorem wn_1_136 : (Jvm.Cond.fieldLink "CircuitCycles$Checker" (53 : Nat) "CircuitCycles$Checker" "top" "I") ∈ xw_G := xw_c1 (List.mem_of_getElem? (i := 136) rfl) rfl
theorem wn_1_137 : (Jvm.Cond.fieldLink "CircuitCycles$Meaning" (129 : Nat) "CircuitCycles$Checker" "expStart" "I") ∈ xw_G := xw_c1 (List.mem_of_getElem? (i := 137) rfl) rfl
theorem wn_1_138 : (Jvm.Cond.fieldLink "CircuitCycles$Checker" (91 : Nat) "CircuitCycles$Checker" "expStart" "I") ∈ xw_G := xw_c1 (List.mem_of_getElem? (i := 138) rfl) rfl
theorem wn_1_139 : (Jvm.Cond.fieldLink "CircuitCycles$Checker" (64 : Nat) "CircuitCycles$Checker" "cost" "I") ∈ xw_G := xw_c1 (List.mem_of_getElem? (i := 139) rfl) rfl
theorem wn_1_140 : (Jvm.Cond.fieldLink "CircuitCycles$Meaning" (192 : Nat) "CircuitCycles$Checker" "cost" "I") ∈ xw_G := xw_c1 (List.mem_of_getElem? (i := 140) rfl) rfl
theorem wn_1_141 : (Jvm.Cond.fieldLink "CircuitCycles$Checker" (47 : Nat) "CircuitCycles$Checker" "faultCode" "I") ∈ xw_G := xw_c1 (List.mem_of_getElem? (i := 141) rfl) rfl
theorem wn_1_143 : (Jvm.Cond.fieldLink "CircuitCycles$Checker" (50 : Nat) "CircuitCycles$Checker" "faultPlace" "I") ∈ xw_G := xw_c1 (List.mem_of_getElem? (i := 143) rfl) rfl
theorem wn_1_184 : (Jvm.Cond.fieldLink "CircuitCycles$Meaning" (24 : Nat) "CircuitCycles$Meaning" "checker" "LCircuitCycles$Checker;") ∈ xw_G := xw_c1 (List.mem_of_getElem? (i := 184) rfl) rfl
theorem wn_1_185 : (Jvm.Cond.fieldLink "CircuitCycles$Meaning" (28 : Nat) "CircuitCycles$Meaning" "design" "LCircuitCycles$Design;") ∈ xw_G := xw_c1 (List.mem_of_getElem? (i := 185) rfl) rfl
theorem wn_1_186 : (Jvm.Cond.fieldLink "CircuitCycles$Meaning" (38 : Nat) "CircuitCycles$Meaning" "parts" "LCircuitCycles$Parts;") ∈ xw_G := xw_c1 (List.mem_of_getElem? (i := 186) rfl) rfl
theorem wn_1_187 : (Jvm.Cond.fieldLink "CircuitCycles$Meaning" (43 : Nat) "CircuitCycles$Meaning" "code" "LCircuitCycles$Code;") ∈ xw_G := xw_c1 (List.mem_of_getElem? (i := 187) rfl) rfl
theorem wn_1_188 : (Jvm.Cond.fieldLink "CircuitCycles$Meaning" (44 : Nat) "CircuitCycles$Meaning" "rangeWidth" "I") ∈ xw_G := xw_c1 (List.mem_of_getElem? (i := 188) rfl) rfl
theorem wn_1_189 : (Jvm.Cond.fieldLink "CircuitCycles$Meaning" (116 : Nat) "CircuitCycles$Meaning" "target" "I") ∈ xw_G := xw_c1 (List.mem_of_getElem? (i := 189) rfl) rfl
theorem wn_1_190 : (Jvm.Cond.fieldLink "CircuitCycles$Meaning" (205 : Nat) "CircuitCycles$Meaning" "targetLow" "I") ∈ xw_G := xw_c1 (List.mem_of_getElem? (i := 190) rfl) rfl
theorem wn_1_191 : (Jvm.Cond.fieldLink "CircuitCycles$Meaning" (208 : Nat) "CircuitCycles$Meaning" "targetWidth" "I") ∈ xw_G := xw_c1 (List.mem_of_getElem? (i := 191) rfl) rfl
theorem wn_1_192 : (Jvm.Cond.fieldLink "CircuitCycles$Meaning" (161 : Nat) "CircuitCycles$Meaning" "port" "I") ∈ xw_G := xw_c1 (List.mem_of_getElem? (i := 192) rfl) rfl
theorem wn_1_193 : (Jvm.Cond.fieldLink "CircuitCycles$Meaning" (48 : Nat) "CircuitCycles$Meaning" "alwaysNumber" "I") ∈ xw_G := xw_c1 (List.mem_of_getElem? (i := 193) rfl) rfl
theorem wn_1_194 : (Jvm.Cond.fieldLink "CircuitCycles$Meaning" (198 : Nat) "CircuitCycles$Meaning" "alwaysStart" "I") ∈ xw_G := xw_c1 (List.mem_of_getElem? (i := 194) rfl) rfl
theorem wn_1_195 : (Jvm.Cond.fieldLink "CircuitCycles$Meaning" (201 : Nat) "CircuitCycles$Meaning" "stores" "Z") ∈ xw_G := xw_c1 (List.mem_of_getElem? (i := 195) rfl) rfl
theorem wn_1_196 : (Jvm.Cond.fieldLink "CircuitCycles$Meaning" (9 : Nat) "CircuitCycles$Meaning" "jumps" "[I") ∈ xw_G := xw_c1 (List.mem_of_getElem? (i := 196) rfl) rfl
theorem wn_1_197 : (Jvm.Cond.fieldLink "CircuitCycles$Meaning" (15 : Nat) "CircuitCycles$Meaning" "exits" "[I") ∈ xw_G := xw_c1 (List.mem_of_getElem? (i := 197) rfl) rfl
theorem wn_1_198 : (Jvm.Cond.fieldLink "CircuitCycles$Meaning" (18 : Nat) "CircuitCycles$Meaning" "matches" "[I") ∈ xw_G := xw_c1 (List.mem_of_getElem? (i := 198) rfl) rfl
theorem wn_1_199 : (Jvm.Cond.fieldLink "CircuitCycles$Meaning" (21 : Nat) "CircuitCycles$Meaning" "widths" "[I") ∈ xw_G := xw_c1 (List.mem_of_getElem? (i := 199) rfl) rfl
theorem wn_1_200 : (Jvm.Cond.fieldLink "CircuitCycles$Meaning" (51 : Nat) "CircuitCycles$Meaning" "depth" "I") ∈ xw_G := xw_c1 (List.mem_of_getElem? (i := 200) rfl) rfl
theorem wn_2_0 : (Jvm.Cond.fieldLink "CircuitCycles$Grammar" (24 : Nat) "CircuitCycles$Grammar" "tokens" "LCircuitCycles$Tokens;") ∈ xw_G := xw_c2 (List.mem_of_getElem? (i := 0) rfl) rfl
theorem wn_2_1 : (Jvm.Cond.fieldLink "CircuitCycles$Grammar" (28 : Nat) "CircuitCycles$Grammar" "checker" "LCircuitCycles$Checker;") ∈ xw_G := xw_c2 (List.mem_of_getElem? (i := 1) rfl) rfl
theorem wn_2_2 : (Jvm.Cond.fieldLink "CircuitCycles$Grammar" (32 : Nat) "CircuitCycles$Grammar" "meaning" "LCircuitCycles$Meaning;") ∈ xw_G := xw_c2 (List.mem_of_getElem? (i := 2) rfl) rfl
theorem wn_2_3 : (Jvm.Cond.fieldLink "CircuitCycles$Grammar" (58 : Nat) "CircuitCycles$Grammar" "state" "I") ∈ xw_G := xw_c2 (List.mem_of_getElem? (i := 3) rfl) rfl
theorem wn_2_4 : (Jvm.Cond.fieldLink "CircuitCycles$Grammar" (249 : Nat) "CircuitCycles$Grammar" "purpose" "I") ∈ xw_G := xw_c2 (List.mem_of_getElem? (i := 4) rfl) rfl
theorem wn_2_5 : (Jvm.Cond.fieldLink "CircuitCycles$Grammar" (161 : Nat) "CircuitCycles$Grammar" "signPlace" "I") ∈ xw_G := xw_c2 (List.mem_of_getElem? (i := 5) rfl) rfl
theorem wn_2_6 : (Jvm.Cond.fieldLink "CircuitCycles$Grammar" (174 : Nat) "CircuitCycles$Grammar" "linkPlace" "I") ∈ xw_G := xw_c2 (List.mem_of_getElem? (i := 6) rfl) rfl
theorem wn_2_7 : (Jvm.Cond.fieldLink "CircuitCycles$Grammar" (190 : Nat) "CircuitCycles$Grammar" "expPlace" "I") ∈ xw_G := xw_c2 (List.mem_of_getElem? (i := 7) rfl) rfl
theorem wn_2_8 : (Jvm.Cond.fieldLink "CircuitCycles$Grammar" (183 : Nat) "CircuitCycles$Grammar" "expIndex" "I") ∈ xw_G := xw_c2 (List.mem_of_getElem? (i := 8) rfl) rfl
theorem wn_2_9 : (Jvm.Cond.fieldLink "CircuitCycles$Grammar" (9 : Nat) "CircuitCycles$Grammar" "contexts" "[I") ∈ xw_G := xw_c2 (List.mem_of_getElem? (i := 9) rfl) rfl
theorem wn_2_10 : (Jvm.Cond.fieldLink "CircuitCycles$Grammar" (55 : Nat) "CircuitCycles$Grammar" "depth" "I") ∈ xw_G := xw_c2 (List.mem_of_getElem? (i := 10) rfl) rfl
theorem wn_2_11 : (Jvm.Cond.fieldLink "CircuitCycles$Grammar" (15 : Nat) "CircuitCycles$Grammar" "heldKinds" "[I") ∈ xw_G := xw_c2 (List.mem_of_getElem? (i := 11) rfl) rfl
theorem wn_2_12 : (Jvm.Cond.fieldLink "CircuitCycles$Grammar" (18 : Nat) "CircuitCycles$Grammar" "heldPlaces" "[I") ∈ xw_G := xw_c2 (List.mem_of_getElem? (i := 12) rfl) rfl
theorem wn_2_13 : (Jvm.Cond.fieldLink "CircuitCycles$Grammar" (21 : Nat) "CircuitCycles$Grammar" "heldTimes" "[I") ∈ xw_G := xw_c2 (List.mem_of_getElem? (i := 13) rfl) rfl
theorem wn_2_14 : (Jvm.Cond.fieldLink "CircuitCycles$Grammar" (51 : Nat) "CircuitCycles$Grammar" "held" "I") ∈ xw_G := xw_c2 (List.mem_of_getElem? (i := 14) rfl) rfl
theorem wn_2_52 : (Jvm.Cond.fieldLink "CircuitCycles$Order" (27 : Nat) "CircuitCycles$Order" "circuit" "LCircuitCycles$Circuit;") ∈ xw_G := xw_c2 (List.mem_of_getElem? (i := 52) rfl) rfl
theorem wn_2_53 : (Jvm.Cond.fieldLink "CircuitCycles$Order" (9 : Nat) "CircuitCycles$Order" "numbers" "[I") ∈ xw_G := xw_c2 (List.mem_of_getElem? (i := 53) rfl) rfl
theorem wn_2_54 : (Jvm.Cond.fieldLink "CircuitCycles$Order" (15 : Nat) "CircuitCycles$Order" "lowest" "[I") ∈ xw_G := xw_c2 (List.mem_of_getElem? (i := 54) rfl) rfl
theorem wn_2_55 : (Jvm.Cond.fieldLink "CircuitCycles$Order" (18 : Nat) "CircuitCycles$Order" "cursors" "[I") ∈ xw_G := xw_c2 (List.mem_of_getElem? (i := 55) rfl) rfl
theorem wn_2_56 : (Jvm.Cond.fieldLink "CircuitCycles$Order" (21 : Nat) "CircuitCycles$Order" "path" "[I") ∈ xw_G := xw_c2 (List.mem_of_getElem? (i := 56) rfl) rfl
theorem wn_2_57 : (Jvm.Cond.fieldLink "CircuitCycles$Order" (24 : Nat) "CircuitCycles$Order" "open" "[I") ∈ xw_G := xw_c2 (List.mem_of_getElem? (i := 57) rfl) rfl
theorem wn_2_58 : (Jvm.Cond.fieldLink "CircuitCycles$Order" (40 : Nat) "CircuitCycles$Order" "pathSize" "I") ∈ xw_G := xw_c2 (List.mem_of_getElem? (i := 58) rfl) rfl
theorem wn_2_59 : (Jvm.Cond.fieldLink "CircuitCycles$Order" (43 : Nat) "CircuitCycles$Order" "openSize" "I") ∈ xw_G := xw_c2 (List.mem_of_getElem? (i := 59) rfl) rfl
theorem wn_2_60 : (Jvm.Cond.fieldLink "CircuitCycles$Order" (46 : Nat) "CircuitCycles$Order" "seen" "I") ∈ xw_G := xw_c2 (List.mem_of_getElem? (i := 60) rfl) rfl
theorem wn_2_61 : (Jvm.Cond.fieldLink "CircuitCycles$Order" (50 : Nat) "CircuitCycles$Order" "looped" "I") ∈ xw_G := xw_c2 (List.mem_of_getElem? (i := 61) rfl) rfl
theorem wn_2_89 : (Jvm.Cond.fieldLink "CircuitCycles$Machine" (9 : Nat) "CircuitCycles$Machine" "values" "[J") ∈ xw_G := xw_c2 (List.mem_of_getElem? (i := 89) rfl) rfl
theorem wn_2_90 : (Jvm.Cond.fieldLink "CircuitCycles$Machine" (15 : Nat) "CircuitCycles$Machine" "nexts" "[J") ∈ xw_G := xw_c2 (List.mem_of_getElem? (i := 90) rfl) rfl
theorem wn_2_91 : (Jvm.Cond.fieldLink "CircuitCycles$Machine" (18 : Nat) "CircuitCycles$Machine" "stack" "[J") ∈ xw_G := xw_c2 (List.mem_of_getElem? (i := 91) rfl) rfl
theorem wn_2_92 : (Jvm.Cond.fieldLink "CircuitCycles$Machine" (31 : Nat) "CircuitCycles$Machine" "cycle" "I") ∈ xw_G := xw_c2 (List.mem_of_getElem? (i := 92) rfl) rfl
theorem wn_2_93 : (Jvm.Cond.fieldLink "CircuitCycles$Machine" (34 : Nat) "CircuitCycles$Machine" "settled" "Z") ∈ xw_G := xw_c2 (List.mem_of_getElem? (i := 93) rfl) rfl
theorem wn_2_123 : (Jvm.Cond.fieldLink "CircuitCycles$Parts" (49 : Nat) "CircuitCycles$Parts" "declCount" "I") ∈ xw_G := xw_c2 (List.mem_of_getElem? (i := 123) rfl) rfl
theorem wn_2_124 : (Jvm.Cond.fieldLink "CircuitCycles$Design" (83 : Nat) "CircuitCycles$Parts" "declCount" "I") ∈ xw_G := xw_c2 (List.mem_of_getElem? (i := 124) rfl) rfl
theorem wn_2_125 : (Jvm.Cond.fieldLink "CircuitCycles$Checker" (56 : Nat) "CircuitCycles$Parts" "declCount" "I") ∈ xw_G := xw_c2 (List.mem_of_getElem? (i := 125) rfl) rfl
theorem wn_2_126 : (Jvm.Cond.fieldLink "CircuitCycles$Meaning" (81 : Nat) "CircuitCycles$Parts" "declCount" "I") ∈ xw_G := xw_c2 (List.mem_of_getElem? (i := 126) rfl) rfl
theorem wn_2_127 : (Jvm.Cond.fieldLink "CircuitCycles$Parts" (9 : Nat) "CircuitCycles$Parts" "places" "[I") ∈ xw_G := xw_c2 (List.mem_of_getElem? (i := 127) rfl) rfl
theorem wn_2_128 : (Jvm.Cond.fieldLink "CircuitCycles$Circuit" (127 : Nat) "CircuitCycles$Parts" "places" "[I") ∈ xw_G := xw_c2 (List.mem_of_getElem? (i := 128) rfl) rfl
theorem wn_2_129 : (Jvm.Cond.fieldLink "CircuitCycles$Meaning" (189 : Nat) "CircuitCycles$Parts" "places" "[I") ∈ xw_G := xw_c2 (List.mem_of_getElem? (i := 129) rfl) rfl
theorem wn_2_130 : (Jvm.Cond.fieldLink "CircuitCycles$Parts" (15 : Nat) "CircuitCycles$Parts" "widths" "[I") ∈ xw_G := xw_c2 (List.mem_of_getElem? (i := 130) rfl) rfl
theorem wn_2_131 : (Jvm.Cond.fieldLink "CircuitCycles$Meaning" (98 : Nat) "CircuitCycles$Parts" "widths" "[I") ∈ xw_G := xw_c2 (List.mem_of_getElem? (i := 131) rfl) rfl
theorem wn_2_132 : (Jvm.Cond.fieldLink "CircuitCycles$Circuit" (124 : Nat) "CircuitCycles$Parts" "widths" "[I") ∈ xw_G := xw_c2 (List.mem_of_getElem? (i := 132) rfl) rfl
theorem wn_2_133 : (Jvm.Cond.fieldLink "CircuitCycles$Design" (102 : Nat) "CircuitCycles$Parts" "widths" "[I") ∈ xw_G := xw_c2 (List.mem_of_getElem? (i := 133) rfl) rfl
theorem wn_2_134 : (Jvm.Cond.fieldLink "CircuitCycles$Checker" (119 : Nat) "CircuitCycles$Parts" "widths" "[I") ∈ xw_G := xw_c2 (List.mem_of_getElem? (i := 134) rfl) rfl
theorem wn_2_135 : (Jvm.Cond.fieldLink "CircuitCycles$Parts" (18 : Nat) "CircuitCycles$Parts" "sorts" "[I") ∈ xw_G := xw_c2 (List.mem_of_getElem? (i := 135) rfl) rfl
theorem wn_2_136 : (Jvm.Cond.fieldLink "CircuitCycles$Circuit" (100 : Nat) "CircuitCycles$Parts" "sorts" "[I") ∈ xw_G := xw_c2 (List.mem_of_getElem? (i := 136) rfl) rfl
theorem wn_2_137 : (Jvm.Cond.fieldLink "CircuitCycles$Checker" (76 : Nat) "CircuitCycles$Parts" "sorts" "[I") ∈ xw_G := xw_c2 (List.mem_of_getElem? (i := 137) rfl) rfl
theorem wn_2_138 : (Jvm.Cond.fieldLink "CircuitCycles$Design" (99 : Nat) "CircuitCycles$Parts" "sorts" "[I") ∈ xw_G := xw_c2 (List.mem_of_getElem? (i := 138) rfl) rfl
theorem wn_2_139 : (Jvm.Cond.fieldLink "CircuitCycles$Meaning" (186 : Nat) "CircuitCycles$Parts" "sorts" "[I") ∈ xw_G := xw_c2 (List.mem_of_getElem? (i := 139) rfl) rfl
theorem wn_2_140 : (Jvm.Cond.fieldLink "CircuitCycles$Parts" (21 : Nat) "CircuitCycles$Parts" "firsts" "[J") ∈ xw_G := xw_c2 (List.mem_of_getElem? (i := 140) rfl) rfl
theorem wn_2_141 : (Jvm.Cond.fieldLink "CircuitCycles$Meaning" (99 : Nat) "CircuitCycles$Parts" "firsts" "[J") ∈ xw_G := xw_c2 (List.mem_of_getElem? (i := 141) rfl) rfl
theorem wn_2_142 : (Jvm.Cond.fieldLink "CircuitCycles$Circuit" (130 : Nat) "CircuitCycles$Parts" "firsts" "[J") ∈ xw_G := xw_c2 (List.mem_of_getElem? (i := 142) rfl) rfl
theorem wn_2_143 : (Jvm.Cond.fieldLink "CircuitCycles$Parts" (25 : Nat) "CircuitCycles$Parts" "starts" "[I") ∈ xw_G := xw_c2 (List.mem_of_getElem? (i := 143) rfl) rfl
theorem wn_2_144 : (Jvm.Cond.fieldLink "CircuitCycles$Circuit" (103 : Nat) "CircuitCycles$Parts" "starts" "[I") ∈ xw_G := xw_c2 (List.mem_of_getElem? (i := 144) rfl) rfl
theorem wn_2_145 : (Jvm.Cond.fieldLink "CircuitCycles$Meaning" (110 : Nat) "CircuitCycles$Parts" "starts" "[I") ∈ xw_G := xw_c2 (List.mem_of_getElem? (i := 145) rfl) rfl
theorem wn_2_146 : (Jvm.Cond.fieldLink "CircuitCycles$Parts" (28 : Nat) "CircuitCycles$Parts" "stops" "[I") ∈ xw_G := xw_c2 (List.mem_of_getElem? (i := 146) rfl) rfl
theorem wn_2_147 : (Jvm.Cond.fieldLink "CircuitCycles$Circuit" (104 : Nat) "CircuitCycles$Parts" "stops" "[I") ∈ xw_G := xw_c2 (List.mem_of_getElem? (i := 147) rfl) rfl
theorem wn_2_148 : (Jvm.Cond.fieldLink "CircuitCycles$Meaning" (123 : Nat) "CircuitCycles$Parts" "stops" "[I") ∈ xw_G := xw_c2 (List.mem_of_getElem? (i := 148) rfl) rfl
theorem wn_2_149 : (Jvm.Cond.fieldLink "CircuitCycles$Parts" (53 : Nat) "CircuitCycles$Parts" "childCount" "I") ∈ xw_G := xw_c2 (List.mem_of_getElem? (i := 149) rfl) rfl
theorem wn_2_150 : (Jvm.Cond.fieldLink "CircuitCycles$Design" (86 : Nat) "CircuitCycles$Parts" "childCount" "I") ∈ xw_G := xw_c2 (List.mem_of_getElem? (i := 150) rfl) rfl
theorem wn_2_151 : (Jvm.Cond.fieldLink "CircuitCycles$Meaning" (142 : Nat) "CircuitCycles$Parts" "childCount" "I") ∈ xw_G := xw_c2 (List.mem_of_getElem? (i := 151) rfl) rfl
theorem wn_2_152 : (Jvm.Cond.fieldLink "CircuitCycles$Parts" (31 : Nat) "CircuitCycles$Parts" "childModules" "[I") ∈ xw_G := xw_c2 (List.mem_of_getElem? (i := 152) rfl) rfl
theorem wn_2_153 : (Jvm.Cond.fieldLink "CircuitCycles$Circuit" (92 : Nat) "CircuitCycles$Parts" "childModules" "[I") ∈ xw_G := xw_c2 (List.mem_of_getElem? (i := 153) rfl) rfl
theorem wn_2_154 : (Jvm.Cond.fieldLink "CircuitCycles$Meaning" (148 : Nat) "CircuitCycles$Parts" "childModules" "[I") ∈ xw_G := xw_c2 (List.mem_of_getElem? (i := 154) rfl) rfl
theorem wn_2_155 : (Jvm.Cond.fieldLink "CircuitCycles$Design" (108 : Nat) "CircuitCycles$Parts" "childModules" "[I") ∈ xw_G := xw_c2 (List.mem_of_getElem? (i := 155) rfl) rfl
theorem wn_2_156 : (Jvm.Cond.fieldLink "CircuitCycles$Parts" (34 : Nat) "CircuitCycles$Parts" "childPlaces" "[I") ∈ xw_G := xw_c2 (List.mem_of_getElem? (i := 156) rfl) rfl
theorem wn_2_157 : (Jvm.Cond.fieldLink "CircuitCycles$Meaning" (145 : Nat) "CircuitCycles$Parts" "childPlaces" "[I") ∈ xw_G := xw_c2 (List.mem_of_getElem? (i := 157) rfl) rfl
theorem wn_2_158 : (Jvm.Cond.fieldLink "CircuitCycles$Circuit" (141 : Nat) "CircuitCycles$Parts" "childPlaces" "[I") ∈ xw_G := xw_c2 (List.mem_of_getElem? (i := 158) rfl) rfl
theorem wn_2_159 : (Jvm.Cond.fieldLink "CircuitCycles$Parts" (37 : Nat) "CircuitCycles$Parts" "firstLinks" "[I") ∈ xw_G := xw_c2 (List.mem_of_getElem? (i := 159) rfl) rfl
theorem wn_2_160 : (Jvm.Cond.fieldLink "CircuitCycles$Circuit" (108 : Nat) "CircuitCycles$Parts" "firstLinks" "[I") ∈ xw_G := xw_c2 (List.mem_of_getElem? (i := 160) rfl) rfl
theorem wn_2_161 : (Jvm.Cond.fieldLink "CircuitCycles$Meaning" (183 : Nat) "CircuitCycles$Parts" "firstLinks" "[I") ∈ xw_G := xw_c2 (List.mem_of_getElem? (i := 161) rfl) rfl
theorem wn_2_162 : (Jvm.Cond.fieldLink "CircuitCycles$Parts" (56 : Nat) "CircuitCycles$Parts" "linkCount" "I") ∈ xw_G := xw_c2 (List.mem_of_getElem? (i := 162) rfl) rfl
theorem wn_2_163 : (Jvm.Cond.fieldLink "CircuitCycles$Meaning" (171 : Nat) "CircuitCycles$Parts" "linkCount" "I") ∈ xw_G := xw_c2 (List.mem_of_getElem? (i := 163) rfl) rfl
theorem wn_2_164 : (Jvm.Cond.fieldLink "CircuitCycles$Parts" (40 : Nat) "CircuitCycles$Parts" "linkPorts" "[I") ∈ xw_G := xw_c2 (List.mem_of_getElem? (i := 164) rfl) rfl
theorem wn_2_165 : (Jvm.Cond.fieldLink "CircuitCycles$Circuit" (111 : Nat) "CircuitCycles$Parts" "linkPorts" "[I") ∈ xw_G := xw_c2 (List.mem_of_getElem? (i := 165) rfl) rfl
theorem wn_2_166 : (Jvm.Cond.fieldLink "CircuitCycles$Parts" (43 : Nat) "CircuitCycles$Parts" "linkStarts" "[I") ∈ xw_G := xw_c2 (List.mem_of_getElem? (i := 166) rfl) rfl
theorem wn_2_167 : (Jvm.Cond.fieldLink "CircuitCycles$Circuit" (114 : Nat) "CircuitCycles$Parts" "linkStarts" "[I") ∈ xw_G := xw_c2 (List.mem_of_getElem? (i := 167) rfl) rfl
theorem wn_2_168 : (Jvm.Cond.fieldLink "CircuitCycles$Meaning" (174 : Nat) "CircuitCycles$Parts" "linkStarts" "[I") ∈ xw_G := xw_c2 (List.mem_of_getElem? (i := 168) rfl) rfl
theorem wn_2_169 : (Jvm.Cond.fieldLink "CircuitCycles$Parts" (46 : Nat) "CircuitCycles$Parts" "linkStops" "[I") ∈ xw_G := xw_c2 (List.mem_of_getElem? (i := 169) rfl) rfl
theorem wn_2_170 : (Jvm.Cond.fieldLink "CircuitCycles$Circuit" (121 : Nat) "CircuitCycles$Parts" "linkStops" "[I") ∈ xw_G := xw_c2 (List.mem_of_getElem? (i := 170) rfl) rfl
theorem wn_2_171 : (Jvm.Cond.fieldLink "CircuitCycles$Meaning" (177 : Nat) "CircuitCycles$Parts" "linkStops" "[I") ∈ xw_G := xw_c2 (List.mem_of_getElem? (i := 171) rfl) rfl
theorem wn_2_209 : (Jvm.Cond.constant "CircuitCycles$Code" (9 : Nat) (65537 : Int32)) ∈ xw_G := xw_c2 (List.mem_of_getElem? (i := 209) rfl) rfl
theorem wn_2_210 : (Jvm.Cond.fieldLink "CircuitCycles$Code" (10 : Nat) "CircuitCycles$Code" "row" "[J") ∈ xw_G := xw_c2 (List.mem_of_getElem? (i := 210) rfl) rfl
theorem wn_2_211 : (Jvm.Cond.fieldLink "CircuitCycles$Code" (23 : Nat) "CircuitCycles$Code" "size" "I") ∈ xw_G := xw_c2 (List.mem_of_getElem? (i := 211) rfl) rfl
theorem wn_2_212 : (Jvm.Cond.fieldLink "CircuitCycles$Design" (89 : Nat) "CircuitCycles$Code" "size" "I") ∈ xw_G := xw_c2 (List.mem_of_getElem? (i := 212) rfl) rfl
theorem wn_2_213 : (Jvm.Cond.fieldLink "CircuitCycles$Order" (93 : Nat) "CircuitCycles$Code" "size" "I") ∈ xw_G := xw_c2 (List.mem_of_getElem? (i := 213) rfl) rfl
theorem wn_2_214 : (Jvm.Cond.fieldLink "CircuitCycles$Meaning" (113 : Nat) "CircuitCycles$Code" "size" "I") ∈ xw_G := xw_c2 (List.mem_of_getElem? (i := 214) rfl) rfl
theorem wn_2_215 : (Jvm.Cond.fieldLink "CircuitCycles$Machine" (107 : Nat) "CircuitCycles$Code" "size" "I") ∈ xw_G := xw_c2 (List.mem_of_getElem? (i := 215) rfl) rfl
theorem wn_2_216 : (Jvm.Cond.fieldLink "CircuitCycles$Checker" (86 : Nat) "CircuitCycles$Code" "size" "I") ∈ xw_G := xw_c2 (List.mem_of_getElem? (i := 216) rfl) rfl
theorem wn_2_217 : (Jvm.Cond.fieldLink "CircuitCycles$Code" (16 : Nat) "CircuitCycles$Code" "literalWidths" "[I") ∈ xw_G := xw_c2 (List.mem_of_getElem? (i := 217) rfl) rfl
theorem wn_2_218 : (Jvm.Cond.fieldLink "CircuitCycles$Code" (20 : Nat) "CircuitCycles$Code" "literals" "[J") ∈ xw_G := xw_c2 (List.mem_of_getElem? (i := 218) rfl) rfl
theorem wn_2_219 : (Jvm.Cond.fieldLink "CircuitCycles$Code" (27 : Nat) "CircuitCycles$Code" "literalCount" "I") ∈ xw_G := xw_c2 (List.mem_of_getElem? (i := 219) rfl) rfl
theorem wn_2_234 : (Jvm.Cond.fieldLink "CircuitCycles$Design" (12 : Nat) "CircuitCycles$Design" "parts" "LCircuitCycles$Parts;") ∈ xw_G := xw_c2 (List.mem_of_getElem? (i := 234) rfl) rfl
theorem wn_2_235 : (Jvm.Cond.fieldLink "CircuitCycles$Checker" (31 : Nat) "CircuitCycles$Design" "parts" "LCircuitCycles$Parts;") ∈ xw_G := xw_c2 (List.mem_of_getElem? (i := 235) rfl) rfl
theorem wn_2_236 : (Jvm.Cond.fieldLink "CircuitCycles$Meaning" (32 : Nat) "CircuitCycles$Design" "parts" "LCircuitCycles$Parts;") ∈ xw_G := xw_c2 (List.mem_of_getElem? (i := 236) rfl) rfl
theorem wn_2_237 : (Jvm.Cond.fieldLink "CircuitCycles$Circuit" (88 : Nat) "CircuitCycles$Design" "parts" "LCircuitCycles$Parts;") ∈ xw_G := xw_c2 (List.mem_of_getElem? (i := 237) rfl) rfl
theorem wn_2_238 : (Jvm.Cond.fieldLink "CircuitCycles$Design" (21 : Nat) "CircuitCycles$Design" "code" "LCircuitCycles$Code;") ∈ xw_G := xw_c2 (List.mem_of_getElem? (i := 238) rfl) rfl
theorem wn_2_239 : (Jvm.Cond.fieldLink "CircuitCycles$Checker" (38 : Nat) "CircuitCycles$Design" "code" "LCircuitCycles$Code;") ∈ xw_G := xw_c2 (List.mem_of_getElem? (i := 239) rfl) rfl
theorem wn_3_0 : (Jvm.Cond.fieldLink "CircuitCycles$Meaning" (39 : Nat) "CircuitCycles$Design" "code" "LCircuitCycles$Code;") ∈ xw_G := xw_c3 (List.mem_of_getElem? (i := 0) rfl) rfl
theorem wn_3_1 : (Jvm.Cond.fieldLink "CircuitCycles$Scanner" (46 : Nat) "CircuitCycles$Design" "code" "LCircuitCycles$Code;") ∈ xw_G := xw_c3 (List.mem_of_getElem? (i := 1) rfl) rfl
theorem wn_3_2 : (Jvm.Cond.fieldLink "CircuitCycles$Order" (81 : Nat) "CircuitCycles$Design" "code" "LCircuitCycles$Code;") ∈ xw_G := xw_c3 (List.mem_of_getElem? (i := 2) rfl) rfl
theorem wn_3_3 : (Jvm.Cond.fieldLink "CircuitCycles$Machine" (56 : Nat) "CircuitCycles$Design" "code" "LCircuitCycles$Code;") ∈ xw_G := xw_c3 (List.mem_of_getElem? (i := 3) rfl) rfl
theorem wn_3_4 : (Jvm.Cond.fieldLink "CircuitCycles$Design" (26 : Nat) "CircuitCycles$Design" "text" "[B") ∈ xw_G := xw_c3 (List.mem_of_getElem? (i := 4) rfl) rfl
theorem wn_3_5 : (Jvm.Cond.fieldLink "CircuitCycles$Scanner" (32 : Nat) "CircuitCycles$Design" "text" "[B") ∈ xw_G := xw_c3 (List.mem_of_getElem? (i := 5) rfl) rfl
theorem wn_3_6 : (Jvm.Cond.fieldLink "CircuitCycles" (158 : Nat) "CircuitCycles$Design" "text" "[B") ∈ xw_G := xw_c3 (List.mem_of_getElem? (i := 6) rfl) rfl
theorem wn_3_7 : (Jvm.Cond.fieldLink "CircuitCycles$Design" (66 : Nat) "CircuitCycles$Design" "length" "I") ∈ xw_G := xw_c3 (List.mem_of_getElem? (i := 7) rfl) rfl
theorem wn_3_8 : (Jvm.Cond.fieldLink "CircuitCycles$Scanner" (35 : Nat) "CircuitCycles$Design" "length" "I") ∈ xw_G := xw_c3 (List.mem_of_getElem? (i := 8) rfl) rfl
theorem wn_3_9 : (Jvm.Cond.fieldLink "CircuitCycles$Circuit" (49 : Nat) "CircuitCycles$Design" "moduleCount" "I") ∈ xw_G := xw_c3 (List.mem_of_getElem? (i := 9) rfl) rfl
theorem wn_3_10 : (Jvm.Cond.fieldLink "CircuitCycles$Design" (70 : Nat) "CircuitCycles$Design" "moduleCount" "I") ∈ xw_G := xw_c3 (List.mem_of_getElem? (i := 10) rfl) rfl
theorem wn_3_11 : (Jvm.Cond.fieldLink "CircuitCycles" (143 : Nat) "CircuitCycles$Design" "moduleCount" "I") ∈ xw_G := xw_c3 (List.mem_of_getElem? (i := 11) rfl) rfl
theorem wn_3_12 : (Jvm.Cond.fieldLink "CircuitCycles$Meaning" (136 : Nat) "CircuitCycles$Design" "moduleCount" "I") ∈ xw_G := xw_c3 (List.mem_of_getElem? (i := 12) rfl) rfl
theorem wn_3_13 : (Jvm.Cond.fieldLink "CircuitCycles$Design" (76 : Nat) "CircuitCycles$Design" "inputBits" "I") ∈ xw_G := xw_c3 (List.mem_of_getElem? (i := 13) rfl) rfl
theorem wn_3_14 : (Jvm.Cond.fieldLink "CircuitCycles" (155 : Nat) "CircuitCycles$Design" "inputBits" "I") ∈ xw_G := xw_c3 (List.mem_of_getElem? (i := 14) rfl) rfl
theorem wn_3_15 : (Jvm.Cond.fieldLink "CircuitCycles$Design" (30 : Nat) "CircuitCycles$Design" "places" "[I") ∈ xw_G := xw_c3 (List.mem_of_getElem? (i := 15) rfl) rfl
theorem wn_3_16 : (Jvm.Cond.fieldLink "CircuitCycles$Design" (34 : Nat) "CircuitCycles$Design" "firstDecls" "[I") ∈ xw_G := xw_c3 (List.mem_of_getElem? (i := 16) rfl) rfl
theorem wn_3_17 : (Jvm.Cond.fieldLink "CircuitCycles$Design" (37 : Nat) "CircuitCycles$Design" "portCounts" "[I") ∈ xw_G := xw_c3 (List.mem_of_getElem? (i := 17) rfl) rfl
theorem wn_3_18 : (Jvm.Cond.fieldLink "CircuitCycles$Design" (40 : Nat) "CircuitCycles$Design" "firstChildren" "[I") ∈ xw_G := xw_c3 (List.mem_of_getElem? (i := 18) rfl) rfl
theorem wn_3_19 : (Jvm.Cond.fieldLink "CircuitCycles$Design" (43 : Nat) "CircuitCycles$Design" "firstPieces" "[I") ∈ xw_G := xw_c3 (List.mem_of_getElem? (i := 19) rfl) rfl
theorem wn_3_20 : (Jvm.Cond.fieldLink "CircuitCycles$Design" (48 : Nat) "CircuitCycles$Design" "sums" "[[I") ∈ xw_G := xw_c3 (List.mem_of_getElem? (i := 20) rfl) rfl
theorem wn_3_21 : (Jvm.Cond.fieldLink "CircuitCycles$Design" (73 : Nat) "CircuitCycles$Design" "pieceCount" "I") ∈ xw_G := xw_c3 (List.mem_of_getElem? (i := 21) rfl) rfl
theorem wn_3_22 : (Jvm.Cond.fieldLink "CircuitCycles$Design" (51 : Nat) "CircuitCycles$Design" "pieceStarts" "[I") ∈ xw_G := xw_c3 (List.mem_of_getElem? (i := 22) rfl) rfl
theorem wn_3_23 : (Jvm.Cond.fieldLink "CircuitCycles$Machine" (98 : Nat) "CircuitCycles$Design" "pieceStarts" "[I") ∈ xw_G := xw_c3 (List.mem_of_getElem? (i := 23) rfl) rfl
theorem wn_3_24 : (Jvm.Cond.fieldLink "CircuitCycles$Design" (54 : Nat) "CircuitCycles$Design" "pieceStops" "[I") ∈ xw_G := xw_c3 (List.mem_of_getElem? (i := 24) rfl) rfl
theorem wn_3_25 : (Jvm.Cond.fieldLink "CircuitCycles$Machine" (101 : Nat) "CircuitCycles$Design" "pieceStops" "[I") ∈ xw_G := xw_c3 (List.mem_of_getElem? (i := 25) rfl) rfl
theorem wn_3_26 : (Jvm.Cond.fieldLink "CircuitCycles$Design" (57 : Nat) "CircuitCycles$Design" "pieceAsserts" "[I") ∈ xw_G := xw_c3 (List.mem_of_getElem? (i := 26) rfl) rfl
theorem wn_3_27 : (Jvm.Cond.fieldLink "CircuitCycles$Machine" (95 : Nat) "CircuitCycles$Design" "pieceAsserts" "[I") ∈ xw_G := xw_c3 (List.mem_of_getElem? (i := 27) rfl) rfl
theorem wn_3_61 : (Jvm.Cond.fieldLink "CircuitCycles$Circuit" (12 : Nat) "CircuitCycles$Circuit" "design" "LCircuitCycles$Design;") ∈ xw_G := xw_c3 (List.mem_of_getElem? (i := 61) rfl) rfl
theorem wn_3_62 : (Jvm.Cond.fieldLink "CircuitCycles" (85 : Nat) "CircuitCycles$Circuit" "design" "LCircuitCycles$Design;") ∈ xw_G := xw_c3 (List.mem_of_getElem? (i := 62) rfl) rfl
theorem wn_3_63 : (Jvm.Cond.fieldLink "CircuitCycles$Order" (77 : Nat) "CircuitCycles$Circuit" "design" "LCircuitCycles$Design;") ∈ xw_G := xw_c3 (List.mem_of_getElem? (i := 63) rfl) rfl
theorem wn_3_64 : (Jvm.Cond.fieldLink "CircuitCycles$Machine" (52 : Nat) "CircuitCycles$Circuit" "design" "LCircuitCycles$Design;") ∈ xw_G := xw_c3 (List.mem_of_getElem? (i := 64) rfl) rfl
theorem wn_3_65 : (Jvm.Cond.fieldLink "CircuitCycles$Circuit" (63 : Nat) "CircuitCycles$Circuit" "instances" "I") ∈ xw_G := xw_c3 (List.mem_of_getElem? (i := 65) rfl) rfl
theorem wn_3_66 : (Jvm.Cond.fieldLink "CircuitCycles" (146 : Nat) "CircuitCycles$Circuit" "instances" "I") ∈ xw_G := xw_c3 (List.mem_of_getElem? (i := 66) rfl) rfl
theorem wn_3_67 : (Jvm.Cond.fieldLink "CircuitCycles$Machine" (85 : Nat) "CircuitCycles$Circuit" "instances" "I") ∈ xw_G := xw_c3 (List.mem_of_getElem? (i := 67) rfl) rfl
theorem wn_3_68 : (Jvm.Cond.fieldLink "CircuitCycles$Machine" (21 : Nat) "CircuitCycles$Circuit" "signals" "I") ∈ xw_G := xw_c3 (List.mem_of_getElem? (i := 68) rfl) rfl
theorem wn_3_69 : (Jvm.Cond.fieldLink "CircuitCycles$Order" (37 : Nat) "CircuitCycles$Circuit" "signals" "I") ∈ xw_G := xw_c3 (List.mem_of_getElem? (i := 69) rfl) rfl
theorem wn_3_70 : (Jvm.Cond.fieldLink "CircuitCycles$Circuit" (66 : Nat) "CircuitCycles$Circuit" "signals" "I") ∈ xw_G := xw_c3 (List.mem_of_getElem? (i := 70) rfl) rfl
theorem wn_3_71 : (Jvm.Cond.fieldLink "CircuitCycles" (149 : Nat) "CircuitCycles$Circuit" "signals" "I") ∈ xw_G := xw_c3 (List.mem_of_getElem? (i := 71) rfl) rfl
theorem wn_3_72 : (Jvm.Cond.fieldLink "CircuitCycles$Circuit" (18 : Nat) "CircuitCycles$Circuit" "bases" "[I") ∈ xw_G := xw_c3 (List.mem_of_getElem? (i := 72) rfl) rfl
theorem wn_3_73 : (Jvm.Cond.fieldLink "CircuitCycles$Machine" (104 : Nat) "CircuitCycles$Circuit" "bases" "[I") ∈ xw_G := xw_c3 (List.mem_of_getElem? (i := 73) rfl) rfl
theorem wn_3_74 : (Jvm.Cond.fieldLink "CircuitCycles$Circuit" (22 : Nat) "CircuitCycles$Circuit" "modules" "[I") ∈ xw_G := xw_c3 (List.mem_of_getElem? (i := 74) rfl) rfl
theorem wn_3_75 : (Jvm.Cond.fieldLink "CircuitCycles$Machine" (88 : Nat) "CircuitCycles$Circuit" "modules" "[I") ∈ xw_G := xw_c3 (List.mem_of_getElem? (i := 75) rfl) rfl
theorem wn_3_76 : (Jvm.Cond.fieldLink "CircuitCycles$Circuit" (25 : Nat) "CircuitCycles$Circuit" "parents" "[I") ∈ xw_G := xw_c3 (List.mem_of_getElem? (i := 76) rfl) rfl
theorem wn_3_77 : (Jvm.Cond.fieldLink "CircuitCycles$Circuit" (28 : Nat) "CircuitCycles$Circuit" "children" "[I") ∈ xw_G := xw_c3 (List.mem_of_getElem? (i := 77) rfl) rfl
theorem wn_3_78 : (Jvm.Cond.fieldLink "CircuitCycles$Circuit" (31 : Nat) "CircuitCycles$Circuit" "decls" "[I") ∈ xw_G := xw_c3 (List.mem_of_getElem? (i := 78) rfl) rfl
theorem wn_3_79 : (Jvm.Cond.fieldLink "CircuitCycles$Circuit" (34 : Nat) "CircuitCycles$Circuit" "starts" "[I") ∈ xw_G := xw_c3 (List.mem_of_getElem? (i := 79) rfl) rfl
theorem wn_3_80 : (Jvm.Cond.fieldLink "CircuitCycles$Order" (74 : Nat) "CircuitCycles$Circuit" "starts" "[I") ∈ xw_G := xw_c3 (List.mem_of_getElem? (i := 80) rfl) rfl
theorem wn_3_81 : (Jvm.Cond.fieldLink "CircuitCycles$Machine" (72 : Nat) "CircuitCycles$Circuit" "starts" "[I") ∈ xw_G := xw_c3 (List.mem_of_getElem? (i := 81) rfl) rfl
theorem wn_3_82 : (Jvm.Cond.fieldLink "CircuitCycles$Circuit" (37 : Nat) "CircuitCycles$Circuit" "stops" "[I") ∈ xw_G := xw_c3 (List.mem_of_getElem? (i := 82) rfl) rfl
theorem wn_3_83 : (Jvm.Cond.fieldLink "CircuitCycles$Order" (90 : Nat) "CircuitCycles$Circuit" "stops" "[I") ∈ xw_G := xw_c3 (List.mem_of_getElem? (i := 83) rfl) rfl
theorem wn_3_84 : (Jvm.Cond.fieldLink "CircuitCycles$Machine" (75 : Nat) "CircuitCycles$Circuit" "stops" "[I") ∈ xw_G := xw_c3 (List.mem_of_getElem? (i := 84) rfl) rfl
theorem wn_3_85 : (Jvm.Cond.fieldLink "CircuitCycles$Circuit" (40 : Nat) "CircuitCycles$Circuit" "frames" "[I") ∈ xw_G := xw_c3 (List.mem_of_getElem? (i := 85) rfl) rfl
theorem wn_3_86 : (Jvm.Cond.fieldLink "CircuitCycles$Order" (104 : Nat) "CircuitCycles$Circuit" "frames" "[I") ∈ xw_G := xw_c3 (List.mem_of_getElem? (i := 86) rfl) rfl
theorem wn_3_87 : (Jvm.Cond.fieldLink "CircuitCycles$Machine" (78 : Nat) "CircuitCycles$Circuit" "frames" "[I") ∈ xw_G := xw_c3 (List.mem_of_getElem? (i := 87) rfl) rfl
theorem wn_3_88 : (Jvm.Cond.fieldLink "CircuitCycles$Circuit" (43 : Nat) "CircuitCycles$Circuit" "sources" "[I") ∈ xw_G := xw_c3 (List.mem_of_getElem? (i := 88) rfl) rfl
theorem wn_3_89 : (Jvm.Cond.fieldLink "CircuitCycles$Order" (87 : Nat) "CircuitCycles$Circuit" "sources" "[I") ∈ xw_G := xw_c3 (List.mem_of_getElem? (i := 89) rfl) rfl
theorem wn_3_90 : (Jvm.Cond.fieldLink "CircuitCycles$Machine" (69 : Nat) "CircuitCycles$Circuit" "sources" "[I") ∈ xw_G := xw_c3 (List.mem_of_getElem? (i := 90) rfl) rfl
theorem wn_3_92 : (Jvm.Cond.fieldLink "CircuitCycles$Machine" (65 : Nat) "CircuitCycles$Circuit" "order" "[I") ∈ xw_G := xw_c3 (List.mem_of_getElem? (i := 92) rfl) rfl
theorem wn_3_93 : (Jvm.Cond.fieldLink "CircuitCycles$Order" (113 : Nat) "CircuitCycles$Circuit" "order" "[I") ∈ xw_G := xw_c3 (List.mem_of_getElem? (i := 93) rfl) rfl
theorem wn_3_94 : (Jvm.Cond.fieldLink "CircuitCycles$Order" (31 : Nat) "CircuitCycles$Circuit" "ordered" "I") ∈ xw_G := xw_c3 (List.mem_of_getElem? (i := 94) rfl) rfl
theorem wn_3_95 : (Jvm.Cond.fieldLink "CircuitCycles$Machine" (62 : Nat) "CircuitCycles$Circuit" "ordered" "I") ∈ xw_G := xw_c3 (List.mem_of_getElem? (i := 95) rfl) rfl
theorem wn_3_125 : (Jvm.Cond.fieldLink "CircuitCycles" (70 : Nat) "CircuitCycles" "length" "I") ∈ xw_G := xw_c3 (List.mem_of_getElem? (i := 125) rfl) rfl
theorem wn_3_126 : (Jvm.Cond.fieldLink "CircuitCycles" (111 : Nat) "CircuitCycles" "faultCode" "I") ∈ xw_G := xw_c3 (List.mem_of_getElem? (i := 126) rfl) rfl
theorem wn_3_128 : (Jvm.Cond.fieldLink "CircuitCycles" (21 : Nat) "CircuitCycles" "scanner" "LCircuitCycles$Scanner;") ∈ xw_G := xw_c3 (List.mem_of_getElem? (i := 128) rfl) rfl
theorem wn_3_132 : (Jvm.Cond.fieldLink "CircuitCycles" (56 : Nat) "CircuitCycles" "machine" "LCircuitCycles$Machine;") ∈ xw_G := xw_c3 (List.mem_of_getElem? (i := 132) rfl) rfl
theorem wn_3_133 : (Jvm.Cond.fieldLink "CircuitCycles" (132 : Nat) "CircuitCycles" "stands" "Z") ∈ xw_G := xw_c3 (List.mem_of_getElem? (i := 133) rfl) rfl
theorem wn_3_134 : (Jvm.Cond.fieldLink "CircuitCycles" (63 : Nat) "CircuitCycles" "circuit" "LCircuitCycles$Circuit;") ∈ xw_G := xw_c3 (List.mem_of_getElem? (i := 134) rfl) rfl
theorem wn_3_135 : (Jvm.Cond.fieldLink "CircuitCycles" (67 : Nat) "CircuitCycles" "spare" "LCircuitCycles$Circuit;") ∈ xw_G := xw_c3 (List.mem_of_getElem? (i := 135) rfl) rfl
theorem wn_3_163 : (Jvm.Cond.methodLink "CircuitCycles" (89 : Nat) ({ cls := "CircuitCycles$Design", name := "clear", desc := "(I)V" } : Jvm.MethodName)) ∈ xw_G := xw_c3 (List.mem_of_getElem? (i := 163) rfl) rfl
theorem wn_3_164 : (Jvm.Cond.instanceMethod ({ cls := "CircuitCycles$Design", name := "clear", desc := "(I)V" } : Jvm.MethodName)) ∈ xw_G := xw_c3 (List.mem_of_getElem? (i := 164) rfl) rfl
theorem wn_3_165 : (Jvm.Cond.selects "CircuitCycles$Design" ({ cls := "CircuitCycles$Design", name := "clear", desc := "(I)V" } : Jvm.MethodName) ({ cls := "CircuitCycles$Design", name := "clear", desc := "(I)V" } : Jvm.MethodName)) ∈ xw_G := xw_c3 (List.mem_of_getElem? (i := 165) rfl) rfl
theorem wn_3_166 : (Jvm.Cond.code ({ cls := "CircuitCycles$Design", name := "clear", desc := "(I)V" } : Jvm.MethodName) prog_5_method_2_code (2 : Nat) (Option.none : Option Jvm.ClassFile.FieldType)) ∈ xw_G := xw_c3 (List.mem_of_getElem? (i := 166) rfl) rfl
theorem wn_3_167 : (Jvm.Cond.methodLink "CircuitCycles$Design" (60 : Nat) ({ cls := "java/lang/Math", name := "min", desc := "(II)I" } : Jvm.MethodName)) ∈ xw_G := xw_c3 (List.mem_of_getElem? (i := 167) rfl) rfl
theorem wn_3_168 : (Jvm.Cond.static ({ cls := "java/lang/Math", name := "min", desc := "(II)I" } : Jvm.MethodName)) ∈ xw_G := xw_c3 (List.mem_of_getElem? (i := 168) rfl) rfl
theorem wn_3_169 : (Jvm.Cond.code ({ cls := "java/lang/Math", name := "min", desc := "(II)I" } : Jvm.MethodName) prog_21_method_69_code (2 : Nat) (Option.some Jvm.ClassFile.FieldType.int)) ∈ xw_G := xw_c3 (List.mem_of_getElem? (i := 169) rfl) rfl
theorem wn_3_170 : (Jvm.Cond.methodLink "CircuitCycles$Design" (79 : Nat) ({ cls := "CircuitCycles$Parts", name := "clear", desc := "()V" } : Jvm.MethodName)) ∈ xw_G := xw_c3 (List.mem_of_getElem? (i := 170) rfl) rfl
theorem wn_3_171 : (Jvm.Cond.instanceMethod ({ cls := "CircuitCycles$Parts", name := "clear", desc := "()V" } : Jvm.MethodName)) ∈ xw_G := xw_c3 (List.mem_of_getElem? (i := 171) rfl) rfl
theorem wn_3_172 : (Jvm.Cond.selects "CircuitCycles$Parts" ({ cls := "CircuitCycles$Parts", name := "clear", desc := "()V" } : Jvm.MethodName) ({ cls := "CircuitCycles$Parts", name := "clear", desc := "()V" } : Jvm.MethodName)) ∈ xw_G := xw_c3 (List.mem_of_getElem? (i := 172) rfl) rfl
theorem wn_3_173 : (Jvm.Cond.code ({ cls := "CircuitCycles$Parts", name := "clear", desc := "()V" } : Jvm.MethodName) prog_10_method_2_code (1 : Nat) (Option.none : Option Jvm.ClassFile.FieldType)) ∈ xw_G := xw_c3 (List.mem_of_getElem? (i := 173) rfl) rfl
theorem wn_3_174 : (Jvm.Cond.methodLink "CircuitCycles$Design" (82 : Nat) ({ cls := "CircuitCycles$Code", name := "clear", desc := "()V" } : Jvm.MethodName)) ∈ xw_G := xw_c3 (List.mem_of_getElem? (i := 174) rfl) rfl
theorem wn_3_175 : (Jvm.Cond.instanceMethod ({ cls := "CircuitCycles$Code", name := "clear", desc := "()V" } : Jvm.MethodName)) ∈ xw_G := xw_c3 (List.mem_of_getElem? (i := 175) rfl) rfl
theorem wn_3_176 : (Jvm.Cond.selects "CircuitCycles$Code" ({ cls := "CircuitCycles$Code", name := "clear", desc := "()V" } : Jvm.MethodName) ({ cls := "CircuitCycles$Code", name := "clear", desc := "()V" } : Jvm.MethodName)) ∈ xw_G := xw_c3 (List.mem_of_getElem? (i := 176) rfl) rfl
theorem wn_3_177 : (Jvm.Cond.code ({ cls := "CircuitCycles$Code", name := "clear", desc := "()V" } : Jvm.MethodName) prog_4_method_2_code (1 : Nat) (Option.none : Option Jvm.ClassFile.FieldType)) ∈ xw_G := xw_c3 (List.mem_of_getElem? (i := 177) rfl) rfl
theorem wn_3_182 : (Jvm.Cond.methodLink "CircuitCycles$Scanner" (39 : Nat) ({ cls := "java/lang/Math", name := "min", desc := "(II)I" } : Jvm.MethodName)) ∈ xw_G := xw_c3 (List.mem_of_getElem? (i := 182) rfl) rfl
theorem wn_3_183 : (Jvm.Cond.methodLink "CircuitCycles$Scanner" (51 : Nat) ({ cls := "CircuitCycles$Tokens", name := "clear", desc := "()V" } : Jvm.MethodName)) ∈ xw_G := xw_c3 (List.mem_of_getElem? (i := 183) rfl) rfl
theorem wn_3_184 : (Jvm.Cond.instanceMethod ({ cls := "CircuitCycles$Tokens", name := "clear", desc := "()V" } : Jvm.MethodName)) ∈ xw_G := xw_c3 (List.mem_of_getElem? (i := 184) rfl) rfl
theorem wn_3_185 : (Jvm.Cond.selects "CircuitCycles$Tokens" ({ cls := "CircuitCycles$Tokens", name := "clear", desc := "()V" } : Jvm.MethodName) ({ cls := "CircuitCycles$Tokens", name := "clear", desc := "()V" } : Jvm.MethodName)) ∈ xw_G := xw_c3 (List.mem_of_getElem? (i := 185) rfl) rfl
theorem wn_3_186 : (Jvm.Cond.code ({ cls := "CircuitCycles$Tokens", name := "clear", desc := "()V" } : Jvm.MethodName) prog_12_method_2_code (1 : Nat) (Option.none : Option Jvm.ClassFile.FieldType)) ∈ xw_G := xw_c3 (List.mem_of_getElem? (i := 186) rfl) rfl
theorem wn_3_194 : (Jvm.Cond.methodLink "CircuitCycles$Scanner" (76 : Nat) ({ cls := "CircuitCycles$Scanner", name := "byteAt", desc := "(I)I" } : Jvm.MethodName)) ∈ xw_G := xw_c3 (List.mem_of_getElem? (i := 194) rfl) rfl
theorem wn_3_196 : (Jvm.Cond.instanceMethod ({ cls := "CircuitCycles$Scanner", name := "byteAt", desc := "(I)I" } : Jvm.MethodName)) ∈ xw_G := xw_c3 (List.mem_of_getElem? (i := 196) rfl) rfl
theorem wn_3_197 : (Jvm.Cond.code ({ cls := "CircuitCycles$Scanner", name := "byteAt", desc := "(I)I" } : Jvm.MethodName) prog_11_method_3_code (2 : Nat) (Option.some Jvm.ClassFile.FieldType.int)) ∈ xw_G := xw_c3 (List.mem_of_getElem? (i := 197) rfl) rfl
theorem wn_3_203 : (Jvm.Cond.static ({ cls := "CircuitCycles", name := "beginsWord", desc := "(I)Z" } : Jvm.MethodName)) ∈ xw_G := xw_c3 (List.mem_of_getElem? (i := 203) rfl) rfl
theorem wn_3_204 : (Jvm.Cond.code ({ cls := "CircuitCycles", name := "beginsWord", desc := "(I)Z" } : Jvm.MethodName) prog_1_method_18_code (1 : Nat) (Option.some Jvm.ClassFile.FieldType.boolean)) ∈ xw_G := xw_c3 (List.mem_of_getElem? (i := 204) rfl) rfl
theorem wn_3_210 : (Jvm.Cond.static ({ cls := "CircuitCycles", name := "continuesWord", desc := "(I)Z" } : Jvm.MethodName)) ∈ xw_G := xw_c3 (List.mem_of_getElem? (i := 210) rfl) rfl
theorem wn_3_211 : (Jvm.Cond.code ({ cls := "CircuitCycles", name := "continuesWord", desc := "(I)Z" } : Jvm.MethodName) prog_1_method_19_code (1 : Nat) (Option.some Jvm.ClassFile.FieldType.boolean)) ∈ xw_G := xw_c3 (List.mem_of_getElem? (i := 211) rfl) rfl
theorem wn_3_212 : (Jvm.Cond.methodLink "CircuitCycles" (202 : Nat) ({ cls := "CircuitCycles", name := "beginsWord", desc := "(I)Z" } : Jvm.MethodName)) ∈ xw_G := xw_c3 (List.mem_of_getElem? (i := 212) rfl) rfl
theorem wn_3_213 : (Jvm.Cond.methodLink "CircuitCycles" (206 : Nat) ({ cls := "CircuitCycles", name := "isDigit", desc := "(I)Z" } : Jvm.MethodName)) ∈ xw_G := xw_c3 (List.mem_of_getElem? (i := 213) rfl) rfl
theorem wn_3_214 : (Jvm.Cond.static ({ cls := "CircuitCycles", name := "isDigit", desc := "(I)Z" } : Jvm.MethodName)) ∈ xw_G := xw_c3 (List.mem_of_getElem? (i := 214) rfl) rfl
theorem wn_3_215 : (Jvm.Cond.code ({ cls := "CircuitCycles", name := "isDigit", desc := "(I)Z" } : Jvm.MethodName) prog_1_method_17_code (1 : Nat) (Option.some Jvm.ClassFile.FieldType.boolean)) ∈ xw_G := xw_c3 (List.mem_of_getElem? (i := 215) rfl) rfl
theorem wn_3_216 : (Jvm.Cond.methodLink "CircuitCycles$Scanner" (105 : Nat) ({ cls := "CircuitCycles$Scanner", name := "known", desc := "(III)I" } : Jvm.MethodName)) ∈ xw_G := xw_c3 (List.mem_of_getElem? (i := 216) rfl) rfl
theorem wn_3_218 : (Jvm.Cond.instanceMethod ({ cls := "CircuitCycles$Scanner", name := "known", desc := "(III)I" } : Jvm.MethodName)) ∈ xw_G := xw_c3 (List.mem_of_getElem? (i := 218) rfl) rfl
theorem wn_3_219 : (Jvm.Cond.code ({ cls := "CircuitCycles$Scanner", name := "known", desc := "(III)I" } : Jvm.MethodName) prog_11_method_8_code (6 : Nat) (Option.some Jvm.ClassFile.FieldType.int)) ∈ xw_G := xw_c3 (List.mem_of_getElem? (i := 219) rfl) rfl
theorem wn_3_220 : (Jvm.Cond.methodLink "CircuitCycles$Scanner" (112 : Nat) ({ cls := "CircuitCycles$Scanner", name := "repeats", desc := "(III)Z" } : Jvm.MethodName)) ∈ xw_G := xw_c3 (List.mem_of_getElem? (i := 220) rfl) rfl
theorem wn_3_222 : (Jvm.Cond.instanceMethod ({ cls := "CircuitCycles$Scanner", name := "repeats", desc := "(III)Z" } : Jvm.MethodName)) ∈ xw_G := xw_c3 (List.mem_of_getElem? (i := 222) rfl) rfl
theorem wn_3_223 : (Jvm.Cond.code ({ cls := "CircuitCycles$Scanner", name := "repeats", desc := "(III)Z" } : Jvm.MethodName) prog_11_method_9_code (5 : Nat) (Option.some Jvm.ClassFile.FieldType.boolean)) ∈ xw_G := xw_c3 (List.mem_of_getElem? (i := 223) rfl) rfl
theorem wn_4_45 : (Jvm.Cond.methodLink "CircuitCycles$Scanner" (72 : Nat) ({ cls := "CircuitCycles$Tokens", name := "add", desc := "(III)V" } : Jvm.MethodName)) ∈ xw_G := xw_c4 (List.mem_of_getElem? (i := 45) rfl) rfl
theorem wn_4_46 : (Jvm.Cond.instanceMethod ({ cls := "CircuitCycles$Tokens", name := "add", desc := "(III)V" } : Jvm.MethodName)) ∈ xw_G := xw_c4 (List.mem_of_getElem? (i := 46) rfl) rfl
theorem wn_4_47 : (Jvm.Cond.selects "CircuitCycles$Tokens" ({ cls := "CircuitCycles$Tokens", name := "add", desc := "(III)V" } : Jvm.MethodName) ({ cls := "CircuitCycles$Tokens", name := "add", desc := "(III)V" } : Jvm.MethodName)) ∈ xw_G := xw_c4 (List.mem_of_getElem? (i := 47) rfl) rfl
theorem wn_4_48 : (Jvm.Cond.code ({ cls := "CircuitCycles$Tokens", name := "add", desc := "(III)V" } : Jvm.MethodName) prog_12_method_3_code (4 : Nat) (Option.none : Option Jvm.ClassFile.FieldType)) ∈ xw_G := xw_c4 (List.mem_of_getElem? (i := 48) rfl) rfl
theorem wn_4_54 : (Jvm.Cond.methodLink "CircuitCycles$Scanner" (131 : Nat) ({ cls := "CircuitCycles$Scanner", name := "sized", desc := "(III)Z" } : Jvm.MethodName)) ∈ xw_G := xw_c4 (List.mem_of_getElem? (i := 54) rfl) rfl
theorem wn_4_56 : (Jvm.Cond.instanceMethod ({ cls := "CircuitCycles$Scanner", name := "sized", desc := "(III)Z" } : Jvm.MethodName)) ∈ xw_G := xw_c4 (List.mem_of_getElem? (i := 56) rfl) rfl
theorem wn_4_57 : (Jvm.Cond.code ({ cls := "CircuitCycles$Scanner", name := "sized", desc := "(III)Z" } : Jvm.MethodName) prog_11_method_15_code (13 : Nat) (Option.some Jvm.ClassFile.FieldType.boolean)) ∈ xw_G := xw_c4 (List.mem_of_getElem? (i := 57) rfl) rfl
theorem wn_4_58 : (Jvm.Cond.methodLink "CircuitCycles$Scanner" (135 : Nat) ({ cls := "CircuitCycles$Scanner", name := "decimal", desc := "(III)I" } : Jvm.MethodName)) ∈ xw_G := xw_c4 (List.mem_of_getElem? (i := 58) rfl) rfl
theorem wn_4_60 : (Jvm.Cond.instanceMethod ({ cls := "CircuitCycles$Scanner", name := "decimal", desc := "(III)I" } : Jvm.MethodName)) ∈ xw_G := xw_c4 (List.mem_of_getElem? (i := 60) rfl) rfl
theorem wn_4_61 : (Jvm.Cond.code ({ cls := "CircuitCycles$Scanner", name := "decimal", desc := "(III)I" } : Jvm.MethodName) prog_11_method_14_code (7 : Nat) (Option.some Jvm.ClassFile.FieldType.int)) ∈ xw_G := xw_c4 (List.mem_of_getElem? (i := 61) rfl) rfl
theorem wn_4_62 : (Jvm.Cond.methodLink "CircuitCycles$Scanner" (138 : Nat) ({ cls := "CircuitCycles$Scanner", name := "digitOf", desc := "(I)I" } : Jvm.MethodName)) ∈ xw_G := xw_c4 (List.mem_of_getElem? (i := 62) rfl) rfl
theorem wn_4_63 : (Jvm.Cond.static ({ cls := "CircuitCycles$Scanner", name := "digitOf", desc := "(I)I" } : Jvm.MethodName)) ∈ xw_G := xw_c4 (List.mem_of_getElem? (i := 63) rfl) rfl
theorem wn_4_64 : (Jvm.Cond.code ({ cls := "CircuitCycles$Scanner", name := "digitOf", desc := "(I)I" } : Jvm.MethodName) prog_11_method_17_code (1 : Nat) (Option.some Jvm.ClassFile.FieldType.int)) ∈ xw_G := xw_c4 (List.mem_of_getElem? (i := 64) rfl) rfl
theorem wn_4_65 : (Jvm.Cond.methodLink "CircuitCycles$Scanner" (141 : Nat) ({ cls := "CircuitCycles$Scanner", name := "shiftOf", desc := "(I)I" } : Jvm.MethodName)) ∈ xw_G := xw_c4 (List.mem_of_getElem? (i := 65) rfl) rfl
theorem wn_4_66 : (Jvm.Cond.static ({ cls := "CircuitCycles$Scanner", name := "shiftOf", desc := "(I)I" } : Jvm.MethodName)) ∈ xw_G := xw_c4 (List.mem_of_getElem? (i := 66) rfl) rfl
theorem wn_4_67 : (Jvm.Cond.code ({ cls := "CircuitCycles$Scanner", name := "shiftOf", desc := "(I)I" } : Jvm.MethodName) prog_11_method_16_code (1 : Nat) (Option.some Jvm.ClassFile.FieldType.int)) ∈ xw_G := xw_c4 (List.mem_of_getElem? (i := 67) rfl) rfl
theorem wn_4_68 : (Jvm.Cond.constantLong "CircuitCycles$Scanner" (144 : Nat) (1844674407370955161 : Int64)) ∈ xw_G := xw_c4 (List.mem_of_getElem? (i := 68) rfl) rfl
theorem wn_4_69 : (Jvm.Cond.constantLong "CircuitCycles$Scanner" (146 : Nat) (-1 : Int64)) ∈ xw_G := xw_c4 (List.mem_of_getElem? (i := 69) rfl) rfl
theorem wn_4_71 : (Jvm.Cond.static ({ cls := "CircuitCycles", name := "mask", desc := "(I)J" } : Jvm.MethodName)) ∈ xw_G := xw_c4 (List.mem_of_getElem? (i := 71) rfl) rfl
theorem wn_4_72 : (Jvm.Cond.code ({ cls := "CircuitCycles", name := "mask", desc := "(I)J" } : Jvm.MethodName) prog_1_method_16_code (1 : Nat) (Option.some Jvm.ClassFile.FieldType.long)) ∈ xw_G := xw_c4 (List.mem_of_getElem? (i := 72) rfl) rfl
theorem wn_4_73 : (Jvm.Cond.constantLong "CircuitCycles" (200 : Nat) (-1 : Int64)) ∈ xw_G := xw_c4 (List.mem_of_getElem? (i := 73) rfl) rfl
theorem wn_4_74 : (Jvm.Cond.methodLink "CircuitCycles$Scanner" (152 : Nat) ({ cls := "CircuitCycles$Code", name := "literal", desc := "(IJ)I" } : Jvm.MethodName)) ∈ xw_G := xw_c4 (List.mem_of_getElem? (i := 74) rfl) rfl
theorem wn_4_75 : (Jvm.Cond.instanceMethod ({ cls := "CircuitCycles$Code", name := "literal", desc := "(IJ)I" } : Jvm.MethodName)) ∈ xw_G := xw_c4 (List.mem_of_getElem? (i := 75) rfl) rfl
theorem wn_4_76 : (Jvm.Cond.selects "CircuitCycles$Code" ({ cls := "CircuitCycles$Code", name := "literal", desc := "(IJ)I" } : Jvm.MethodName) ({ cls := "CircuitCycles$Code", name := "literal", desc := "(IJ)I" } : Jvm.MethodName)) ∈ xw_G := xw_c4 (List.mem_of_getElem? (i := 76) rfl) rfl
theorem wn_4_77 : (Jvm.Cond.code ({ cls := "CircuitCycles$Code", name := "literal", desc := "(IJ)I" } : Jvm.MethodName) prog_4_method_3_code (4 : Nat) (Option.some Jvm.ClassFile.FieldType.int)) ∈ xw_G := xw_c4 (List.mem_of_getElem? (i := 77) rfl) rfl
theorem wn_4_78 : (Jvm.Cond.constant "CircuitCycles$Scanner" (134 : Nat) (65535 : Int32)) ∈ xw_G := xw_c4 (List.mem_of_getElem? (i := 78) rfl) rfl
theorem wn_4_79 : (Jvm.Cond.methodLink "CircuitCycles$Scanner" (92 : Nat) ({ cls := "CircuitCycles$Scanner", name := "pair", desc := "(II)I" } : Jvm.MethodName)) ∈ xw_G := xw_c4 (List.mem_of_getElem? (i := 79) rfl) rfl
theorem wn_4_80 : (Jvm.Cond.static ({ cls := "CircuitCycles$Scanner", name := "pair", desc := "(II)I" } : Jvm.MethodName)) ∈ xw_G := xw_c4 (List.mem_of_getElem? (i := 80) rfl) rfl
theorem wn_4_81 : (Jvm.Cond.code ({ cls := "CircuitCycles$Scanner", name := "pair", desc := "(II)I" } : Jvm.MethodName) prog_11_method_6_code (2 : Nat) (Option.some Jvm.ClassFile.FieldType.int)) ∈ xw_G := xw_c4 (List.mem_of_getElem? (i := 81) rfl) rfl
theorem wn_4_99 : (Jvm.Cond.static ({ cls := "java/lang/Math", name := "max", desc := "(II)I" } : Jvm.MethodName)) ∈ xw_G := xw_c4 (List.mem_of_getElem? (i := 99) rfl) rfl
theorem wn_4_100 : (Jvm.Cond.code ({ cls := "java/lang/Math", name := "max", desc := "(II)I" } : Jvm.MethodName) prog_21_method_65_code (2 : Nat) (Option.some Jvm.ClassFile.FieldType.int)) ∈ xw_G := xw_c4 (List.mem_of_getElem? (i := 100) rfl) rfl
theorem wn_4_144 : (Jvm.Cond.methodLink "CircuitCycles$Grammar" (36 : Nat) ({ cls := "CircuitCycles$Tokens", name := "start", desc := "()V" } : Jvm.MethodName)) ∈ xw_G := xw_c4 (List.mem_of_getElem? (i := 144) rfl) rfl
theorem wn_4_145 : (Jvm.Cond.instanceMethod ({ cls := "CircuitCycles$Tokens", name := "start", desc := "()V" } : Jvm.MethodName)) ∈ xw_G := xw_c4 (List.mem_of_getElem? (i := 145) rfl) rfl
theorem wn_4_146 : (Jvm.Cond.selects "CircuitCycles$Tokens" ({ cls := "CircuitCycles$Tokens", name := "start", desc := "()V" } : Jvm.MethodName) ({ cls := "CircuitCycles$Tokens", name := "start", desc := "()V" } : Jvm.MethodName)) ∈ xw_G := xw_c4 (List.mem_of_getElem? (i := 146) rfl) rfl
theorem wn_4_147 : (Jvm.Cond.code ({ cls := "CircuitCycles$Tokens", name := "start", desc := "()V" } : Jvm.MethodName) prog_12_method_4_code (1 : Nat) (Option.none : Option Jvm.ClassFile.FieldType)) ∈ xw_G := xw_c4 (List.mem_of_getElem? (i := 147) rfl) rfl
theorem wn_4_148 : (Jvm.Cond.methodLink "CircuitCycles$Tokens" (32 : Nat) ({ cls := "CircuitCycles$Tokens", name := "take", desc := "()V" } : Jvm.MethodName)) ∈ xw_G := xw_c4 (List.mem_of_getElem? (i := 148) rfl) rfl
theorem wn_4_149 : (Jvm.Cond.instanceMethod ({ cls := "CircuitCycles$Tokens", name := "take", desc := "()V" } : Jvm.MethodName)) ∈ xw_G := xw_c4 (List.mem_of_getElem? (i := 149) rfl) rfl
theorem wn_4_150 : (Jvm.Cond.selects "CircuitCycles$Tokens" ({ cls := "CircuitCycles$Tokens", name := "take", desc := "()V" } : Jvm.MethodName) ({ cls := "CircuitCycles$Tokens", name := "take", desc := "()V" } : Jvm.MethodName)) ∈ xw_G := xw_c4 (List.mem_of_getElem? (i := 150) rfl) rfl
theorem wn_4_151 : (Jvm.Cond.code ({ cls := "CircuitCycles$Tokens", name := "take", desc := "()V" } : Jvm.MethodName) prog_12_method_5_code (1 : Nat) (Option.none : Option Jvm.ClassFile.FieldType)) ∈ xw_G := xw_c4 (List.mem_of_getElem? (i := 151) rfl) rfl
theorem wn_4_152 : (Jvm.Cond.methodLink "CircuitCycles$Tokens" (35 : Nat) ({ cls := "CircuitCycles$Tokens", name := "kindAt", desc := "(I)I" } : Jvm.MethodName)) ∈ xw_G := xw_c4 (List.mem_of_getElem? (i := 152) rfl) rfl
theorem wn_4_153 : (Jvm.Cond.instanceMethod ({ cls := "CircuitCycles$Tokens", name := "kindAt", desc := "(I)I" } : Jvm.MethodName)) ∈ xw_G := xw_c4 (List.mem_of_getElem? (i := 153) rfl) rfl
theorem wn_4_154 : (Jvm.Cond.selects "CircuitCycles$Tokens" ({ cls := "CircuitCycles$Tokens", name := "kindAt", desc := "(I)I" } : Jvm.MethodName) ({ cls := "CircuitCycles$Tokens", name := "kindAt", desc := "(I)I" } : Jvm.MethodName)) ∈ xw_G := xw_c4 (List.mem_of_getElem? (i := 154) rfl) rfl
theorem wn_4_155 : (Jvm.Cond.code ({ cls := "CircuitCycles$Tokens", name := "kindAt", desc := "(I)I" } : Jvm.MethodName) prog_12_method_14_code (2 : Nat) (Option.some Jvm.ClassFile.FieldType.int)) ∈ xw_G := xw_c4 (List.mem_of_getElem? (i := 155) rfl) rfl
theorem wn_4_156 : (Jvm.Cond.constant "CircuitCycles$Tokens" (42 : Nat) (1048575 : Int32)) ∈ xw_G := xw_c4 (List.mem_of_getElem? (i := 156) rfl) rfl
theorem wn_4_157 : (Jvm.Cond.methodLink "CircuitCycles$Tokens" (46 : Nat) ({ cls := "CircuitCycles$Tokens", name := "extraAt", desc := "(I)I" } : Jvm.MethodName)) ∈ xw_G := xw_c4 (List.mem_of_getElem? (i := 157) rfl) rfl
theorem wn_4_158 : (Jvm.Cond.instanceMethod ({ cls := "CircuitCycles$Tokens", name := "extraAt", desc := "(I)I" } : Jvm.MethodName)) ∈ xw_G := xw_c4 (List.mem_of_getElem? (i := 158) rfl) rfl
theorem wn_4_159 : (Jvm.Cond.selects "CircuitCycles$Tokens" ({ cls := "CircuitCycles$Tokens", name := "extraAt", desc := "(I)I" } : Jvm.MethodName) ({ cls := "CircuitCycles$Tokens", name := "extraAt", desc := "(I)I" } : Jvm.MethodName)) ∈ xw_G := xw_c4 (List.mem_of_getElem? (i := 159) rfl) rfl
theorem wn_4_160 : (Jvm.Cond.code ({ cls := "CircuitCycles$Tokens", name := "extraAt", desc := "(I)I" } : Jvm.MethodName) prog_12_method_15_code (2 : Nat) (Option.some Jvm.ClassFile.FieldType.int)) ∈ xw_G := xw_c4 (List.mem_of_getElem? (i := 160) rfl) rfl
theorem wn_4_161 : (Jvm.Cond.methodLink "CircuitCycles$Grammar" (41 : Nat) ({ cls := "CircuitCycles$Checker", name := "start", desc := "(LCircuitCycles$Design;I)V" } : Jvm.MethodName)) ∈ xw_G := xw_c4 (List.mem_of_getElem? (i := 161) rfl) rfl
theorem wn_4_162 : (Jvm.Cond.instanceMethod ({ cls := "CircuitCycles$Checker", name := "start", desc := "(LCircuitCycles$Design;I)V" } : Jvm.MethodName)) ∈ xw_G := xw_c4 (List.mem_of_getElem? (i := 162) rfl) rfl
theorem wn_4_163 : (Jvm.Cond.selects "CircuitCycles$Checker" ({ cls := "CircuitCycles$Checker", name := "start", desc := "(LCircuitCycles$Design;I)V" } : Jvm.MethodName) ({ cls := "CircuitCycles$Checker", name := "start", desc := "(LCircuitCycles$Design;I)V" } : Jvm.MethodName)) ∈ xw_G := xw_c4 (List.mem_of_getElem? (i := 163) rfl) rfl
theorem wn_4_164 : (Jvm.Cond.code ({ cls := "CircuitCycles$Checker", name := "start", desc := "(LCircuitCycles$Design;I)V" } : Jvm.MethodName) prog_2_method_2_code (4 : Nat) (Option.none : Option Jvm.ClassFile.FieldType)) ∈ xw_G := xw_c4 (List.mem_of_getElem? (i := 164) rfl) rfl
theorem wn_4_165 : (Jvm.Cond.methodLink "CircuitCycles$Grammar" (46 : Nat) ({ cls := "CircuitCycles$Meaning", name := "start", desc := "(LCircuitCycles$Design;)V" } : Jvm.MethodName)) ∈ xw_G := xw_c4 (List.mem_of_getElem? (i := 165) rfl) rfl
theorem wn_4_166 : (Jvm.Cond.instanceMethod ({ cls := "CircuitCycles$Meaning", name := "start", desc := "(LCircuitCycles$Design;)V" } : Jvm.MethodName)) ∈ xw_G := xw_c4 (List.mem_of_getElem? (i := 166) rfl) rfl
theorem wn_4_167 : (Jvm.Cond.selects "CircuitCycles$Meaning" ({ cls := "CircuitCycles$Meaning", name := "start", desc := "(LCircuitCycles$Design;)V" } : Jvm.MethodName) ({ cls := "CircuitCycles$Meaning", name := "start", desc := "(LCircuitCycles$Design;)V" } : Jvm.MethodName)) ∈ xw_G := xw_c4 (List.mem_of_getElem? (i := 167) rfl) rfl
theorem wn_4_168 : (Jvm.Cond.code ({ cls := "CircuitCycles$Meaning", name := "start", desc := "(LCircuitCycles$Design;)V" } : Jvm.MethodName) prog_8_method_2_code (2 : Nat) (Option.none : Option Jvm.ClassFile.FieldType)) ∈ xw_G := xw_c4 (List.mem_of_getElem? (i := 168) rfl) rfl
theorem wn_4_169 : (Jvm.Cond.methodLink "CircuitCycles$Grammar" (67 : Nat) ({ cls := "CircuitCycles$Grammar", name := "moduleHead", desc := "()V" } : Jvm.MethodName)) ∈ xw_G := xw_c4 (List.mem_of_getElem? (i := 169) rfl) rfl
theorem wn_4_171 : (Jvm.Cond.instanceMethod ({ cls := "CircuitCycles$Grammar", name := "moduleHead", desc := "()V" } : Jvm.MethodName)) ∈ xw_G := xw_c4 (List.mem_of_getElem? (i := 171) rfl) rfl
theorem wn_4_172 : (Jvm.Cond.code ({ cls := "CircuitCycles$Grammar", name := "moduleHead", desc := "()V" } : Jvm.MethodName) prog_6_method_3_code (2 : Nat) (Option.none : Option Jvm.ClassFile.FieldType)) ∈ xw_G := xw_c4 (List.mem_of_getElem? (i := 172) rfl) rfl
theorem wn_4_173 : (Jvm.Cond.methodLink "CircuitCycles$Grammar" (94 : Nat) ({ cls := "CircuitCycles$Tokens", name := "need", desc := "(I)V" } : Jvm.MethodName)) ∈ xw_G := xw_c4 (List.mem_of_getElem? (i := 173) rfl) rfl
theorem wn_4_174 : (Jvm.Cond.instanceMethod ({ cls := "CircuitCycles$Tokens", name := "need", desc := "(I)V" } : Jvm.MethodName)) ∈ xw_G := xw_c4 (List.mem_of_getElem? (i := 174) rfl) rfl
theorem wn_4_175 : (Jvm.Cond.selects "CircuitCycles$Tokens" ({ cls := "CircuitCycles$Tokens", name := "need", desc := "(I)V" } : Jvm.MethodName) ({ cls := "CircuitCycles$Tokens", name := "need", desc := "(I)V" } : Jvm.MethodName)) ∈ xw_G := xw_c4 (List.mem_of_getElem? (i := 175) rfl) rfl
theorem wn_4_176 : (Jvm.Cond.code ({ cls := "CircuitCycles$Tokens", name := "need", desc := "(I)V" } : Jvm.MethodName) prog_12_method_10_code (2 : Nat) (Option.none : Option Jvm.ClassFile.FieldType)) ∈ xw_G := xw_c4 (List.mem_of_getElem? (i := 176) rfl) rfl
theorem wn_4_177 : (Jvm.Cond.methodLink "CircuitCycles$Tokens" (52 : Nat) ({ cls := "CircuitCycles$Tokens", name := "misfit", desc := "()I" } : Jvm.MethodName)) ∈ xw_G := xw_c4 (List.mem_of_getElem? (i := 177) rfl) rfl
theorem wn_4_179 : (Jvm.Cond.instanceMethod ({ cls := "CircuitCycles$Tokens", name := "misfit", desc := "()I" } : Jvm.MethodName)) ∈ xw_G := xw_c4 (List.mem_of_getElem? (i := 179) rfl) rfl
theorem wn_4_180 : (Jvm.Cond.code ({ cls := "CircuitCycles$Tokens", name := "misfit", desc := "()I" } : Jvm.MethodName) prog_12_method_7_code (1 : Nat) (Option.some Jvm.ClassFile.FieldType.int)) ∈ xw_G := xw_c4 (List.mem_of_getElem? (i := 180) rfl) rfl
theorem wn_4_181 : (Jvm.Cond.methodLink "CircuitCycles$Tokens" (56 : Nat) ({ cls := "CircuitCycles$Tokens", name := "stop", desc := "(I)V" } : Jvm.MethodName)) ∈ xw_G := xw_c4 (List.mem_of_getElem? (i := 181) rfl) rfl
theorem wn_4_183 : (Jvm.Cond.instanceMethod ({ cls := "CircuitCycles$Tokens", name := "stop", desc := "(I)V" } : Jvm.MethodName)) ∈ xw_G := xw_c4 (List.mem_of_getElem? (i := 183) rfl) rfl
theorem wn_4_184 : (Jvm.Cond.code ({ cls := "CircuitCycles$Tokens", name := "stop", desc := "(I)V" } : Jvm.MethodName) prog_12_method_6_code (2 : Nat) (Option.none : Option Jvm.ClassFile.FieldType)) ∈ xw_G := xw_c4 (List.mem_of_getElem? (i := 184) rfl) rfl
theorem wn_4_185 : (Jvm.Cond.methodLink "CircuitCycles$Grammar" (98 : Nat) ({ cls := "CircuitCycles$Tokens", name := "due", desc := "(I)Z" } : Jvm.MethodName)) ∈ xw_G := xw_c4 (List.mem_of_getElem? (i := 185) rfl) rfl
theorem wn_4_186 : (Jvm.Cond.instanceMethod ({ cls := "CircuitCycles$Tokens", name := "due", desc := "(I)Z" } : Jvm.MethodName)) ∈ xw_G := xw_c4 (List.mem_of_getElem? (i := 186) rfl) rfl
theorem wn_4_187 : (Jvm.Cond.selects "CircuitCycles$Tokens" ({ cls := "CircuitCycles$Tokens", name := "due", desc := "(I)Z" } : Jvm.MethodName) ({ cls := "CircuitCycles$Tokens", name := "due", desc := "(I)Z" } : Jvm.MethodName)) ∈ xw_G := xw_c4 (List.mem_of_getElem? (i := 187) rfl) rfl
theorem wn_4_188 : (Jvm.Cond.code ({ cls := "CircuitCycles$Tokens", name := "due", desc := "(I)Z" } : Jvm.MethodName) prog_12_method_9_code (2 : Nat) (Option.some Jvm.ClassFile.FieldType.boolean)) ∈ xw_G := xw_c4 (List.mem_of_getElem? (i := 188) rfl) rfl
theorem wn_4_189 : (Jvm.Cond.methodLink "CircuitCycles$Grammar" (108 : Nat) ({ cls := "CircuitCycles$Meaning", name := "module", desc := "(II)V" } : Jvm.MethodName)) ∈ xw_G := xw_c4 (List.mem_of_getElem? (i := 189) rfl) rfl
theorem wn_4_190 : (Jvm.Cond.instanceMethod ({ cls := "CircuitCycles$Meaning", name := "module", desc := "(II)V" } : Jvm.MethodName)) ∈ xw_G := xw_c4 (List.mem_of_getElem? (i := 190) rfl) rfl
theorem wn_4_191 : (Jvm.Cond.selects "CircuitCycles$Meaning" ({ cls := "CircuitCycles$Meaning", name := "module", desc := "(II)V" } : Jvm.MethodName) ({ cls := "CircuitCycles$Meaning", name := "module", desc := "(II)V" } : Jvm.MethodName)) ∈ xw_G := xw_c4 (List.mem_of_getElem? (i := 191) rfl) rfl
theorem wn_4_192 : (Jvm.Cond.code ({ cls := "CircuitCycles$Meaning", name := "module", desc := "(II)V" } : Jvm.MethodName) prog_8_method_3_code (3 : Nat) (Option.none : Option Jvm.ClassFile.FieldType)) ∈ xw_G := xw_c4 (List.mem_of_getElem? (i := 192) rfl) rfl
theorem wn_4_193 : (Jvm.Cond.methodLink "CircuitCycles$Meaning" (54 : Nat) ({ cls := "CircuitCycles$Checker", name := "isOff", desc := "()Z" } : Jvm.MethodName)) ∈ xw_G := xw_c4 (List.mem_of_getElem? (i := 193) rfl) rfl
theorem wn_4_194 : (Jvm.Cond.instanceMethod ({ cls := "CircuitCycles$Checker", name := "isOff", desc := "()Z" } : Jvm.MethodName)) ∈ xw_G := xw_c4 (List.mem_of_getElem? (i := 194) rfl) rfl
theorem wn_4_195 : (Jvm.Cond.selects "CircuitCycles$Checker" ({ cls := "CircuitCycles$Checker", name := "isOff", desc := "()Z" } : Jvm.MethodName) ({ cls := "CircuitCycles$Checker", name := "isOff", desc := "()Z" } : Jvm.MethodName)) ∈ xw_G := xw_c4 (List.mem_of_getElem? (i := 195) rfl) rfl
theorem wn_4_196 : (Jvm.Cond.code ({ cls := "CircuitCycles$Checker", name := "isOff", desc := "()Z" } : Jvm.MethodName) prog_2_method_4_code (1 : Nat) (Option.some Jvm.ClassFile.FieldType.boolean)) ∈ xw_G := xw_c4 (List.mem_of_getElem? (i := 196) rfl) rfl
theorem wn_4_197 : (Jvm.Cond.methodLink "CircuitCycles$Meaning" (60 : Nat) ({ cls := "CircuitCycles$Checker", name := "moduleOf", desc := "(I)I" } : Jvm.MethodName)) ∈ xw_G := xw_c4 (List.mem_of_getElem? (i := 197) rfl) rfl
theorem wn_4_198 : (Jvm.Cond.instanceMethod ({ cls := "CircuitCycles$Checker", name := "moduleOf", desc := "(I)I" } : Jvm.MethodName)) ∈ xw_G := xw_c4 (List.mem_of_getElem? (i := 198) rfl) rfl
theorem wn_4_199 : (Jvm.Cond.selects "CircuitCycles$Checker" ({ cls := "CircuitCycles$Checker", name := "moduleOf", desc := "(I)I" } : Jvm.MethodName) ({ cls := "CircuitCycles$Checker", name := "moduleOf", desc := "(I)I" } : Jvm.MethodName)) ∈ xw_G := xw_c4 (List.mem_of_getElem? (i := 199) rfl) rfl
theorem wn_4_200 : (Jvm.Cond.code ({ cls := "CircuitCycles$Checker", name := "moduleOf", desc := "(I)I" } : Jvm.MethodName) prog_2_method_6_code (2 : Nat) (Option.some Jvm.ClassFile.FieldType.int)) ∈ xw_G := xw_c4 (List.mem_of_getElem? (i := 200) rfl) rfl
theorem wn_4_201 : (Jvm.Cond.methodLink "CircuitCycles$Meaning" (64 : Nat) ({ cls := "CircuitCycles$Checker", name := "refuse", desc := "(II)V" } : Jvm.MethodName)) ∈ xw_G := xw_c4 (List.mem_of_getElem? (i := 201) rfl) rfl
theorem wn_4_202 : (Jvm.Cond.instanceMethod ({ cls := "CircuitCycles$Checker", name := "refuse", desc := "(II)V" } : Jvm.MethodName)) ∈ xw_G := xw_c4 (List.mem_of_getElem? (i := 202) rfl) rfl
theorem wn_4_203 : (Jvm.Cond.selects "CircuitCycles$Checker" ({ cls := "CircuitCycles$Checker", name := "refuse", desc := "(II)V" } : Jvm.MethodName) ({ cls := "CircuitCycles$Checker", name := "refuse", desc := "(II)V" } : Jvm.MethodName)) ∈ xw_G := xw_c4 (List.mem_of_getElem? (i := 203) rfl) rfl
theorem wn_4_204 : (Jvm.Cond.code ({ cls := "CircuitCycles$Checker", name := "refuse", desc := "(II)V" } : Jvm.MethodName) prog_2_method_5_code (3 : Nat) (Option.none : Option Jvm.ClassFile.FieldType)) ∈ xw_G := xw_c4 (List.mem_of_getElem? (i := 204) rfl) rfl
theorem wn_4_205 : (Jvm.Cond.methodLink "CircuitCycles$Meaning" (68 : Nat) ({ cls := "CircuitCycles$Checker", name := "moduleBegins", desc := "(I)V" } : Jvm.MethodName)) ∈ xw_G := xw_c4 (List.mem_of_getElem? (i := 205) rfl) rfl
theorem wn_4_206 : (Jvm.Cond.instanceMethod ({ cls := "CircuitCycles$Checker", name := "moduleBegins", desc := "(I)V" } : Jvm.MethodName)) ∈ xw_G := xw_c4 (List.mem_of_getElem? (i := 206) rfl) rfl
theorem wn_4_207 : (Jvm.Cond.selects "CircuitCycles$Checker" ({ cls := "CircuitCycles$Checker", name := "moduleBegins", desc := "(I)V" } : Jvm.MethodName) ({ cls := "CircuitCycles$Checker", name := "moduleBegins", desc := "(I)V" } : Jvm.MethodName)) ∈ xw_G := xw_c4 (List.mem_of_getElem? (i := 207) rfl) rfl
theorem wn_4_208 : (Jvm.Cond.code ({ cls := "CircuitCycles$Checker", name := "moduleBegins", desc := "(I)V" } : Jvm.MethodName) prog_2_method_3_code (2 : Nat) (Option.none : Option Jvm.ClassFile.FieldType)) ∈ xw_G := xw_c4 (List.mem_of_getElem? (i := 208) rfl) rfl
theorem wn_4_209 : (Jvm.Cond.methodLink "CircuitCycles$Meaning" (72 : Nat) ({ cls := "CircuitCycles$Design", name := "addModule", desc := "(I)V" } : Jvm.MethodName)) ∈ xw_G := xw_c4 (List.mem_of_getElem? (i := 209) rfl) rfl
theorem wn_4_210 : (Jvm.Cond.instanceMethod ({ cls := "CircuitCycles$Design", name := "addModule", desc := "(I)V" } : Jvm.MethodName)) ∈ xw_G := xw_c4 (List.mem_of_getElem? (i := 210) rfl) rfl
theorem wn_4_211 : (Jvm.Cond.selects "CircuitCycles$Design" ({ cls := "CircuitCycles$Design", name := "addModule", desc := "(I)V" } : Jvm.MethodName) ({ cls := "CircuitCycles$Design", name := "addModule", desc := "(I)V" } : Jvm.MethodName)) ∈ xw_G := xw_c4 (List.mem_of_getElem? (i := 211) rfl) rfl
theorem wn_4_212 : (Jvm.Cond.code ({ cls := "CircuitCycles$Design", name := "addModule", desc := "(I)V" } : Jvm.MethodName) prog_5_method_3_code (2 : Nat) (Option.none : Option Jvm.ClassFile.FieldType)) ∈ xw_G := xw_c4 (List.mem_of_getElem? (i := 212) rfl) rfl
theorem wn_4_213 : (Jvm.Cond.methodLink "CircuitCycles$Grammar" (112 : Nat) ({ cls := "CircuitCycles$Tokens", name := "take", desc := "()V" } : Jvm.MethodName)) ∈ xw_G := xw_c4 (List.mem_of_getElem? (i := 213) rfl) rfl
theorem wn_4_214 : (Jvm.Cond.methodLink "CircuitCycles$Grammar" (115 : Nat) ({ cls := "CircuitCycles$Tokens", name := "open", desc := "(I)V" } : Jvm.MethodName)) ∈ xw_G := xw_c4 (List.mem_of_getElem? (i := 214) rfl) rfl
theorem wn_4_215 : (Jvm.Cond.instanceMethod ({ cls := "CircuitCycles$Tokens", name := "open", desc := "(I)V" } : Jvm.MethodName)) ∈ xw_G := xw_c4 (List.mem_of_getElem? (i := 215) rfl) rfl
theorem wn_4_216 : (Jvm.Cond.selects "CircuitCycles$Tokens" ({ cls := "CircuitCycles$Tokens", name := "open", desc := "(I)V" } : Jvm.MethodName) ({ cls := "CircuitCycles$Tokens", name := "open", desc := "(I)V" } : Jvm.MethodName)) ∈ xw_G := xw_c4 (List.mem_of_getElem? (i := 216) rfl) rfl
theorem wn_4_217 : (Jvm.Cond.code ({ cls := "CircuitCycles$Tokens", name := "open", desc := "(I)V" } : Jvm.MethodName) prog_12_method_11_code (2 : Nat) (Option.none : Option Jvm.ClassFile.FieldType)) ∈ xw_G := xw_c4 (List.mem_of_getElem? (i := 217) rfl) rfl
theorem wn_4_218 : (Jvm.Cond.methodLink "CircuitCycles$Grammar" (118 : Nat) ({ cls := "CircuitCycles$Grammar", name := "port", desc := "()V" } : Jvm.MethodName)) ∈ xw_G := xw_c4 (List.mem_of_getElem? (i := 218) rfl) rfl
theorem wn_4_220 : (Jvm.Cond.instanceMethod ({ cls := "CircuitCycles$Grammar", name := "port", desc := "()V" } : Jvm.MethodName)) ∈ xw_G := xw_c4 (List.mem_of_getElem? (i := 220) rfl) rfl
theorem wn_4_221 : (Jvm.Cond.code ({ cls := "CircuitCycles$Grammar", name := "port", desc := "()V" } : Jvm.MethodName) prog_6_method_4_code (1 : Nat) (Option.none : Option Jvm.ClassFile.FieldType)) ∈ xw_G := xw_c4 (List.mem_of_getElem? (i := 221) rfl) rfl
theorem wn_4_222 : (Jvm.Cond.methodLink "CircuitCycles$Grammar" (127 : Nat) ({ cls := "CircuitCycles$Grammar", name := "declaration", desc := "(I)V" } : Jvm.MethodName)) ∈ xw_G := xw_c4 (List.mem_of_getElem? (i := 222) rfl) rfl
theorem wn_4_224 : (Jvm.Cond.instanceMethod ({ cls := "CircuitCycles$Grammar", name := "declaration", desc := "(I)V" } : Jvm.MethodName)) ∈ xw_G := xw_c4 (List.mem_of_getElem? (i := 224) rfl) rfl
theorem wn_4_225 : (Jvm.Cond.code ({ cls := "CircuitCycles$Grammar", name := "declaration", desc := "(I)V" } : Jvm.MethodName) prog_6_method_5_code (5 : Nat) (Option.none : Option Jvm.ClassFile.FieldType)) ∈ xw_G := xw_c4 (List.mem_of_getElem? (i := 225) rfl) rfl
theorem wn_4_226 : (Jvm.Cond.methodLink "CircuitCycles$Grammar" (121 : Nat) ({ cls := "CircuitCycles$Tokens", name := "shut", desc := "(I)V" } : Jvm.MethodName)) ∈ xw_G := xw_c4 (List.mem_of_getElem? (i := 226) rfl) rfl
theorem wn_4_227 : (Jvm.Cond.instanceMethod ({ cls := "CircuitCycles$Tokens", name := "shut", desc := "(I)V" } : Jvm.MethodName)) ∈ xw_G := xw_c4 (List.mem_of_getElem? (i := 227) rfl) rfl
theorem wn_4_228 : (Jvm.Cond.selects "CircuitCycles$Tokens" ({ cls := "CircuitCycles$Tokens", name := "shut", desc := "(I)V" } : Jvm.MethodName) ({ cls := "CircuitCycles$Tokens", name := "shut", desc := "(I)V" } : Jvm.MethodName)) ∈ xw_G := xw_c4 (List.mem_of_getElem? (i := 228) rfl) rfl
theorem wn_4_229 : (Jvm.Cond.code ({ cls := "CircuitCycles$Tokens", name := "shut", desc := "(I)V" } : Jvm.MethodName) prog_12_method_12_code (2 : Nat) (Option.none : Option Jvm.ClassFile.FieldType)) ∈ xw_G := xw_c4 (List.mem_of_getElem? (i := 229) rfl) rfl
theorem wn_4_230 : (Jvm.Cond.methodLink "CircuitCycles$Grammar" (130 : Nat) ({ cls := "CircuitCycles$Meaning", name := "range", desc := "(III)V" } : Jvm.MethodName)) ∈ xw_G := xw_c4 (List.mem_of_getElem? (i := 230) rfl) rfl
theorem wn_4_231 : (Jvm.Cond.instanceMethod ({ cls := "CircuitCycles$Meaning", name := "range", desc := "(III)V" } : Jvm.MethodName)) ∈ xw_G := xw_c4 (List.mem_of_getElem? (i := 231) rfl) rfl
theorem wn_4_232 : (Jvm.Cond.selects "CircuitCycles$Meaning" ({ cls := "CircuitCycles$Meaning", name := "range", desc := "(III)V" } : Jvm.MethodName) ({ cls := "CircuitCycles$Meaning", name := "range", desc := "(III)V" } : Jvm.MethodName)) ∈ xw_G := xw_c4 (List.mem_of_getElem? (i := 232) rfl) rfl
theorem wn_4_233 : (Jvm.Cond.code ({ cls := "CircuitCycles$Meaning", name := "range", desc := "(III)V" } : Jvm.MethodName) prog_8_method_5_code (4 : Nat) (Option.none : Option Jvm.ClassFile.FieldType)) ∈ xw_G := xw_c4 (List.mem_of_getElem? (i := 233) rfl) rfl
theorem wn_4_234 : (Jvm.Cond.methodLink "CircuitCycles$Grammar" (134 : Nat) ({ cls := "CircuitCycles$Meaning", name := "declare", desc := "(III)V" } : Jvm.MethodName)) ∈ xw_G := xw_c4 (List.mem_of_getElem? (i := 234) rfl) rfl
theorem wn_4_235 : (Jvm.Cond.instanceMethod ({ cls := "CircuitCycles$Meaning", name := "declare", desc := "(III)V" } : Jvm.MethodName)) ∈ xw_G := xw_c4 (List.mem_of_getElem? (i := 235) rfl) rfl
theorem wn_4_236 : (Jvm.Cond.selects "CircuitCycles$Meaning" ({ cls := "CircuitCycles$Meaning", name := "declare", desc := "(III)V" } : Jvm.MethodName) ({ cls := "CircuitCycles$Meaning", name := "declare", desc := "(III)V" } : Jvm.MethodName)) ∈ xw_G := xw_c4 (List.mem_of_getElem? (i := 236) rfl) rfl
theorem wn_4_237 : (Jvm.Cond.code ({ cls := "CircuitCycles$Meaning", name := "declare", desc := "(III)V" } : Jvm.MethodName) prog_8_method_6_code (4 : Nat) (Option.none : Option Jvm.ClassFile.FieldType)) ∈ xw_G := xw_c4 (List.mem_of_getElem? (i := 237) rfl) rfl
theorem wn_4_238 : (Jvm.Cond.methodLink "CircuitCycles$Meaning" (78 : Nat) ({ cls := "CircuitCycles$Checker", name := "meantBy", desc := "(I)I" } : Jvm.MethodName)) ∈ xw_G := xw_c4 (List.mem_of_getElem? (i := 238) rfl) rfl
theorem wn_4_239 : (Jvm.Cond.instanceMethod ({ cls := "CircuitCycles$Checker", name := "meantBy", desc := "(I)I" } : Jvm.MethodName)) ∈ xw_G := xw_c4 (List.mem_of_getElem? (i := 239) rfl) rfl
theorem wn_5_0 : (Jvm.Cond.selects "CircuitCycles$Checker" ({ cls := "CircuitCycles$Checker", name := "meantBy", desc := "(I)I" } : Jvm.MethodName) ({ cls := "CircuitCycles$Checker", name := "meantBy", desc := "(I)I" } : Jvm.MethodName)) ∈ xw_G := xw_c5 (List.mem_of_getElem? (i := 0) rfl) rfl
theorem wn_5_1 : (Jvm.Cond.code ({ cls := "CircuitCycles$Checker", name := "meantBy", desc := "(I)I" } : Jvm.MethodName) prog_2_method_7_code (2 : Nat) (Option.some Jvm.ClassFile.FieldType.int)) ∈ xw_G := xw_c5 (List.mem_of_getElem? (i := 1) rfl) rfl
theorem wn_5_2 : (Jvm.Cond.methodLink "CircuitCycles$Meaning" (86 : Nat) ({ cls := "CircuitCycles$Checker", name := "mean", desc := "(II)V" } : Jvm.MethodName)) ∈ xw_G := xw_c5 (List.mem_of_getElem? (i := 2) rfl) rfl
theorem wn_5_3 : (Jvm.Cond.instanceMethod ({ cls := "CircuitCycles$Checker", name := "mean", desc := "(II)V" } : Jvm.MethodName)) ∈ xw_G := xw_c5 (List.mem_of_getElem? (i := 3) rfl) rfl
theorem wn_5_4 : (Jvm.Cond.selects "CircuitCycles$Checker" ({ cls := "CircuitCycles$Checker", name := "mean", desc := "(II)V" } : Jvm.MethodName) ({ cls := "CircuitCycles$Checker", name := "mean", desc := "(II)V" } : Jvm.MethodName)) ∈ xw_G := xw_c5 (List.mem_of_getElem? (i := 4) rfl) rfl
theorem wn_5_5 : (Jvm.Cond.code ({ cls := "CircuitCycles$Checker", name := "mean", desc := "(II)V" } : Jvm.MethodName) prog_2_method_8_code (3 : Nat) (Option.none : Option Jvm.ClassFile.FieldType)) ∈ xw_G := xw_c5 (List.mem_of_getElem? (i := 5) rfl) rfl
theorem wn_5_6 : (Jvm.Cond.methodLink "CircuitCycles$Meaning" (89 : Nat) ({ cls := "CircuitCycles$Parts", name := "addDecl", desc := "(III)V" } : Jvm.MethodName)) ∈ xw_G := xw_c5 (List.mem_of_getElem? (i := 6) rfl) rfl
theorem wn_5_7 : (Jvm.Cond.instanceMethod ({ cls := "CircuitCycles$Parts", name := "addDecl", desc := "(III)V" } : Jvm.MethodName)) ∈ xw_G := xw_c5 (List.mem_of_getElem? (i := 7) rfl) rfl
theorem wn_5_8 : (Jvm.Cond.selects "CircuitCycles$Parts" ({ cls := "CircuitCycles$Parts", name := "addDecl", desc := "(III)V" } : Jvm.MethodName) ({ cls := "CircuitCycles$Parts", name := "addDecl", desc := "(III)V" } : Jvm.MethodName)) ∈ xw_G := xw_c5 (List.mem_of_getElem? (i := 8) rfl) rfl
theorem wn_5_9 : (Jvm.Cond.code ({ cls := "CircuitCycles$Parts", name := "addDecl", desc := "(III)V" } : Jvm.MethodName) prog_10_method_3_code (4 : Nat) (Option.none : Option Jvm.ClassFile.FieldType)) ∈ xw_G := xw_c5 (List.mem_of_getElem? (i := 9) rfl) rfl
theorem wn_5_10 : (Jvm.Cond.methodLink "CircuitCycles$Grammar" (137 : Nat) ({ cls := "CircuitCycles$Meaning", name := "beginsWith", desc := "(II)V" } : Jvm.MethodName)) ∈ xw_G := xw_c5 (List.mem_of_getElem? (i := 10) rfl) rfl
theorem wn_5_11 : (Jvm.Cond.instanceMethod ({ cls := "CircuitCycles$Meaning", name := "beginsWith", desc := "(II)V" } : Jvm.MethodName)) ∈ xw_G := xw_c5 (List.mem_of_getElem? (i := 11) rfl) rfl
theorem wn_5_12 : (Jvm.Cond.selects "CircuitCycles$Meaning" ({ cls := "CircuitCycles$Meaning", name := "beginsWith", desc := "(II)V" } : Jvm.MethodName) ({ cls := "CircuitCycles$Meaning", name := "beginsWith", desc := "(II)V" } : Jvm.MethodName)) ∈ xw_G := xw_c5 (List.mem_of_getElem? (i := 12) rfl) rfl
theorem wn_5_13 : (Jvm.Cond.code ({ cls := "CircuitCycles$Meaning", name := "beginsWith", desc := "(II)V" } : Jvm.MethodName) prog_8_method_7_code (4 : Nat) (Option.none : Option Jvm.ClassFile.FieldType)) ∈ xw_G := xw_c5 (List.mem_of_getElem? (i := 13) rfl) rfl
theorem wn_5_14 : (Jvm.Cond.methodLink "CircuitCycles$Meaning" (93 : Nat) ({ cls := "CircuitCycles$Code", name := "widthOf", desc := "(I)I" } : Jvm.MethodName)) ∈ xw_G := xw_c5 (List.mem_of_getElem? (i := 14) rfl) rfl
theorem wn_5_15 : (Jvm.Cond.instanceMethod ({ cls := "CircuitCycles$Code", name := "widthOf", desc := "(I)I" } : Jvm.MethodName)) ∈ xw_G := xw_c5 (List.mem_of_getElem? (i := 15) rfl) rfl
theorem wn_5_16 : (Jvm.Cond.selects "CircuitCycles$Code" ({ cls := "CircuitCycles$Code", name := "widthOf", desc := "(I)I" } : Jvm.MethodName) ({ cls := "CircuitCycles$Code", name := "widthOf", desc := "(I)I" } : Jvm.MethodName)) ∈ xw_G := xw_c5 (List.mem_of_getElem? (i := 16) rfl) rfl
theorem wn_5_17 : (Jvm.Cond.code ({ cls := "CircuitCycles$Code", name := "widthOf", desc := "(I)I" } : Jvm.MethodName) prog_4_method_4_code (2 : Nat) (Option.some Jvm.ClassFile.FieldType.int)) ∈ xw_G := xw_c5 (List.mem_of_getElem? (i := 17) rfl) rfl
theorem wn_5_18 : (Jvm.Cond.methodLink "CircuitCycles$Meaning" (103 : Nat) ({ cls := "CircuitCycles$Code", name := "valueOf", desc := "(I)J" } : Jvm.MethodName)) ∈ xw_G := xw_c5 (List.mem_of_getElem? (i := 18) rfl) rfl
theorem wn_5_19 : (Jvm.Cond.instanceMethod ({ cls := "CircuitCycles$Code", name := "valueOf", desc := "(I)J" } : Jvm.MethodName)) ∈ xw_G := xw_c5 (List.mem_of_getElem? (i := 19) rfl) rfl
theorem wn_5_20 : (Jvm.Cond.selects "CircuitCycles$Code" ({ cls := "CircuitCycles$Code", name := "valueOf", desc := "(I)J" } : Jvm.MethodName) ({ cls := "CircuitCycles$Code", name := "valueOf", desc := "(I)J" } : Jvm.MethodName)) ∈ xw_G := xw_c5 (List.mem_of_getElem? (i := 20) rfl) rfl
theorem wn_5_21 : (Jvm.Cond.code ({ cls := "CircuitCycles$Code", name := "valueOf", desc := "(I)J" } : Jvm.MethodName) prog_4_method_5_code (2 : Nat) (Option.some Jvm.ClassFile.FieldType.long)) ∈ xw_G := xw_c5 (List.mem_of_getElem? (i := 21) rfl) rfl
theorem wn_5_22 : (Jvm.Cond.methodLink "CircuitCycles$Grammar" (124 : Nat) ({ cls := "CircuitCycles$Meaning", name := "portsEnd", desc := "()V" } : Jvm.MethodName)) ∈ xw_G := xw_c5 (List.mem_of_getElem? (i := 22) rfl) rfl
theorem wn_5_23 : (Jvm.Cond.instanceMethod ({ cls := "CircuitCycles$Meaning", name := "portsEnd", desc := "()V" } : Jvm.MethodName)) ∈ xw_G := xw_c5 (List.mem_of_getElem? (i := 23) rfl) rfl
theorem wn_5_24 : (Jvm.Cond.selects "CircuitCycles$Meaning" ({ cls := "CircuitCycles$Meaning", name := "portsEnd", desc := "()V" } : Jvm.MethodName) ({ cls := "CircuitCycles$Meaning", name := "portsEnd", desc := "()V" } : Jvm.MethodName)) ∈ xw_G := xw_c5 (List.mem_of_getElem? (i := 24) rfl) rfl
theorem wn_5_25 : (Jvm.Cond.code ({ cls := "CircuitCycles$Meaning", name := "portsEnd", desc := "()V" } : Jvm.MethodName) prog_8_method_4_code (1 : Nat) (Option.none : Option Jvm.ClassFile.FieldType)) ∈ xw_G := xw_c5 (List.mem_of_getElem? (i := 25) rfl) rfl
theorem wn_5_26 : (Jvm.Cond.methodLink "CircuitCycles$Meaning" (75 : Nat) ({ cls := "CircuitCycles$Design", name := "setPorts", desc := "()V" } : Jvm.MethodName)) ∈ xw_G := xw_c5 (List.mem_of_getElem? (i := 26) rfl) rfl
theorem wn_5_27 : (Jvm.Cond.instanceMethod ({ cls := "CircuitCycles$Design", name := "setPorts", desc := "()V" } : Jvm.MethodName)) ∈ xw_G := xw_c5 (List.mem_of_getElem? (i := 27) rfl) rfl
theorem wn_5_28 : (Jvm.Cond.selects "CircuitCycles$Design" ({ cls := "CircuitCycles$Design", name := "setPorts", desc := "()V" } : Jvm.MethodName) ({ cls := "CircuitCycles$Design", name := "setPorts", desc := "()V" } : Jvm.MethodName)) ∈ xw_G := xw_c5 (List.mem_of_getElem? (i := 28) rfl) rfl
theorem wn_5_29 : (Jvm.Cond.code ({ cls := "CircuitCycles$Design", name := "setPorts", desc := "()V" } : Jvm.MethodName) prog_5_method_4_code (1 : Nat) (Option.none : Option Jvm.ClassFile.FieldType)) ∈ xw_G := xw_c5 (List.mem_of_getElem? (i := 29) rfl) rfl
theorem wn_5_30 : (Jvm.Cond.methodLink "CircuitCycles$Grammar" (73 : Nat) ({ cls := "CircuitCycles$Grammar", name := "item", desc := "()V" } : Jvm.MethodName)) ∈ xw_G := xw_c5 (List.mem_of_getElem? (i := 30) rfl) rfl
theorem wn_5_32 : (Jvm.Cond.instanceMethod ({ cls := "CircuitCycles$Grammar", name := "item", desc := "()V" } : Jvm.MethodName)) ∈ xw_G := xw_c5 (List.mem_of_getElem? (i := 32) rfl) rfl
theorem wn_5_33 : (Jvm.Cond.code ({ cls := "CircuitCycles$Grammar", name := "item", desc := "()V" } : Jvm.MethodName) prog_6_method_6_code (2 : Nat) (Option.none : Option Jvm.ClassFile.FieldType)) ∈ xw_G := xw_c5 (List.mem_of_getElem? (i := 33) rfl) rfl
theorem wn_5_34 : (Jvm.Cond.methodLink "CircuitCycles$Grammar" (140 : Nat) ({ cls := "CircuitCycles$Grammar", name := "assignment", desc := "()V" } : Jvm.MethodName)) ∈ xw_G := xw_c5 (List.mem_of_getElem? (i := 34) rfl) rfl
theorem wn_5_36 : (Jvm.Cond.instanceMethod ({ cls := "CircuitCycles$Grammar", name := "assignment", desc := "()V" } : Jvm.MethodName)) ∈ xw_G := xw_c5 (List.mem_of_getElem? (i := 36) rfl) rfl
theorem wn_5_37 : (Jvm.Cond.code ({ cls := "CircuitCycles$Grammar", name := "assignment", desc := "()V" } : Jvm.MethodName) prog_6_method_7_code (1 : Nat) (Option.none : Option Jvm.ClassFile.FieldType)) ∈ xw_G := xw_c5 (List.mem_of_getElem? (i := 37) rfl) rfl
theorem wn_5_38 : (Jvm.Cond.methodLink "CircuitCycles$Grammar" (158 : Nat) ({ cls := "CircuitCycles$Meaning", name := "assignTo", desc := "(II)V" } : Jvm.MethodName)) ∈ xw_G := xw_c5 (List.mem_of_getElem? (i := 38) rfl) rfl
theorem wn_5_39 : (Jvm.Cond.instanceMethod ({ cls := "CircuitCycles$Meaning", name := "assignTo", desc := "(II)V" } : Jvm.MethodName)) ∈ xw_G := xw_c5 (List.mem_of_getElem? (i := 39) rfl) rfl
theorem wn_5_40 : (Jvm.Cond.selects "CircuitCycles$Meaning" ({ cls := "CircuitCycles$Meaning", name := "assignTo", desc := "(II)V" } : Jvm.MethodName) ({ cls := "CircuitCycles$Meaning", name := "assignTo", desc := "(II)V" } : Jvm.MethodName)) ∈ xw_G := xw_c5 (List.mem_of_getElem? (i := 40) rfl) rfl
theorem wn_5_41 : (Jvm.Cond.code ({ cls := "CircuitCycles$Meaning", name := "assignTo", desc := "(II)V" } : Jvm.MethodName) prog_8_method_8_code (4 : Nat) (Option.none : Option Jvm.ClassFile.FieldType)) ∈ xw_G := xw_c5 (List.mem_of_getElem? (i := 41) rfl) rfl
theorem wn_5_42 : (Jvm.Cond.methodLink "CircuitCycles$Meaning" (107 : Nat) ({ cls := "CircuitCycles$Checker", name := "sortOf", desc := "(I)I" } : Jvm.MethodName)) ∈ xw_G := xw_c5 (List.mem_of_getElem? (i := 42) rfl) rfl
theorem wn_5_43 : (Jvm.Cond.instanceMethod ({ cls := "CircuitCycles$Checker", name := "sortOf", desc := "(I)I" } : Jvm.MethodName)) ∈ xw_G := xw_c5 (List.mem_of_getElem? (i := 43) rfl) rfl
theorem wn_5_44 : (Jvm.Cond.selects "CircuitCycles$Checker" ({ cls := "CircuitCycles$Checker", name := "sortOf", desc := "(I)I" } : Jvm.MethodName) ({ cls := "CircuitCycles$Checker", name := "sortOf", desc := "(I)I" } : Jvm.MethodName)) ∈ xw_G := xw_c5 (List.mem_of_getElem? (i := 44) rfl) rfl
theorem wn_5_45 : (Jvm.Cond.code ({ cls := "CircuitCycles$Checker", name := "sortOf", desc := "(I)I" } : Jvm.MethodName) prog_2_method_10_code (2 : Nat) (Option.some Jvm.ClassFile.FieldType.int)) ∈ xw_G := xw_c5 (List.mem_of_getElem? (i := 45) rfl) rfl
theorem wn_5_46 : (Jvm.Cond.methodLink "CircuitCycles$Grammar" (146 : Nat) ({ cls := "CircuitCycles$Grammar", name := "expFor", desc := "(I)V" } : Jvm.MethodName)) ∈ xw_G := xw_c5 (List.mem_of_getElem? (i := 46) rfl) rfl
theorem wn_5_48 : (Jvm.Cond.instanceMethod ({ cls := "CircuitCycles$Grammar", name := "expFor", desc := "(I)V" } : Jvm.MethodName)) ∈ xw_G := xw_c5 (List.mem_of_getElem? (i := 48) rfl) rfl
theorem wn_5_49 : (Jvm.Cond.code ({ cls := "CircuitCycles$Grammar", name := "expFor", desc := "(I)V" } : Jvm.MethodName) prog_6_method_23_code (2 : Nat) (Option.none : Option Jvm.ClassFile.FieldType)) ∈ xw_G := xw_c5 (List.mem_of_getElem? (i := 49) rfl) rfl
theorem wn_5_50 : (Jvm.Cond.methodLink "CircuitCycles$Grammar" (252 : Nat) ({ cls := "CircuitCycles$Checker", name := "expBegins", desc := "()V" } : Jvm.MethodName)) ∈ xw_G := xw_c5 (List.mem_of_getElem? (i := 50) rfl) rfl
theorem wn_5_51 : (Jvm.Cond.instanceMethod ({ cls := "CircuitCycles$Checker", name := "expBegins", desc := "()V" } : Jvm.MethodName)) ∈ xw_G := xw_c5 (List.mem_of_getElem? (i := 51) rfl) rfl
theorem wn_5_52 : (Jvm.Cond.selects "CircuitCycles$Checker" ({ cls := "CircuitCycles$Checker", name := "expBegins", desc := "()V" } : Jvm.MethodName) ({ cls := "CircuitCycles$Checker", name := "expBegins", desc := "()V" } : Jvm.MethodName)) ∈ xw_G := xw_c5 (List.mem_of_getElem? (i := 52) rfl) rfl
theorem wn_5_53 : (Jvm.Cond.code ({ cls := "CircuitCycles$Checker", name := "expBegins", desc := "()V" } : Jvm.MethodName) prog_2_method_13_code (1 : Nat) (Option.none : Option Jvm.ClassFile.FieldType)) ∈ xw_G := xw_c5 (List.mem_of_getElem? (i := 53) rfl) rfl
theorem wn_5_54 : (Jvm.Cond.methodLink "CircuitCycles$Checker" (82 : Nat) ({ cls := "CircuitCycles$Checker", name := "isOff", desc := "()Z" } : Jvm.MethodName)) ∈ xw_G := xw_c5 (List.mem_of_getElem? (i := 54) rfl) rfl
theorem wn_5_55 : (Jvm.Cond.methodLink "CircuitCycles$Grammar" (143 : Nat) ({ cls := "CircuitCycles$Grammar", name := "always", desc := "()V" } : Jvm.MethodName)) ∈ xw_G := xw_c5 (List.mem_of_getElem? (i := 55) rfl) rfl
theorem wn_5_57 : (Jvm.Cond.instanceMethod ({ cls := "CircuitCycles$Grammar", name := "always", desc := "()V" } : Jvm.MethodName)) ∈ xw_G := xw_c5 (List.mem_of_getElem? (i := 57) rfl) rfl
theorem wn_5_58 : (Jvm.Cond.code ({ cls := "CircuitCycles$Grammar", name := "always", desc := "()V" } : Jvm.MethodName) prog_6_method_8_code (1 : Nat) (Option.none : Option Jvm.ClassFile.FieldType)) ∈ xw_G := xw_c5 (List.mem_of_getElem? (i := 58) rfl) rfl
theorem wn_5_59 : (Jvm.Cond.methodLink "CircuitCycles$Grammar" (164 : Nat) ({ cls := "CircuitCycles$Meaning", name := "always", desc := "()V" } : Jvm.MethodName)) ∈ xw_G := xw_c5 (List.mem_of_getElem? (i := 59) rfl) rfl
theorem wn_5_60 : (Jvm.Cond.instanceMethod ({ cls := "CircuitCycles$Meaning", name := "always", desc := "()V" } : Jvm.MethodName)) ∈ xw_G := xw_c5 (List.mem_of_getElem? (i := 60) rfl) rfl
theorem wn_5_61 : (Jvm.Cond.selects "CircuitCycles$Meaning" ({ cls := "CircuitCycles$Meaning", name := "always", desc := "()V" } : Jvm.MethodName) ({ cls := "CircuitCycles$Meaning", name := "always", desc := "()V" } : Jvm.MethodName)) ∈ xw_G := xw_c5 (List.mem_of_getElem? (i := 61) rfl) rfl
theorem wn_5_62 : (Jvm.Cond.code ({ cls := "CircuitCycles$Meaning", name := "always", desc := "()V" } : Jvm.MethodName) prog_8_method_17_code (1 : Nat) (Option.none : Option Jvm.ClassFile.FieldType)) ∈ xw_G := xw_c5 (List.mem_of_getElem? (i := 62) rfl) rfl
theorem wn_5_63 : (Jvm.Cond.methodLink "CircuitCycles$Grammar" (149 : Nat) ({ cls := "CircuitCycles$Grammar", name := "instance", desc := "()V" } : Jvm.MethodName)) ∈ xw_G := xw_c5 (List.mem_of_getElem? (i := 63) rfl) rfl
theorem wn_5_65 : (Jvm.Cond.instanceMethod ({ cls := "CircuitCycles$Grammar", name := "instance", desc := "()V" } : Jvm.MethodName)) ∈ xw_G := xw_c5 (List.mem_of_getElem? (i := 65) rfl) rfl
theorem wn_5_66 : (Jvm.Cond.code ({ cls := "CircuitCycles$Grammar", name := "instance", desc := "()V" } : Jvm.MethodName) prog_6_method_9_code (1 : Nat) (Option.none : Option Jvm.ClassFile.FieldType)) ∈ xw_G := xw_c5 (List.mem_of_getElem? (i := 66) rfl) rfl
theorem wn_5_67 : (Jvm.Cond.methodLink "CircuitCycles$Grammar" (165 : Nat) ({ cls := "CircuitCycles$Meaning", name := "instance", desc := "(II)V" } : Jvm.MethodName)) ∈ xw_G := xw_c5 (List.mem_of_getElem? (i := 67) rfl) rfl
theorem wn_5_68 : (Jvm.Cond.instanceMethod ({ cls := "CircuitCycles$Meaning", name := "instance", desc := "(II)V" } : Jvm.MethodName)) ∈ xw_G := xw_c5 (List.mem_of_getElem? (i := 68) rfl) rfl
theorem wn_5_69 : (Jvm.Cond.selects "CircuitCycles$Meaning" ({ cls := "CircuitCycles$Meaning", name := "instance", desc := "(II)V" } : Jvm.MethodName) ({ cls := "CircuitCycles$Meaning", name := "instance", desc := "(II)V" } : Jvm.MethodName)) ∈ xw_G := xw_c5 (List.mem_of_getElem? (i := 69) rfl) rfl
theorem wn_5_70 : (Jvm.Cond.code ({ cls := "CircuitCycles$Meaning", name := "instance", desc := "(II)V" } : Jvm.MethodName) prog_8_method_11_code (4 : Nat) (Option.none : Option Jvm.ClassFile.FieldType)) ∈ xw_G := xw_c5 (List.mem_of_getElem? (i := 70) rfl) rfl
theorem wn_5_71 : (Jvm.Cond.methodLink "CircuitCycles$Meaning" (139 : Nat) ({ cls := "CircuitCycles$Parts", name := "addChild", desc := "(I)V" } : Jvm.MethodName)) ∈ xw_G := xw_c5 (List.mem_of_getElem? (i := 71) rfl) rfl
theorem wn_5_72 : (Jvm.Cond.instanceMethod ({ cls := "CircuitCycles$Parts", name := "addChild", desc := "(I)V" } : Jvm.MethodName)) ∈ xw_G := xw_c5 (List.mem_of_getElem? (i := 72) rfl) rfl
theorem wn_5_73 : (Jvm.Cond.selects "CircuitCycles$Parts" ({ cls := "CircuitCycles$Parts", name := "addChild", desc := "(I)V" } : Jvm.MethodName) ({ cls := "CircuitCycles$Parts", name := "addChild", desc := "(I)V" } : Jvm.MethodName)) ∈ xw_G := xw_c5 (List.mem_of_getElem? (i := 73) rfl) rfl
theorem wn_5_74 : (Jvm.Cond.code ({ cls := "CircuitCycles$Parts", name := "addChild", desc := "(I)V" } : Jvm.MethodName) prog_10_method_4_code (2 : Nat) (Option.none : Option Jvm.ClassFile.FieldType)) ∈ xw_G := xw_c5 (List.mem_of_getElem? (i := 74) rfl) rfl
theorem wn_5_75 : (Jvm.Cond.methodLink "CircuitCycles$Grammar" (167 : Nat) ({ cls := "CircuitCycles$Meaning", name := "instanceName", desc := "(II)V" } : Jvm.MethodName)) ∈ xw_G := xw_c5 (List.mem_of_getElem? (i := 75) rfl) rfl
theorem wn_5_76 : (Jvm.Cond.instanceMethod ({ cls := "CircuitCycles$Meaning", name := "instanceName", desc := "(II)V" } : Jvm.MethodName)) ∈ xw_G := xw_c5 (List.mem_of_getElem? (i := 76) rfl) rfl
theorem wn_5_77 : (Jvm.Cond.selects "CircuitCycles$Meaning" ({ cls := "CircuitCycles$Meaning", name := "instanceName", desc := "(II)V" } : Jvm.MethodName) ({ cls := "CircuitCycles$Meaning", name := "instanceName", desc := "(II)V" } : Jvm.MethodName)) ∈ xw_G := xw_c5 (List.mem_of_getElem? (i := 77) rfl) rfl
theorem wn_5_78 : (Jvm.Cond.code ({ cls := "CircuitCycles$Meaning", name := "instanceName", desc := "(II)V" } : Jvm.MethodName) prog_8_method_12_code (4 : Nat) (Option.none : Option Jvm.ClassFile.FieldType)) ∈ xw_G := xw_c5 (List.mem_of_getElem? (i := 78) rfl) rfl
theorem wn_5_79 : (Jvm.Cond.methodLink "CircuitCycles$Grammar" (170 : Nat) ({ cls := "CircuitCycles$Grammar", name := "instanceEnd", desc := "()V" } : Jvm.MethodName)) ∈ xw_G := xw_c5 (List.mem_of_getElem? (i := 79) rfl) rfl
theorem wn_5_81 : (Jvm.Cond.instanceMethod ({ cls := "CircuitCycles$Grammar", name := "instanceEnd", desc := "()V" } : Jvm.MethodName)) ∈ xw_G := xw_c5 (List.mem_of_getElem? (i := 81) rfl) rfl
theorem wn_5_82 : (Jvm.Cond.code ({ cls := "CircuitCycles$Grammar", name := "instanceEnd", desc := "()V" } : Jvm.MethodName) prog_6_method_10_code (1 : Nat) (Option.none : Option Jvm.ClassFile.FieldType)) ∈ xw_G := xw_c5 (List.mem_of_getElem? (i := 82) rfl) rfl
theorem wn_5_83 : (Jvm.Cond.methodLink "CircuitCycles$Grammar" (173 : Nat) ({ cls := "CircuitCycles$Meaning", name := "instanceEnd", desc := "()V" } : Jvm.MethodName)) ∈ xw_G := xw_c5 (List.mem_of_getElem? (i := 83) rfl) rfl
theorem wn_5_84 : (Jvm.Cond.instanceMethod ({ cls := "CircuitCycles$Meaning", name := "instanceEnd", desc := "()V" } : Jvm.MethodName)) ∈ xw_G := xw_c5 (List.mem_of_getElem? (i := 84) rfl) rfl
theorem wn_5_85 : (Jvm.Cond.selects "CircuitCycles$Meaning" ({ cls := "CircuitCycles$Meaning", name := "instanceEnd", desc := "()V" } : Jvm.MethodName) ({ cls := "CircuitCycles$Meaning", name := "instanceEnd", desc := "()V" } : Jvm.MethodName)) ∈ xw_G := xw_c5 (List.mem_of_getElem? (i := 85) rfl) rfl
theorem wn_5_86 : (Jvm.Cond.code ({ cls := "CircuitCycles$Meaning", name := "instanceEnd", desc := "()V" } : Jvm.MethodName) prog_8_method_15_code (3 : Nat) (Option.none : Option Jvm.ClassFile.FieldType)) ∈ xw_G := xw_c5 (List.mem_of_getElem? (i := 86) rfl) rfl
theorem wn_5_87 : (Jvm.Cond.methodLink "CircuitCycles$Meaning" (154 : Nat) ({ cls := "CircuitCycles$Design", name := "portCount", desc := "(I)I" } : Jvm.MethodName)) ∈ xw_G := xw_c5 (List.mem_of_getElem? (i := 87) rfl) rfl
theorem wn_5_88 : (Jvm.Cond.instanceMethod ({ cls := "CircuitCycles$Design", name := "portCount", desc := "(I)I" } : Jvm.MethodName)) ∈ xw_G := xw_c5 (List.mem_of_getElem? (i := 88) rfl) rfl
theorem wn_5_89 : (Jvm.Cond.selects "CircuitCycles$Design" ({ cls := "CircuitCycles$Design", name := "portCount", desc := "(I)I" } : Jvm.MethodName) ({ cls := "CircuitCycles$Design", name := "portCount", desc := "(I)I" } : Jvm.MethodName)) ∈ xw_G := xw_c5 (List.mem_of_getElem? (i := 89) rfl) rfl
theorem wn_5_90 : (Jvm.Cond.code ({ cls := "CircuitCycles$Design", name := "portCount", desc := "(I)I" } : Jvm.MethodName) prog_5_method_7_code (2 : Nat) (Option.some Jvm.ClassFile.FieldType.int)) ∈ xw_G := xw_c5 (List.mem_of_getElem? (i := 90) rfl) rfl
theorem wn_5_91 : (Jvm.Cond.methodLink "CircuitCycles$Design" (92 : Nat) ({ cls := "CircuitCycles$Design", name := "isModule", desc := "(I)Z" } : Jvm.MethodName)) ∈ xw_G := xw_c5 (List.mem_of_getElem? (i := 91) rfl) rfl
theorem wn_5_93 : (Jvm.Cond.instanceMethod ({ cls := "CircuitCycles$Design", name := "isModule", desc := "(I)Z" } : Jvm.MethodName)) ∈ xw_G := xw_c5 (List.mem_of_getElem? (i := 93) rfl) rfl
theorem wn_5_94 : (Jvm.Cond.code ({ cls := "CircuitCycles$Design", name := "isModule", desc := "(I)Z" } : Jvm.MethodName) prog_5_method_6_code (2 : Nat) (Option.some Jvm.ClassFile.FieldType.boolean)) ∈ xw_G := xw_c5 (List.mem_of_getElem? (i := 94) rfl) rfl
theorem wn_5_95 : (Jvm.Cond.methodLink "CircuitCycles$Grammar" (152 : Nat) ({ cls := "CircuitCycles$Meaning", name := "moduleEnd", desc := "()V" } : Jvm.MethodName)) ∈ xw_G := xw_c5 (List.mem_of_getElem? (i := 95) rfl) rfl
theorem wn_5_96 : (Jvm.Cond.instanceMethod ({ cls := "CircuitCycles$Meaning", name := "moduleEnd", desc := "()V" } : Jvm.MethodName)) ∈ xw_G := xw_c5 (List.mem_of_getElem? (i := 96) rfl) rfl
theorem wn_5_97 : (Jvm.Cond.selects "CircuitCycles$Meaning" ({ cls := "CircuitCycles$Meaning", name := "moduleEnd", desc := "()V" } : Jvm.MethodName) ({ cls := "CircuitCycles$Meaning", name := "moduleEnd", desc := "()V" } : Jvm.MethodName)) ∈ xw_G := xw_c5 (List.mem_of_getElem? (i := 97) rfl) rfl
theorem wn_5_98 : (Jvm.Cond.code ({ cls := "CircuitCycles$Meaning", name := "moduleEnd", desc := "()V" } : Jvm.MethodName) prog_8_method_16_code (2 : Nat) (Option.none : Option Jvm.ClassFile.FieldType)) ∈ xw_G := xw_c5 (List.mem_of_getElem? (i := 98) rfl) rfl
theorem wn_5_99 : (Jvm.Cond.methodLink "CircuitCycles$Meaning" (151 : Nat) ({ cls := "CircuitCycles$Design", name := "firstDecl", desc := "(I)I" } : Jvm.MethodName)) ∈ xw_G := xw_c5 (List.mem_of_getElem? (i := 99) rfl) rfl
theorem wn_5_100 : (Jvm.Cond.instanceMethod ({ cls := "CircuitCycles$Design", name := "firstDecl", desc := "(I)I" } : Jvm.MethodName)) ∈ xw_G := xw_c5 (List.mem_of_getElem? (i := 100) rfl) rfl
theorem wn_5_101 : (Jvm.Cond.selects "CircuitCycles$Design" ({ cls := "CircuitCycles$Design", name := "firstDecl", desc := "(I)I" } : Jvm.MethodName) ({ cls := "CircuitCycles$Design", name := "firstDecl", desc := "(I)I" } : Jvm.MethodName)) ∈ xw_G := xw_c5 (List.mem_of_getElem? (i := 101) rfl) rfl
theorem wn_5_102 : (Jvm.Cond.code ({ cls := "CircuitCycles$Design", name := "firstDecl", desc := "(I)I" } : Jvm.MethodName) prog_5_method_8_code (2 : Nat) (Option.some Jvm.ClassFile.FieldType.int)) ∈ xw_G := xw_c5 (List.mem_of_getElem? (i := 102) rfl) rfl
theorem wn_5_103 : (Jvm.Cond.methodLink "CircuitCycles$Meaning" (195 : Nat) ({ cls := "CircuitCycles$Design", name := "sumUp", desc := "(I)V" } : Jvm.MethodName)) ∈ xw_G := xw_c5 (List.mem_of_getElem? (i := 103) rfl) rfl
theorem wn_5_104 : (Jvm.Cond.instanceMethod ({ cls := "CircuitCycles$Design", name := "sumUp", desc := "(I)V" } : Jvm.MethodName)) ∈ xw_G := xw_c5 (List.mem_of_getElem? (i := 104) rfl) rfl
theorem wn_5_105 : (Jvm.Cond.selects "CircuitCycles$Design" ({ cls := "CircuitCycles$Design", name := "sumUp", desc := "(I)V" } : Jvm.MethodName) ({ cls := "CircuitCycles$Design", name := "sumUp", desc := "(I)V" } : Jvm.MethodName)) ∈ xw_G := xw_c5 (List.mem_of_getElem? (i := 105) rfl) rfl
theorem wn_5_106 : (Jvm.Cond.code ({ cls := "CircuitCycles$Design", name := "sumUp", desc := "(I)V" } : Jvm.MethodName) prog_5_method_14_code (8 : Nat) (Option.none : Option Jvm.ClassFile.FieldType)) ∈ xw_G := xw_c5 (List.mem_of_getElem? (i := 106) rfl) rfl
theorem wn_5_108 : (Jvm.Cond.static ({ cls := "CircuitCycles", name := "capped", desc := "(II)I" } : Jvm.MethodName)) ∈ xw_G := xw_c5 (List.mem_of_getElem? (i := 108) rfl) rfl
theorem wn_5_109 : (Jvm.Cond.code ({ cls := "CircuitCycles", name := "capped", desc := "(II)I" } : Jvm.MethodName) prog_1_method_15_code (2 : Nat) (Option.some Jvm.ClassFile.FieldType.int)) ∈ xw_G := xw_c5 (List.mem_of_getElem? (i := 109) rfl) rfl
theorem wn_5_110 : (Jvm.Cond.constant "CircuitCycles" (193 : Nat) (268435456 : Int32)) ∈ xw_G := xw_c5 (List.mem_of_getElem? (i := 110) rfl) rfl
theorem wn_5_111 : (Jvm.Cond.methodLink "CircuitCycles" (194 : Nat) ({ cls := "java/lang/Math", name := "min", desc := "(II)I" } : Jvm.MethodName)) ∈ xw_G := xw_c5 (List.mem_of_getElem? (i := 111) rfl) rfl
theorem wn_5_112 : (Jvm.Cond.methodLink "CircuitCycles$Design" (96 : Nat) ({ cls := "CircuitCycles$Design", name := "sumOf", desc := "(II)I" } : Jvm.MethodName)) ∈ xw_G := xw_c5 (List.mem_of_getElem? (i := 112) rfl) rfl
theorem wn_5_113 : (Jvm.Cond.instanceMethod ({ cls := "CircuitCycles$Design", name := "sumOf", desc := "(II)I" } : Jvm.MethodName)) ∈ xw_G := xw_c5 (List.mem_of_getElem? (i := 113) rfl) rfl
theorem wn_5_114 : (Jvm.Cond.selects "CircuitCycles$Design" ({ cls := "CircuitCycles$Design", name := "sumOf", desc := "(II)I" } : Jvm.MethodName) ({ cls := "CircuitCycles$Design", name := "sumOf", desc := "(II)I" } : Jvm.MethodName)) ∈ xw_G := xw_c5 (List.mem_of_getElem? (i := 114) rfl) rfl
theorem wn_5_115 : (Jvm.Cond.code ({ cls := "CircuitCycles$Design", name := "sumOf", desc := "(II)I" } : Jvm.MethodName) prog_5_method_11_code (3 : Nat) (Option.some Jvm.ClassFile.FieldType.int)) ∈ xw_G := xw_c5 (List.mem_of_getElem? (i := 115) rfl) rfl
theorem wn_5_116 : (Jvm.Cond.methodLink "CircuitCycles$Grammar" (155 : Nat) ({ cls := "CircuitCycles$Tokens", name := "refuse", desc := "()V" } : Jvm.MethodName)) ∈ xw_G := xw_c5 (List.mem_of_getElem? (i := 116) rfl) rfl
theorem wn_5_117 : (Jvm.Cond.instanceMethod ({ cls := "CircuitCycles$Tokens", name := "refuse", desc := "()V" } : Jvm.MethodName)) ∈ xw_G := xw_c5 (List.mem_of_getElem? (i := 117) rfl) rfl
theorem wn_5_118 : (Jvm.Cond.selects "CircuitCycles$Tokens" ({ cls := "CircuitCycles$Tokens", name := "refuse", desc := "()V" } : Jvm.MethodName) ({ cls := "CircuitCycles$Tokens", name := "refuse", desc := "()V" } : Jvm.MethodName)) ∈ xw_G := xw_c5 (List.mem_of_getElem? (i := 118) rfl) rfl
theorem wn_5_119 : (Jvm.Cond.code ({ cls := "CircuitCycles$Tokens", name := "refuse", desc := "()V" } : Jvm.MethodName) prog_12_method_8_code (1 : Nat) (Option.none : Option Jvm.ClassFile.FieldType)) ∈ xw_G := xw_c5 (List.mem_of_getElem? (i := 119) rfl) rfl
theorem wn_5_120 : (Jvm.Cond.methodLink "CircuitCycles$Grammar" (76 : Nat) ({ cls := "CircuitCycles$Grammar", name := "link", desc := "()V" } : Jvm.MethodName)) ∈ xw_G := xw_c5 (List.mem_of_getElem? (i := 120) rfl) rfl
theorem wn_5_122 : (Jvm.Cond.instanceMethod ({ cls := "CircuitCycles$Grammar", name := "link", desc := "()V" } : Jvm.MethodName)) ∈ xw_G := xw_c5 (List.mem_of_getElem? (i := 122) rfl) rfl
theorem wn_5_123 : (Jvm.Cond.code ({ cls := "CircuitCycles$Grammar", name := "link", desc := "()V" } : Jvm.MethodName) prog_6_method_11_code (1 : Nat) (Option.none : Option Jvm.ClassFile.FieldType)) ∈ xw_G := xw_c5 (List.mem_of_getElem? (i := 123) rfl) rfl
theorem wn_5_124 : (Jvm.Cond.methodLink "CircuitCycles$Grammar" (177 : Nat) ({ cls := "CircuitCycles$Meaning", name := "linkTo", desc := "(II)V" } : Jvm.MethodName)) ∈ xw_G := xw_c5 (List.mem_of_getElem? (i := 124) rfl) rfl
theorem wn_5_125 : (Jvm.Cond.instanceMethod ({ cls := "CircuitCycles$Meaning", name := "linkTo", desc := "(II)V" } : Jvm.MethodName)) ∈ xw_G := xw_c5 (List.mem_of_getElem? (i := 125) rfl) rfl
theorem wn_5_126 : (Jvm.Cond.selects "CircuitCycles$Meaning" ({ cls := "CircuitCycles$Meaning", name := "linkTo", desc := "(II)V" } : Jvm.MethodName) ({ cls := "CircuitCycles$Meaning", name := "linkTo", desc := "(II)V" } : Jvm.MethodName)) ∈ xw_G := xw_c5 (List.mem_of_getElem? (i := 126) rfl) rfl
theorem wn_5_127 : (Jvm.Cond.code ({ cls := "CircuitCycles$Meaning", name := "linkTo", desc := "(II)V" } : Jvm.MethodName) prog_8_method_13_code (6 : Nat) (Option.none : Option Jvm.ClassFile.FieldType)) ∈ xw_G := xw_c5 (List.mem_of_getElem? (i := 127) rfl) rfl
theorem wn_5_128 : (Jvm.Cond.methodLink "CircuitCycles$Meaning" (157 : Nat) ({ cls := "CircuitCycles$Checker", name := "declCalled", desc := "(III)I" } : Jvm.MethodName)) ∈ xw_G := xw_c5 (List.mem_of_getElem? (i := 128) rfl) rfl
theorem wn_5_129 : (Jvm.Cond.instanceMethod ({ cls := "CircuitCycles$Checker", name := "declCalled", desc := "(III)I" } : Jvm.MethodName)) ∈ xw_G := xw_c5 (List.mem_of_getElem? (i := 129) rfl) rfl
theorem wn_5_130 : (Jvm.Cond.selects "CircuitCycles$Checker" ({ cls := "CircuitCycles$Checker", name := "declCalled", desc := "(III)I" } : Jvm.MethodName) ({ cls := "CircuitCycles$Checker", name := "declCalled", desc := "(III)I" } : Jvm.MethodName)) ∈ xw_G := xw_c5 (List.mem_of_getElem? (i := 130) rfl) rfl
theorem wn_5_131 : (Jvm.Cond.code ({ cls := "CircuitCycles$Checker", name := "declCalled", desc := "(III)I" } : Jvm.MethodName) prog_2_method_9_code (5 : Nat) (Option.some Jvm.ClassFile.FieldType.int)) ∈ xw_G := xw_c5 (List.mem_of_getElem? (i := 131) rfl) rfl
theorem wn_5_132 : (Jvm.Cond.methodLink "CircuitCycles$Checker" (70 : Nat) ({ cls := "java/lang/Math", name := "max", desc := "(II)I" } : Jvm.MethodName)) ∈ xw_G := xw_c5 (List.mem_of_getElem? (i := 132) rfl) rfl
theorem wn_5_133 : (Jvm.Cond.methodLink "CircuitCycles$Meaning" (164 : Nat) ({ cls := "CircuitCycles$Parts", name := "isLinked", desc := "(II)Z" } : Jvm.MethodName)) ∈ xw_G := xw_c5 (List.mem_of_getElem? (i := 133) rfl) rfl
theorem wn_5_134 : (Jvm.Cond.instanceMethod ({ cls := "CircuitCycles$Parts", name := "isLinked", desc := "(II)Z" } : Jvm.MethodName)) ∈ xw_G := xw_c5 (List.mem_of_getElem? (i := 134) rfl) rfl
theorem wn_5_135 : (Jvm.Cond.selects "CircuitCycles$Parts" ({ cls := "CircuitCycles$Parts", name := "isLinked", desc := "(II)Z" } : Jvm.MethodName) ({ cls := "CircuitCycles$Parts", name := "isLinked", desc := "(II)Z" } : Jvm.MethodName)) ∈ xw_G := xw_c5 (List.mem_of_getElem? (i := 135) rfl) rfl
theorem wn_5_136 : (Jvm.Cond.code ({ cls := "CircuitCycles$Parts", name := "isLinked", desc := "(II)Z" } : Jvm.MethodName) prog_10_method_7_code (4 : Nat) (Option.some Jvm.ClassFile.FieldType.boolean)) ∈ xw_G := xw_c5 (List.mem_of_getElem? (i := 136) rfl) rfl
theorem wn_5_137 : (Jvm.Cond.methodLink "CircuitCycles$Meaning" (168 : Nat) ({ cls := "CircuitCycles$Parts", name := "addLink", desc := "(I)V" } : Jvm.MethodName)) ∈ xw_G := xw_c5 (List.mem_of_getElem? (i := 137) rfl) rfl
theorem wn_5_138 : (Jvm.Cond.instanceMethod ({ cls := "CircuitCycles$Parts", name := "addLink", desc := "(I)V" } : Jvm.MethodName)) ∈ xw_G := xw_c5 (List.mem_of_getElem? (i := 138) rfl) rfl
theorem wn_5_139 : (Jvm.Cond.selects "CircuitCycles$Parts" ({ cls := "CircuitCycles$Parts", name := "addLink", desc := "(I)V" } : Jvm.MethodName) ({ cls := "CircuitCycles$Parts", name := "addLink", desc := "(I)V" } : Jvm.MethodName)) ∈ xw_G := xw_c5 (List.mem_of_getElem? (i := 139) rfl) rfl
theorem wn_5_140 : (Jvm.Cond.code ({ cls := "CircuitCycles$Parts", name := "addLink", desc := "(I)V" } : Jvm.MethodName) prog_10_method_5_code (2 : Nat) (Option.none : Option Jvm.ClassFile.FieldType)) ∈ xw_G := xw_c5 (List.mem_of_getElem? (i := 140) rfl) rfl
theorem wn_5_141 : (Jvm.Cond.methodLink "CircuitCycles$Grammar" (79 : Nat) ({ cls := "CircuitCycles$Grammar", name := "statement", desc := "()V" } : Jvm.MethodName)) ∈ xw_G := xw_c5 (List.mem_of_getElem? (i := 141) rfl) rfl
theorem wn_5_143 : (Jvm.Cond.instanceMethod ({ cls := "CircuitCycles$Grammar", name := "statement", desc := "()V" } : Jvm.MethodName)) ∈ xw_G := xw_c5 (List.mem_of_getElem? (i := 143) rfl) rfl
theorem wn_5_144 : (Jvm.Cond.code ({ cls := "CircuitCycles$Grammar", name := "statement", desc := "()V" } : Jvm.MethodName) prog_6_method_13_code (1 : Nat) (Option.none : Option Jvm.ClassFile.FieldType)) ∈ xw_G := xw_c5 (List.mem_of_getElem? (i := 144) rfl) rfl
theorem wn_5_145 : (Jvm.Cond.methodLink "CircuitCycles$Grammar" (199 : Nat) ({ cls := "CircuitCycles$Grammar", name := "enter", desc := "(I)V" } : Jvm.MethodName)) ∈ xw_G := xw_c5 (List.mem_of_getElem? (i := 145) rfl) rfl
theorem wn_5_147 : (Jvm.Cond.instanceMethod ({ cls := "CircuitCycles$Grammar", name := "enter", desc := "(I)V" } : Jvm.MethodName)) ∈ xw_G := xw_c5 (List.mem_of_getElem? (i := 147) rfl) rfl
theorem wn_5_148 : (Jvm.Cond.code ({ cls := "CircuitCycles$Grammar", name := "enter", desc := "(I)V" } : Jvm.MethodName) prog_6_method_16_code (2 : Nat) (Option.none : Option Jvm.ClassFile.FieldType)) ∈ xw_G := xw_c5 (List.mem_of_getElem? (i := 148) rfl) rfl
theorem wn_5_149 : (Jvm.Cond.methodLink "CircuitCycles$Grammar" (216 : Nat) ({ cls := "CircuitCycles$Grammar", name := "goOnIn", desc := "(I)V" } : Jvm.MethodName)) ∈ xw_G := xw_c5 (List.mem_of_getElem? (i := 149) rfl) rfl
theorem wn_5_151 : (Jvm.Cond.instanceMethod ({ cls := "CircuitCycles$Grammar", name := "goOnIn", desc := "(I)V" } : Jvm.MethodName)) ∈ xw_G := xw_c5 (List.mem_of_getElem? (i := 151) rfl) rfl
theorem wn_5_152 : (Jvm.Cond.code ({ cls := "CircuitCycles$Grammar", name := "goOnIn", desc := "(I)V" } : Jvm.MethodName) prog_6_method_17_code (2 : Nat) (Option.none : Option Jvm.ClassFile.FieldType)) ∈ xw_G := xw_c5 (List.mem_of_getElem? (i := 152) rfl) rfl
theorem wn_5_153 : (Jvm.Cond.methodLink "CircuitCycles$Grammar" (202 : Nat) ({ cls := "CircuitCycles$Grammar", name := "store", desc := "()V" } : Jvm.MethodName)) ∈ xw_G := xw_c5 (List.mem_of_getElem? (i := 153) rfl) rfl
theorem wn_5_155 : (Jvm.Cond.instanceMethod ({ cls := "CircuitCycles$Grammar", name := "store", desc := "()V" } : Jvm.MethodName)) ∈ xw_G := xw_c5 (List.mem_of_getElem? (i := 155) rfl) rfl
theorem wn_5_156 : (Jvm.Cond.code ({ cls := "CircuitCycles$Grammar", name := "store", desc := "()V" } : Jvm.MethodName) prog_6_method_14_code (2 : Nat) (Option.none : Option Jvm.ClassFile.FieldType)) ∈ xw_G := xw_c5 (List.mem_of_getElem? (i := 156) rfl) rfl
theorem wn_5_157 : (Jvm.Cond.methodLink "CircuitCycles$Grammar" (205 : Nat) ({ cls := "CircuitCycles$Meaning", name := "storeTo", desc := "(II)V" } : Jvm.MethodName)) ∈ xw_G := xw_c5 (List.mem_of_getElem? (i := 157) rfl) rfl
theorem wn_5_158 : (Jvm.Cond.instanceMethod ({ cls := "CircuitCycles$Meaning", name := "storeTo", desc := "(II)V" } : Jvm.MethodName)) ∈ xw_G := xw_c5 (List.mem_of_getElem? (i := 158) rfl) rfl
theorem wn_5_159 : (Jvm.Cond.selects "CircuitCycles$Meaning" ({ cls := "CircuitCycles$Meaning", name := "storeTo", desc := "(II)V" } : Jvm.MethodName) ({ cls := "CircuitCycles$Meaning", name := "storeTo", desc := "(II)V" } : Jvm.MethodName)) ∈ xw_G := xw_c5 (List.mem_of_getElem? (i := 159) rfl) rfl
theorem wn_5_160 : (Jvm.Cond.code ({ cls := "CircuitCycles$Meaning", name := "storeTo", desc := "(II)V" } : Jvm.MethodName) prog_8_method_19_code (4 : Nat) (Option.none : Option Jvm.ClassFile.FieldType)) ∈ xw_G := xw_c5 (List.mem_of_getElem? (i := 160) rfl) rfl
theorem wn_5_161 : (Jvm.Cond.methodLink "CircuitCycles$Grammar" (208 : Nat) ({ cls := "CircuitCycles$Grammar", name := "part", desc := "()I" } : Jvm.MethodName)) ∈ xw_G := xw_c5 (List.mem_of_getElem? (i := 161) rfl) rfl
theorem wn_5_163 : (Jvm.Cond.instanceMethod ({ cls := "CircuitCycles$Grammar", name := "part", desc := "()I" } : Jvm.MethodName)) ∈ xw_G := xw_c5 (List.mem_of_getElem? (i := 163) rfl) rfl
theorem wn_5_164 : (Jvm.Cond.code ({ cls := "CircuitCycles$Grammar", name := "part", desc := "()I" } : Jvm.MethodName) prog_6_method_15_code (3 : Nat) (Option.some Jvm.ClassFile.FieldType.int)) ∈ xw_G := xw_c5 (List.mem_of_getElem? (i := 164) rfl) rfl
theorem wn_5_165 : (Jvm.Cond.constant "CircuitCycles$Grammar" (215 : Nat) (65535 : Int32)) ∈ xw_G := xw_c5 (List.mem_of_getElem? (i := 165) rfl) rfl
theorem wn_5_166 : (Jvm.Cond.methodLink "CircuitCycles$Grammar" (212 : Nat) ({ cls := "CircuitCycles$Meaning", name := "storePart", desc := "(II)V" } : Jvm.MethodName)) ∈ xw_G := xw_c5 (List.mem_of_getElem? (i := 166) rfl) rfl
theorem wn_5_167 : (Jvm.Cond.instanceMethod ({ cls := "CircuitCycles$Meaning", name := "storePart", desc := "(II)V" } : Jvm.MethodName)) ∈ xw_G := xw_c5 (List.mem_of_getElem? (i := 167) rfl) rfl
theorem wn_5_168 : (Jvm.Cond.selects "CircuitCycles$Meaning" ({ cls := "CircuitCycles$Meaning", name := "storePart", desc := "(II)V" } : Jvm.MethodName) ({ cls := "CircuitCycles$Meaning", name := "storePart", desc := "(II)V" } : Jvm.MethodName)) ∈ xw_G := xw_c5 (List.mem_of_getElem? (i := 168) rfl) rfl
theorem wn_5_169 : (Jvm.Cond.code ({ cls := "CircuitCycles$Meaning", name := "storePart", desc := "(II)V" } : Jvm.MethodName) prog_8_method_20_code (3 : Nat) (Option.none : Option Jvm.ClassFile.FieldType)) ∈ xw_G := xw_c5 (List.mem_of_getElem? (i := 169) rfl) rfl
theorem wn_5_170 : (Jvm.Cond.methodLink "CircuitCycles$Meaning" (211 : Nat) ({ cls := "CircuitCycles$Checker", name := "partWidth", desc := "(II)I" } : Jvm.MethodName)) ∈ xw_G := xw_c5 (List.mem_of_getElem? (i := 170) rfl) rfl
theorem wn_5_171 : (Jvm.Cond.static ({ cls := "CircuitCycles$Checker", name := "partWidth", desc := "(II)I" } : Jvm.MethodName)) ∈ xw_G := xw_c5 (List.mem_of_getElem? (i := 171) rfl) rfl
theorem wn_5_172 : (Jvm.Cond.code ({ cls := "CircuitCycles$Checker", name := "partWidth", desc := "(II)I" } : Jvm.MethodName) prog_2_method_20_code (4 : Nat) (Option.some Jvm.ClassFile.FieldType.int)) ∈ xw_G := xw_c5 (List.mem_of_getElem? (i := 172) rfl) rfl
theorem wn_5_173 : (Jvm.Cond.constant "CircuitCycles$Checker" (123 : Nat) (65535 : Int32)) ∈ xw_G := xw_c5 (List.mem_of_getElem? (i := 173) rfl) rfl
theorem wn_5_174 : (Jvm.Cond.methodLink "CircuitCycles$Meaning" (215 : Nat) ({ cls := "CircuitCycles$Checker", name := "lowOf", desc := "(I)I" } : Jvm.MethodName)) ∈ xw_G := xw_c5 (List.mem_of_getElem? (i := 174) rfl) rfl
theorem wn_5_175 : (Jvm.Cond.static ({ cls := "CircuitCycles$Checker", name := "lowOf", desc := "(I)I" } : Jvm.MethodName)) ∈ xw_G := xw_c5 (List.mem_of_getElem? (i := 175) rfl) rfl
theorem wn_5_176 : (Jvm.Cond.code ({ cls := "CircuitCycles$Checker", name := "lowOf", desc := "(I)I" } : Jvm.MethodName) prog_2_method_19_code (1 : Nat) (Option.some Jvm.ClassFile.FieldType.int)) ∈ xw_G := xw_c5 (List.mem_of_getElem? (i := 176) rfl) rfl
theorem wn_5_177 : (Jvm.Cond.methodLink "CircuitCycles$Grammar" (82 : Nat) ({ cls := "CircuitCycles$Grammar", name := "behindStatement", desc := "()V" } : Jvm.MethodName)) ∈ xw_G := xw_c5 (List.mem_of_getElem? (i := 177) rfl) rfl
theorem wn_5_179 : (Jvm.Cond.instanceMethod ({ cls := "CircuitCycles$Grammar", name := "behindStatement", desc := "()V" } : Jvm.MethodName)) ∈ xw_G := xw_c5 (List.mem_of_getElem? (i := 179) rfl) rfl
theorem wn_5_180 : (Jvm.Cond.code ({ cls := "CircuitCycles$Grammar", name := "behindStatement", desc := "()V" } : Jvm.MethodName) prog_6_method_18_code (1 : Nat) (Option.none : Option Jvm.ClassFile.FieldType)) ∈ xw_G := xw_c5 (List.mem_of_getElem? (i := 180) rfl) rfl
theorem wn_5_181 : (Jvm.Cond.methodLink "CircuitCycles$Grammar" (219 : Nat) ({ cls := "CircuitCycles$Meaning", name := "alwaysEnd", desc := "()V" } : Jvm.MethodName)) ∈ xw_G := xw_c5 (List.mem_of_getElem? (i := 181) rfl) rfl
theorem wn_5_182 : (Jvm.Cond.instanceMethod ({ cls := "CircuitCycles$Meaning", name := "alwaysEnd", desc := "()V" } : Jvm.MethodName)) ∈ xw_G := xw_c5 (List.mem_of_getElem? (i := 182) rfl) rfl
theorem wn_5_183 : (Jvm.Cond.selects "CircuitCycles$Meaning" ({ cls := "CircuitCycles$Meaning", name := "alwaysEnd", desc := "()V" } : Jvm.MethodName) ({ cls := "CircuitCycles$Meaning", name := "alwaysEnd", desc := "()V" } : Jvm.MethodName)) ∈ xw_G := xw_c5 (List.mem_of_getElem? (i := 183) rfl) rfl
theorem wn_5_184 : (Jvm.Cond.code ({ cls := "CircuitCycles$Meaning", name := "alwaysEnd", desc := "()V" } : Jvm.MethodName) prog_8_method_18_code (1 : Nat) (Option.none : Option Jvm.ClassFile.FieldType)) ∈ xw_G := xw_c5 (List.mem_of_getElem? (i := 184) rfl) rfl
theorem wn_5_185 : (Jvm.Cond.methodLink "CircuitCycles$Meaning" (132 : Nat) ({ cls := "CircuitCycles$Design", name := "addPiece", desc := "(ZI)V" } : Jvm.MethodName)) ∈ xw_G := xw_c5 (List.mem_of_getElem? (i := 185) rfl) rfl
theorem wn_5_186 : (Jvm.Cond.instanceMethod ({ cls := "CircuitCycles$Design", name := "addPiece", desc := "(ZI)V" } : Jvm.MethodName)) ∈ xw_G := xw_c5 (List.mem_of_getElem? (i := 186) rfl) rfl
theorem wn_5_187 : (Jvm.Cond.selects "CircuitCycles$Design" ({ cls := "CircuitCycles$Design", name := "addPiece", desc := "(ZI)V" } : Jvm.MethodName) ({ cls := "CircuitCycles$Design", name := "addPiece", desc := "(ZI)V" } : Jvm.MethodName)) ∈ xw_G := xw_c5 (List.mem_of_getElem? (i := 187) rfl) rfl
theorem wn_5_188 : (Jvm.Cond.code ({ cls := "CircuitCycles$Design", name := "addPiece", desc := "(ZI)V" } : Jvm.MethodName) prog_5_method_5_code (3 : Nat) (Option.none : Option Jvm.ClassFile.FieldType)) ∈ xw_G := xw_c5 (List.mem_of_getElem? (i := 188) rfl) rfl
theorem wn_5_189 : (Jvm.Cond.methodLink "CircuitCycles$Grammar" (222 : Nat) ({ cls := "CircuitCycles$Grammar", name := "otherwise", desc := "()V" } : Jvm.MethodName)) ∈ xw_G := xw_c5 (List.mem_of_getElem? (i := 189) rfl) rfl
theorem wn_5_191 : (Jvm.Cond.instanceMethod ({ cls := "CircuitCycles$Grammar", name := "otherwise", desc := "()V" } : Jvm.MethodName)) ∈ xw_G := xw_c5 (List.mem_of_getElem? (i := 191) rfl) rfl
theorem wn_5_192 : (Jvm.Cond.code ({ cls := "CircuitCycles$Grammar", name := "otherwise", desc := "()V" } : Jvm.MethodName) prog_6_method_19_code (1 : Nat) (Option.none : Option Jvm.ClassFile.FieldType)) ∈ xw_G := xw_c5 (List.mem_of_getElem? (i := 192) rfl) rfl
theorem wn_5_193 : (Jvm.Cond.methodLink "CircuitCycles$Grammar" (237 : Nat) ({ cls := "CircuitCycles$Meaning", name := "otherwise", desc := "()V" } : Jvm.MethodName)) ∈ xw_G := xw_c5 (List.mem_of_getElem? (i := 193) rfl) rfl
theorem wn_5_194 : (Jvm.Cond.instanceMethod ({ cls := "CircuitCycles$Meaning", name := "otherwise", desc := "()V" } : Jvm.MethodName)) ∈ xw_G := xw_c5 (List.mem_of_getElem? (i := 194) rfl) rfl
theorem wn_5_195 : (Jvm.Cond.selects "CircuitCycles$Meaning" ({ cls := "CircuitCycles$Meaning", name := "otherwise", desc := "()V" } : Jvm.MethodName) ({ cls := "CircuitCycles$Meaning", name := "otherwise", desc := "()V" } : Jvm.MethodName)) ∈ xw_G := xw_c5 (List.mem_of_getElem? (i := 195) rfl) rfl
theorem wn_5_196 : (Jvm.Cond.code ({ cls := "CircuitCycles$Meaning", name := "otherwise", desc := "()V" } : Jvm.MethodName) prog_8_method_23_code (2 : Nat) (Option.none : Option Jvm.ClassFile.FieldType)) ∈ xw_G := xw_c5 (List.mem_of_getElem? (i := 196) rfl) rfl
theorem wn_5_197 : (Jvm.Cond.methodLink "CircuitCycles$Meaning" (218 : Nat) ({ cls := "CircuitCycles$Code", name := "emit", desc := "(II)I" } : Jvm.MethodName)) ∈ xw_G := xw_c5 (List.mem_of_getElem? (i := 197) rfl) rfl
theorem wn_5_198 : (Jvm.Cond.instanceMethod ({ cls := "CircuitCycles$Code", name := "emit", desc := "(II)I" } : Jvm.MethodName)) ∈ xw_G := xw_c5 (List.mem_of_getElem? (i := 198) rfl) rfl
theorem wn_5_199 : (Jvm.Cond.selects "CircuitCycles$Code" ({ cls := "CircuitCycles$Code", name := "emit", desc := "(II)I" } : Jvm.MethodName) ({ cls := "CircuitCycles$Code", name := "emit", desc := "(II)I" } : Jvm.MethodName)) ∈ xw_G := xw_c5 (List.mem_of_getElem? (i := 199) rfl) rfl
theorem wn_5_200 : (Jvm.Cond.code ({ cls := "CircuitCycles$Code", name := "emit", desc := "(II)I" } : Jvm.MethodName) prog_4_method_6_code (3 : Nat) (Option.some Jvm.ClassFile.FieldType.int)) ∈ xw_G := xw_c5 (List.mem_of_getElem? (i := 200) rfl) rfl
theorem wn_5_201 : (Jvm.Cond.constantLong "CircuitCycles$Code" (30 : Nat) (4294967295 : Int64)) ∈ xw_G := xw_c5 (List.mem_of_getElem? (i := 201) rfl) rfl
theorem wn_5_202 : (Jvm.Cond.methodLink "CircuitCycles$Meaning" (221 : Nat) ({ cls := "CircuitCycles$Code", name := "aim", desc := "(I)V" } : Jvm.MethodName)) ∈ xw_G := xw_c5 (List.mem_of_getElem? (i := 202) rfl) rfl
theorem wn_5_203 : (Jvm.Cond.instanceMethod ({ cls := "CircuitCycles$Code", name := "aim", desc := "(I)V" } : Jvm.MethodName)) ∈ xw_G := xw_c5 (List.mem_of_getElem? (i := 203) rfl) rfl
theorem wn_5_204 : (Jvm.Cond.selects "CircuitCycles$Code" ({ cls := "CircuitCycles$Code", name := "aim", desc := "(I)V" } : Jvm.MethodName) ({ cls := "CircuitCycles$Code", name := "aim", desc := "(I)V" } : Jvm.MethodName)) ∈ xw_G := xw_c5 (List.mem_of_getElem? (i := 204) rfl) rfl
theorem wn_5_205 : (Jvm.Cond.code ({ cls := "CircuitCycles$Code", name := "aim", desc := "(I)V" } : Jvm.MethodName) prog_4_method_9_code (2 : Nat) (Option.none : Option Jvm.ClassFile.FieldType)) ∈ xw_G := xw_c5 (List.mem_of_getElem? (i := 205) rfl) rfl
theorem wn_5_206 : (Jvm.Cond.constantLong "CircuitCycles$Code" (32 : Nat) (-4294967296 : Int64)) ∈ xw_G := xw_c5 (List.mem_of_getElem? (i := 206) rfl) rfl
theorem wn_5_207 : (Jvm.Cond.methodLink "CircuitCycles$Grammar" (225 : Nat) ({ cls := "CircuitCycles$Grammar", name := "ifEnd", desc := "()V" } : Jvm.MethodName)) ∈ xw_G := xw_c5 (List.mem_of_getElem? (i := 207) rfl) rfl
theorem wn_5_209 : (Jvm.Cond.instanceMethod ({ cls := "CircuitCycles$Grammar", name := "ifEnd", desc := "()V" } : Jvm.MethodName)) ∈ xw_G := xw_c5 (List.mem_of_getElem? (i := 209) rfl) rfl
theorem wn_5_210 : (Jvm.Cond.code ({ cls := "CircuitCycles$Grammar", name := "ifEnd", desc := "()V" } : Jvm.MethodName) prog_6_method_20_code (1 : Nat) (Option.none : Option Jvm.ClassFile.FieldType)) ∈ xw_G := xw_c5 (List.mem_of_getElem? (i := 210) rfl) rfl
theorem wn_5_211 : (Jvm.Cond.methodLink "CircuitCycles$Grammar" (238 : Nat) ({ cls := "CircuitCycles$Tokens", name := "shutQuietly", desc := "()V" } : Jvm.MethodName)) ∈ xw_G := xw_c5 (List.mem_of_getElem? (i := 211) rfl) rfl
theorem wn_5_212 : (Jvm.Cond.instanceMethod ({ cls := "CircuitCycles$Tokens", name := "shutQuietly", desc := "()V" } : Jvm.MethodName)) ∈ xw_G := xw_c5 (List.mem_of_getElem? (i := 212) rfl) rfl
theorem wn_5_213 : (Jvm.Cond.selects "CircuitCycles$Tokens" ({ cls := "CircuitCycles$Tokens", name := "shutQuietly", desc := "()V" } : Jvm.MethodName) ({ cls := "CircuitCycles$Tokens", name := "shutQuietly", desc := "()V" } : Jvm.MethodName)) ∈ xw_G := xw_c5 (List.mem_of_getElem? (i := 213) rfl) rfl
theorem wn_5_214 : (Jvm.Cond.code ({ cls := "CircuitCycles$Tokens", name := "shutQuietly", desc := "()V" } : Jvm.MethodName) prog_12_method_13_code (1 : Nat) (Option.none : Option Jvm.ClassFile.FieldType)) ∈ xw_G := xw_c5 (List.mem_of_getElem? (i := 214) rfl) rfl
theorem wn_5_215 : (Jvm.Cond.methodLink "CircuitCycles$Grammar" (241 : Nat) ({ cls := "CircuitCycles$Meaning", name := "ifEnd", desc := "()V" } : Jvm.MethodName)) ∈ xw_G := xw_c5 (List.mem_of_getElem? (i := 215) rfl) rfl
theorem wn_5_216 : (Jvm.Cond.instanceMethod ({ cls := "CircuitCycles$Meaning", name := "ifEnd", desc := "()V" } : Jvm.MethodName)) ∈ xw_G := xw_c5 (List.mem_of_getElem? (i := 216) rfl) rfl
theorem wn_5_217 : (Jvm.Cond.selects "CircuitCycles$Meaning" ({ cls := "CircuitCycles$Meaning", name := "ifEnd", desc := "()V" } : Jvm.MethodName) ({ cls := "CircuitCycles$Meaning", name := "ifEnd", desc := "()V" } : Jvm.MethodName)) ∈ xw_G := xw_c5 (List.mem_of_getElem? (i := 217) rfl) rfl
theorem wn_5_218 : (Jvm.Cond.code ({ cls := "CircuitCycles$Meaning", name := "ifEnd", desc := "()V" } : Jvm.MethodName) prog_8_method_24_code (1 : Nat) (Option.none : Option Jvm.ClassFile.FieldType)) ∈ xw_G := xw_c5 (List.mem_of_getElem? (i := 218) rfl) rfl
theorem wn_5_219 : (Jvm.Cond.methodLink "CircuitCycles$Grammar" (228 : Nat) ({ cls := "CircuitCycles$Grammar", name := "arm", desc := "()V" } : Jvm.MethodName)) ∈ xw_G := xw_c5 (List.mem_of_getElem? (i := 219) rfl) rfl
theorem wn_5_221 : (Jvm.Cond.instanceMethod ({ cls := "CircuitCycles$Grammar", name := "arm", desc := "()V" } : Jvm.MethodName)) ∈ xw_G := xw_c5 (List.mem_of_getElem? (i := 221) rfl) rfl
theorem wn_5_222 : (Jvm.Cond.code ({ cls := "CircuitCycles$Grammar", name := "arm", desc := "()V" } : Jvm.MethodName) prog_6_method_21_code (2 : Nat) (Option.none : Option Jvm.ClassFile.FieldType)) ∈ xw_G := xw_c5 (List.mem_of_getElem? (i := 222) rfl) rfl
theorem wn_5_223 : (Jvm.Cond.methodLink "CircuitCycles$Grammar" (242 : Nat) ({ cls := "CircuitCycles$Meaning", name := "label", desc := "(II)V" } : Jvm.MethodName)) ∈ xw_G := xw_c5 (List.mem_of_getElem? (i := 223) rfl) rfl
theorem wn_5_224 : (Jvm.Cond.instanceMethod ({ cls := "CircuitCycles$Meaning", name := "label", desc := "(II)V" } : Jvm.MethodName)) ∈ xw_G := xw_c5 (List.mem_of_getElem? (i := 224) rfl) rfl
theorem wn_5_225 : (Jvm.Cond.selects "CircuitCycles$Meaning" ({ cls := "CircuitCycles$Meaning", name := "label", desc := "(II)V" } : Jvm.MethodName) ({ cls := "CircuitCycles$Meaning", name := "label", desc := "(II)V" } : Jvm.MethodName)) ∈ xw_G := xw_c5 (List.mem_of_getElem? (i := 225) rfl) rfl
theorem wn_5_226 : (Jvm.Cond.code ({ cls := "CircuitCycles$Meaning", name := "label", desc := "(II)V" } : Jvm.MethodName) prog_8_method_26_code (4 : Nat) (Option.none : Option Jvm.ClassFile.FieldType)) ∈ xw_G := xw_c5 (List.mem_of_getElem? (i := 226) rfl) rfl
theorem wn_5_227 : (Jvm.Cond.methodLink "CircuitCycles$Meaning" (126 : Nat) ({ cls := "CircuitCycles$Checker", name := "spend", desc := "(I)V" } : Jvm.MethodName)) ∈ xw_G := xw_c5 (List.mem_of_getElem? (i := 227) rfl) rfl
theorem wn_5_228 : (Jvm.Cond.instanceMethod ({ cls := "CircuitCycles$Checker", name := "spend", desc := "(I)V" } : Jvm.MethodName)) ∈ xw_G := xw_c5 (List.mem_of_getElem? (i := 228) rfl) rfl
theorem wn_5_229 : (Jvm.Cond.selects "CircuitCycles$Checker" ({ cls := "CircuitCycles$Checker", name := "spend", desc := "(I)V" } : Jvm.MethodName) ({ cls := "CircuitCycles$Checker", name := "spend", desc := "(I)V" } : Jvm.MethodName)) ∈ xw_G := xw_c5 (List.mem_of_getElem? (i := 229) rfl) rfl
theorem wn_5_230 : (Jvm.Cond.code ({ cls := "CircuitCycles$Checker", name := "spend", desc := "(I)V" } : Jvm.MethodName) prog_2_method_12_code (2 : Nat) (Option.none : Option Jvm.ClassFile.FieldType)) ∈ xw_G := xw_c5 (List.mem_of_getElem? (i := 230) rfl) rfl
theorem wn_5_232 : (Jvm.Cond.methodLink "CircuitCycles$Grammar" (245 : Nat) ({ cls := "CircuitCycles$Meaning", name := "labelsEnd", desc := "()V" } : Jvm.MethodName)) ∈ xw_G := xw_c5 (List.mem_of_getElem? (i := 232) rfl) rfl
theorem wn_5_233 : (Jvm.Cond.instanceMethod ({ cls := "CircuitCycles$Meaning", name := "labelsEnd", desc := "()V" } : Jvm.MethodName)) ∈ xw_G := xw_c5 (List.mem_of_getElem? (i := 233) rfl) rfl
theorem wn_5_234 : (Jvm.Cond.selects "CircuitCycles$Meaning" ({ cls := "CircuitCycles$Meaning", name := "labelsEnd", desc := "()V" } : Jvm.MethodName) ({ cls := "CircuitCycles$Meaning", name := "labelsEnd", desc := "()V" } : Jvm.MethodName)) ∈ xw_G := xw_c5 (List.mem_of_getElem? (i := 234) rfl) rfl
theorem wn_5_235 : (Jvm.Cond.code ({ cls := "CircuitCycles$Meaning", name := "labelsEnd", desc := "()V" } : Jvm.MethodName) prog_8_method_27_code (1 : Nat) (Option.none : Option Jvm.ClassFile.FieldType)) ∈ xw_G := xw_c5 (List.mem_of_getElem? (i := 235) rfl) rfl
theorem wn_5_236 : (Jvm.Cond.methodLink "CircuitCycles$Meaning" (224 : Nat) ({ cls := "CircuitCycles$Code", name := "aimAll", desc := "(I)V" } : Jvm.MethodName)) ∈ xw_G := xw_c5 (List.mem_of_getElem? (i := 236) rfl) rfl
theorem wn_5_237 : (Jvm.Cond.instanceMethod ({ cls := "CircuitCycles$Code", name := "aimAll", desc := "(I)V" } : Jvm.MethodName)) ∈ xw_G := xw_c5 (List.mem_of_getElem? (i := 237) rfl) rfl
theorem wn_5_238 : (Jvm.Cond.selects "CircuitCycles$Code" ({ cls := "CircuitCycles$Code", name := "aimAll", desc := "(I)V" } : Jvm.MethodName) ({ cls := "CircuitCycles$Code", name := "aimAll", desc := "(I)V" } : Jvm.MethodName)) ∈ xw_G := xw_c5 (List.mem_of_getElem? (i := 238) rfl) rfl
theorem wn_5_239 : (Jvm.Cond.code ({ cls := "CircuitCycles$Code", name := "aimAll", desc := "(I)V" } : Jvm.MethodName) prog_4_method_10_code (5 : Nat) (Option.none : Option Jvm.ClassFile.FieldType)) ∈ xw_G := xw_c5 (List.mem_of_getElem? (i := 239) rfl) rfl
theorem wn_6_0 : (Jvm.Cond.methodLink "CircuitCycles$Code" (34 : Nat) ({ cls := "CircuitCycles$Code", name := "argAt", desc := "(I)I" } : Jvm.MethodName)) ∈ xw_G := xw_c6 (List.mem_of_getElem? (i := 0) rfl) rfl
theorem wn_6_1 : (Jvm.Cond.instanceMethod ({ cls := "CircuitCycles$Code", name := "argAt", desc := "(I)I" } : Jvm.MethodName)) ∈ xw_G := xw_c6 (List.mem_of_getElem? (i := 1) rfl) rfl
theorem wn_6_2 : (Jvm.Cond.selects "CircuitCycles$Code" ({ cls := "CircuitCycles$Code", name := "argAt", desc := "(I)I" } : Jvm.MethodName) ({ cls := "CircuitCycles$Code", name := "argAt", desc := "(I)I" } : Jvm.MethodName)) ∈ xw_G := xw_c6 (List.mem_of_getElem? (i := 2) rfl) rfl
theorem wn_6_3 : (Jvm.Cond.code ({ cls := "CircuitCycles$Code", name := "argAt", desc := "(I)I" } : Jvm.MethodName) prog_4_method_8_code (2 : Nat) (Option.some Jvm.ClassFile.FieldType.int)) ∈ xw_G := xw_c6 (List.mem_of_getElem? (i := 3) rfl) rfl
theorem wn_6_4 : (Jvm.Cond.methodLink "CircuitCycles$Code" (38 : Nat) ({ cls := "CircuitCycles$Code", name := "aim", desc := "(I)V" } : Jvm.MethodName)) ∈ xw_G := xw_c6 (List.mem_of_getElem? (i := 4) rfl) rfl
theorem wn_6_5 : (Jvm.Cond.methodLink "CircuitCycles$Grammar" (234 : Nat) ({ cls := "CircuitCycles$Grammar", name := "caseEnd", desc := "()V" } : Jvm.MethodName)) ∈ xw_G := xw_c6 (List.mem_of_getElem? (i := 5) rfl) rfl
theorem wn_6_7 : (Jvm.Cond.instanceMethod ({ cls := "CircuitCycles$Grammar", name := "caseEnd", desc := "()V" } : Jvm.MethodName)) ∈ xw_G := xw_c6 (List.mem_of_getElem? (i := 7) rfl) rfl
theorem wn_6_8 : (Jvm.Cond.code ({ cls := "CircuitCycles$Grammar", name := "caseEnd", desc := "()V" } : Jvm.MethodName) prog_6_method_22_code (1 : Nat) (Option.none : Option Jvm.ClassFile.FieldType)) ∈ xw_G := xw_c6 (List.mem_of_getElem? (i := 8) rfl) rfl
theorem wn_6_9 : (Jvm.Cond.methodLink "CircuitCycles$Grammar" (248 : Nat) ({ cls := "CircuitCycles$Meaning", name := "caseEnd", desc := "()V" } : Jvm.MethodName)) ∈ xw_G := xw_c6 (List.mem_of_getElem? (i := 9) rfl) rfl
theorem wn_6_10 : (Jvm.Cond.instanceMethod ({ cls := "CircuitCycles$Meaning", name := "caseEnd", desc := "()V" } : Jvm.MethodName)) ∈ xw_G := xw_c6 (List.mem_of_getElem? (i := 10) rfl) rfl
theorem wn_6_11 : (Jvm.Cond.selects "CircuitCycles$Meaning" ({ cls := "CircuitCycles$Meaning", name := "caseEnd", desc := "()V" } : Jvm.MethodName) ({ cls := "CircuitCycles$Meaning", name := "caseEnd", desc := "()V" } : Jvm.MethodName)) ∈ xw_G := xw_c6 (List.mem_of_getElem? (i := 11) rfl) rfl
theorem wn_6_12 : (Jvm.Cond.code ({ cls := "CircuitCycles$Meaning", name := "caseEnd", desc := "()V" } : Jvm.MethodName) prog_8_method_29_code (1 : Nat) (Option.none : Option Jvm.ClassFile.FieldType)) ∈ xw_G := xw_c6 (List.mem_of_getElem? (i := 12) rfl) rfl
theorem wn_6_13 : (Jvm.Cond.methodLink "CircuitCycles$Grammar" (231 : Nat) ({ cls := "CircuitCycles$Meaning", name := "armEnd", desc := "()V" } : Jvm.MethodName)) ∈ xw_G := xw_c6 (List.mem_of_getElem? (i := 13) rfl) rfl
theorem wn_6_14 : (Jvm.Cond.instanceMethod ({ cls := "CircuitCycles$Meaning", name := "armEnd", desc := "()V" } : Jvm.MethodName)) ∈ xw_G := xw_c6 (List.mem_of_getElem? (i := 14) rfl) rfl
theorem wn_6_15 : (Jvm.Cond.selects "CircuitCycles$Meaning" ({ cls := "CircuitCycles$Meaning", name := "armEnd", desc := "()V" } : Jvm.MethodName) ({ cls := "CircuitCycles$Meaning", name := "armEnd", desc := "()V" } : Jvm.MethodName)) ∈ xw_G := xw_c6 (List.mem_of_getElem? (i := 15) rfl) rfl
theorem wn_6_16 : (Jvm.Cond.code ({ cls := "CircuitCycles$Meaning", name := "armEnd", desc := "()V" } : Jvm.MethodName) prog_8_method_28_code (1 : Nat) (Option.none : Option Jvm.ClassFile.FieldType)) ∈ xw_G := xw_c6 (List.mem_of_getElem? (i := 16) rfl) rfl
theorem wn_6_17 : (Jvm.Cond.methodLink "CircuitCycles$Grammar" (85 : Nat) ({ cls := "CircuitCycles$Grammar", name := "operand", desc := "()V" } : Jvm.MethodName)) ∈ xw_G := xw_c6 (List.mem_of_getElem? (i := 17) rfl) rfl
theorem wn_6_19 : (Jvm.Cond.instanceMethod ({ cls := "CircuitCycles$Grammar", name := "operand", desc := "()V" } : Jvm.MethodName)) ∈ xw_G := xw_c6 (List.mem_of_getElem? (i := 19) rfl) rfl
theorem wn_6_20 : (Jvm.Cond.code ({ cls := "CircuitCycles$Grammar", name := "operand", desc := "()V" } : Jvm.MethodName) prog_6_method_26_code (1 : Nat) (Option.none : Option Jvm.ClassFile.FieldType)) ∈ xw_G := xw_c6 (List.mem_of_getElem? (i := 20) rfl) rfl
theorem wn_6_21 : (Jvm.Cond.methodLink "CircuitCycles$Grammar" (273 : Nat) ({ cls := "CircuitCycles$Grammar", name := "signsBefore", desc := "()V" } : Jvm.MethodName)) ∈ xw_G := xw_c6 (List.mem_of_getElem? (i := 21) rfl) rfl
theorem wn_6_23 : (Jvm.Cond.instanceMethod ({ cls := "CircuitCycles$Grammar", name := "signsBefore", desc := "()V" } : Jvm.MethodName)) ∈ xw_G := xw_c6 (List.mem_of_getElem? (i := 23) rfl) rfl
theorem wn_6_24 : (Jvm.Cond.code ({ cls := "CircuitCycles$Grammar", name := "signsBefore", desc := "()V" } : Jvm.MethodName) prog_6_method_27_code (3 : Nat) (Option.none : Option Jvm.ClassFile.FieldType)) ∈ xw_G := xw_c6 (List.mem_of_getElem? (i := 24) rfl) rfl
theorem wn_6_25 : (Jvm.Cond.methodLink "CircuitCycles$Grammar" (288 : Nat) ({ cls := "CircuitCycles$Grammar", name := "isUnary", desc := "(I)Z" } : Jvm.MethodName)) ∈ xw_G := xw_c6 (List.mem_of_getElem? (i := 25) rfl) rfl
theorem wn_6_26 : (Jvm.Cond.static ({ cls := "CircuitCycles$Grammar", name := "isUnary", desc := "(I)Z" } : Jvm.MethodName)) ∈ xw_G := xw_c6 (List.mem_of_getElem? (i := 26) rfl) rfl
theorem wn_6_27 : (Jvm.Cond.code ({ cls := "CircuitCycles$Grammar", name := "isUnary", desc := "(I)Z" } : Jvm.MethodName) prog_6_method_28_code (1 : Nat) (Option.some Jvm.ClassFile.FieldType.boolean)) ∈ xw_G := xw_c6 (List.mem_of_getElem? (i := 27) rfl) rfl
theorem wn_6_28 : (Jvm.Cond.methodLink "CircuitCycles$Grammar" (276 : Nat) ({ cls := "CircuitCycles$Grammar", name := "hold", desc := "(III)V" } : Jvm.MethodName)) ∈ xw_G := xw_c6 (List.mem_of_getElem? (i := 28) rfl) rfl
theorem wn_6_30 : (Jvm.Cond.instanceMethod ({ cls := "CircuitCycles$Grammar", name := "hold", desc := "(III)V" } : Jvm.MethodName)) ∈ xw_G := xw_c6 (List.mem_of_getElem? (i := 30) rfl) rfl
theorem wn_6_31 : (Jvm.Cond.code ({ cls := "CircuitCycles$Grammar", name := "hold", desc := "(III)V" } : Jvm.MethodName) prog_6_method_25_code (4 : Nat) (Option.none : Option Jvm.ClassFile.FieldType)) ∈ xw_G := xw_c6 (List.mem_of_getElem? (i := 31) rfl) rfl
theorem wn_6_32 : (Jvm.Cond.methodLink "CircuitCycles$Grammar" (279 : Nat) ({ cls := "CircuitCycles$Grammar", name := "brace", desc := "()V" } : Jvm.MethodName)) ∈ xw_G := xw_c6 (List.mem_of_getElem? (i := 32) rfl) rfl
theorem wn_6_34 : (Jvm.Cond.instanceMethod ({ cls := "CircuitCycles$Grammar", name := "brace", desc := "()V" } : Jvm.MethodName)) ∈ xw_G := xw_c6 (List.mem_of_getElem? (i := 34) rfl) rfl
theorem wn_6_35 : (Jvm.Cond.code ({ cls := "CircuitCycles$Grammar", name := "brace", desc := "()V" } : Jvm.MethodName) prog_6_method_29_code (2 : Nat) (Option.none : Option Jvm.ClassFile.FieldType)) ∈ xw_G := xw_c6 (List.mem_of_getElem? (i := 35) rfl) rfl
theorem wn_6_36 : (Jvm.Cond.methodLink "CircuitCycles$Grammar" (282 : Nat) ({ cls := "CircuitCycles$Checker", name := "literal", desc := "(I)V" } : Jvm.MethodName)) ∈ xw_G := xw_c6 (List.mem_of_getElem? (i := 36) rfl) rfl
theorem wn_6_37 : (Jvm.Cond.instanceMethod ({ cls := "CircuitCycles$Checker", name := "literal", desc := "(I)V" } : Jvm.MethodName)) ∈ xw_G := xw_c6 (List.mem_of_getElem? (i := 37) rfl) rfl
theorem wn_6_38 : (Jvm.Cond.selects "CircuitCycles$Checker" ({ cls := "CircuitCycles$Checker", name := "literal", desc := "(I)V" } : Jvm.MethodName) ({ cls := "CircuitCycles$Checker", name := "literal", desc := "(I)V" } : Jvm.MethodName)) ∈ xw_G := xw_c6 (List.mem_of_getElem? (i := 38) rfl) rfl
theorem wn_6_39 : (Jvm.Cond.code ({ cls := "CircuitCycles$Checker", name := "literal", desc := "(I)V" } : Jvm.MethodName) prog_2_method_17_code (2 : Nat) (Option.none : Option Jvm.ClassFile.FieldType)) ∈ xw_G := xw_c6 (List.mem_of_getElem? (i := 39) rfl) rfl
theorem wn_6_40 : (Jvm.Cond.methodLink "CircuitCycles$Checker" (98 : Nat) ({ cls := "CircuitCycles$Code", name := "widthOf", desc := "(I)I" } : Jvm.MethodName)) ∈ xw_G := xw_c6 (List.mem_of_getElem? (i := 40) rfl) rfl
theorem wn_6_41 : (Jvm.Cond.methodLink "CircuitCycles$Checker" (102 : Nat) ({ cls := "CircuitCycles$Checker", name := "push", desc := "(I)V" } : Jvm.MethodName)) ∈ xw_G := xw_c6 (List.mem_of_getElem? (i := 41) rfl) rfl
theorem wn_6_43 : (Jvm.Cond.instanceMethod ({ cls := "CircuitCycles$Checker", name := "push", desc := "(I)V" } : Jvm.MethodName)) ∈ xw_G := xw_c6 (List.mem_of_getElem? (i := 43) rfl) rfl
theorem wn_6_44 : (Jvm.Cond.code ({ cls := "CircuitCycles$Checker", name := "push", desc := "(I)V" } : Jvm.MethodName) prog_2_method_15_code (2 : Nat) (Option.none : Option Jvm.ClassFile.FieldType)) ∈ xw_G := xw_c6 (List.mem_of_getElem? (i := 44) rfl) rfl
theorem wn_6_45 : (Jvm.Cond.methodLink "CircuitCycles$Checker" (106 : Nat) ({ cls := "CircuitCycles$Code", name := "emit", desc := "(II)I" } : Jvm.MethodName)) ∈ xw_G := xw_c6 (List.mem_of_getElem? (i := 45) rfl) rfl
theorem wn_6_46 : (Jvm.Cond.methodLink "CircuitCycles$Grammar" (285 : Nat) ({ cls := "CircuitCycles$Grammar", name := "named", desc := "()V" } : Jvm.MethodName)) ∈ xw_G := xw_c6 (List.mem_of_getElem? (i := 46) rfl) rfl
theorem wn_6_48 : (Jvm.Cond.instanceMethod ({ cls := "CircuitCycles$Grammar", name := "named", desc := "()V" } : Jvm.MethodName)) ∈ xw_G := xw_c6 (List.mem_of_getElem? (i := 48) rfl) rfl
theorem wn_6_49 : (Jvm.Cond.code ({ cls := "CircuitCycles$Grammar", name := "named", desc := "()V" } : Jvm.MethodName) prog_6_method_30_code (2 : Nat) (Option.none : Option Jvm.ClassFile.FieldType)) ∈ xw_G := xw_c6 (List.mem_of_getElem? (i := 49) rfl) rfl
theorem wn_6_50 : (Jvm.Cond.methodLink "CircuitCycles$Grammar" (291 : Nat) ({ cls := "CircuitCycles$Checker", name := "name", desc := "(II)V" } : Jvm.MethodName)) ∈ xw_G := xw_c6 (List.mem_of_getElem? (i := 50) rfl) rfl
theorem wn_6_51 : (Jvm.Cond.instanceMethod ({ cls := "CircuitCycles$Checker", name := "name", desc := "(II)V" } : Jvm.MethodName)) ∈ xw_G := xw_c6 (List.mem_of_getElem? (i := 51) rfl) rfl
theorem wn_6_52 : (Jvm.Cond.selects "CircuitCycles$Checker" ({ cls := "CircuitCycles$Checker", name := "name", desc := "(II)V" } : Jvm.MethodName) ({ cls := "CircuitCycles$Checker", name := "name", desc := "(II)V" } : Jvm.MethodName)) ∈ xw_G := xw_c6 (List.mem_of_getElem? (i := 52) rfl) rfl
theorem wn_6_53 : (Jvm.Cond.code ({ cls := "CircuitCycles$Checker", name := "name", desc := "(II)V" } : Jvm.MethodName) prog_2_method_18_code (4 : Nat) (Option.none : Option Jvm.ClassFile.FieldType)) ∈ xw_G := xw_c6 (List.mem_of_getElem? (i := 53) rfl) rfl
theorem wn_6_54 : (Jvm.Cond.methodLink "CircuitCycles$Checker" (109 : Nat) ({ cls := "CircuitCycles$Checker", name := "meantBy", desc := "(I)I" } : Jvm.MethodName)) ∈ xw_G := xw_c6 (List.mem_of_getElem? (i := 54) rfl) rfl
theorem wn_6_55 : (Jvm.Cond.methodLink "CircuitCycles$Checker" (112 : Nat) ({ cls := "CircuitCycles$Checker", name := "sortOf", desc := "(I)I" } : Jvm.MethodName)) ∈ xw_G := xw_c6 (List.mem_of_getElem? (i := 55) rfl) rfl
theorem wn_6_56 : (Jvm.Cond.methodLink "CircuitCycles$Checker" (115 : Nat) ({ cls := "CircuitCycles$Checker", name := "refuse", desc := "(II)V" } : Jvm.MethodName)) ∈ xw_G := xw_c6 (List.mem_of_getElem? (i := 56) rfl) rfl
theorem wn_6_57 : (Jvm.Cond.methodLink "CircuitCycles$Checker" (120 : Nat) ({ cls := "CircuitCycles$Checker", name := "localOf", desc := "(I)I" } : Jvm.MethodName)) ∈ xw_G := xw_c6 (List.mem_of_getElem? (i := 57) rfl) rfl
theorem wn_6_58 : (Jvm.Cond.instanceMethod ({ cls := "CircuitCycles$Checker", name := "localOf", desc := "(I)I" } : Jvm.MethodName)) ∈ xw_G := xw_c6 (List.mem_of_getElem? (i := 58) rfl) rfl
theorem wn_6_59 : (Jvm.Cond.selects "CircuitCycles$Checker" ({ cls := "CircuitCycles$Checker", name := "localOf", desc := "(I)I" } : Jvm.MethodName) ({ cls := "CircuitCycles$Checker", name := "localOf", desc := "(I)I" } : Jvm.MethodName)) ∈ xw_G := xw_c6 (List.mem_of_getElem? (i := 59) rfl) rfl
theorem wn_6_60 : (Jvm.Cond.code ({ cls := "CircuitCycles$Checker", name := "localOf", desc := "(I)I" } : Jvm.MethodName) prog_2_method_11_code (2 : Nat) (Option.some Jvm.ClassFile.FieldType.int)) ∈ xw_G := xw_c6 (List.mem_of_getElem? (i := 60) rfl) rfl
theorem wn_6_61 : (Jvm.Cond.methodLink "CircuitCycles$Grammar" (294 : Nat) ({ cls := "CircuitCycles$Checker", name := "part", desc := "(II)V" } : Jvm.MethodName)) ∈ xw_G := xw_c6 (List.mem_of_getElem? (i := 61) rfl) rfl
theorem wn_6_62 : (Jvm.Cond.instanceMethod ({ cls := "CircuitCycles$Checker", name := "part", desc := "(II)V" } : Jvm.MethodName)) ∈ xw_G := xw_c6 (List.mem_of_getElem? (i := 62) rfl) rfl
theorem wn_6_63 : (Jvm.Cond.selects "CircuitCycles$Checker" ({ cls := "CircuitCycles$Checker", name := "part", desc := "(II)V" } : Jvm.MethodName) ({ cls := "CircuitCycles$Checker", name := "part", desc := "(II)V" } : Jvm.MethodName)) ∈ xw_G := xw_c6 (List.mem_of_getElem? (i := 63) rfl) rfl
theorem wn_6_64 : (Jvm.Cond.code ({ cls := "CircuitCycles$Checker", name := "part", desc := "(II)V" } : Jvm.MethodName) prog_2_method_21_code (4 : Nat) (Option.none : Option Jvm.ClassFile.FieldType)) ∈ xw_G := xw_c6 (List.mem_of_getElem? (i := 64) rfl) rfl
theorem wn_6_65 : (Jvm.Cond.methodLink "CircuitCycles$Checker" (94 : Nat) ({ cls := "CircuitCycles$Checker", name := "pop", desc := "()I" } : Jvm.MethodName)) ∈ xw_G := xw_c6 (List.mem_of_getElem? (i := 65) rfl) rfl
theorem wn_6_67 : (Jvm.Cond.instanceMethod ({ cls := "CircuitCycles$Checker", name := "pop", desc := "()I" } : Jvm.MethodName)) ∈ xw_G := xw_c6 (List.mem_of_getElem? (i := 67) rfl) rfl
theorem wn_6_68 : (Jvm.Cond.code ({ cls := "CircuitCycles$Checker", name := "pop", desc := "()I" } : Jvm.MethodName) prog_2_method_16_code (1 : Nat) (Option.some Jvm.ClassFile.FieldType.int)) ∈ xw_G := xw_c6 (List.mem_of_getElem? (i := 68) rfl) rfl
theorem wn_6_69 : (Jvm.Cond.methodLink "CircuitCycles$Checker" (124 : Nat) ({ cls := "CircuitCycles$Checker", name := "partWidth", desc := "(II)I" } : Jvm.MethodName)) ∈ xw_G := xw_c6 (List.mem_of_getElem? (i := 69) rfl) rfl
theorem wn_6_70 : (Jvm.Cond.methodLink "CircuitCycles$Checker" (127 : Nat) ({ cls := "CircuitCycles$Checker", name := "lowOf", desc := "(I)I" } : Jvm.MethodName)) ∈ xw_G := xw_c6 (List.mem_of_getElem? (i := 70) rfl) rfl
theorem wn_6_71 : (Jvm.Cond.methodLink "CircuitCycles$Grammar" (88 : Nat) ({ cls := "CircuitCycles$Grammar", name := "behindOperand", desc := "()V" } : Jvm.MethodName)) ∈ xw_G := xw_c6 (List.mem_of_getElem? (i := 71) rfl) rfl
theorem wn_6_73 : (Jvm.Cond.instanceMethod ({ cls := "CircuitCycles$Grammar", name := "behindOperand", desc := "()V" } : Jvm.MethodName)) ∈ xw_G := xw_c6 (List.mem_of_getElem? (i := 73) rfl) rfl
theorem wn_6_74 : (Jvm.Cond.code ({ cls := "CircuitCycles$Grammar", name := "behindOperand", desc := "()V" } : Jvm.MethodName) prog_6_method_31_code (2 : Nat) (Option.none : Option Jvm.ClassFile.FieldType)) ∈ xw_G := xw_c6 (List.mem_of_getElem? (i := 74) rfl) rfl
theorem wn_6_75 : (Jvm.Cond.methodLink "CircuitCycles$Grammar" (296 : Nat) ({ cls := "CircuitCycles$Grammar", name := "rankOf", desc := "(I)I" } : Jvm.MethodName)) ∈ xw_G := xw_c6 (List.mem_of_getElem? (i := 75) rfl) rfl
theorem wn_6_76 : (Jvm.Cond.static ({ cls := "CircuitCycles$Grammar", name := "rankOf", desc := "(I)I" } : Jvm.MethodName)) ∈ xw_G := xw_c6 (List.mem_of_getElem? (i := 76) rfl) rfl
theorem wn_6_77 : (Jvm.Cond.code ({ cls := "CircuitCycles$Grammar", name := "rankOf", desc := "(I)I" } : Jvm.MethodName) prog_6_method_35_code (1 : Nat) (Option.some Jvm.ClassFile.FieldType.int)) ∈ xw_G := xw_c6 (List.mem_of_getElem? (i := 77) rfl) rfl
theorem wn_6_78 : (Jvm.Cond.methodLink "CircuitCycles$Grammar" (299 : Nat) ({ cls := "CircuitCycles$Grammar", name := "apply", desc := "(I)V" } : Jvm.MethodName)) ∈ xw_G := xw_c6 (List.mem_of_getElem? (i := 78) rfl) rfl
theorem wn_6_80 : (Jvm.Cond.instanceMethod ({ cls := "CircuitCycles$Grammar", name := "apply", desc := "(I)V" } : Jvm.MethodName)) ∈ xw_G := xw_c6 (List.mem_of_getElem? (i := 80) rfl) rfl
theorem wn_6_81 : (Jvm.Cond.code ({ cls := "CircuitCycles$Grammar", name := "apply", desc := "(I)V" } : Jvm.MethodName) prog_6_method_32_code (3 : Nat) (Option.none : Option Jvm.ClassFile.FieldType)) ∈ xw_G := xw_c6 (List.mem_of_getElem? (i := 81) rfl) rfl
theorem wn_6_82 : (Jvm.Cond.methodLink "CircuitCycles$Grammar" (308 : Nat) ({ cls := "CircuitCycles$Checker", name := "binary", desc := "(II)V" } : Jvm.MethodName)) ∈ xw_G := xw_c6 (List.mem_of_getElem? (i := 82) rfl) rfl
theorem wn_6_83 : (Jvm.Cond.instanceMethod ({ cls := "CircuitCycles$Checker", name := "binary", desc := "(II)V" } : Jvm.MethodName)) ∈ xw_G := xw_c6 (List.mem_of_getElem? (i := 83) rfl) rfl
theorem wn_6_84 : (Jvm.Cond.selects "CircuitCycles$Checker" ({ cls := "CircuitCycles$Checker", name := "binary", desc := "(II)V" } : Jvm.MethodName) ({ cls := "CircuitCycles$Checker", name := "binary", desc := "(II)V" } : Jvm.MethodName)) ∈ xw_G := xw_c6 (List.mem_of_getElem? (i := 84) rfl) rfl
theorem wn_6_85 : (Jvm.Cond.code ({ cls := "CircuitCycles$Checker", name := "binary", desc := "(II)V" } : Jvm.MethodName) prog_2_method_23_code (8 : Nat) (Option.none : Option Jvm.ClassFile.FieldType)) ∈ xw_G := xw_c6 (List.mem_of_getElem? (i := 85) rfl) rfl
theorem wn_6_86 : (Jvm.Cond.methodLink "CircuitCycles$Checker" (130 : Nat) ({ cls := "CircuitCycles$Checker", name := "spend", desc := "(I)V" } : Jvm.MethodName)) ∈ xw_G := xw_c6 (List.mem_of_getElem? (i := 86) rfl) rfl
theorem wn_6_87 : (Jvm.Cond.methodLink "CircuitCycles$Checker" (133 : Nat) ({ cls := "CircuitCycles$Checker", name := "asks", desc := "(I)Z" } : Jvm.MethodName)) ∈ xw_G := xw_c6 (List.mem_of_getElem? (i := 87) rfl) rfl
theorem wn_6_88 : (Jvm.Cond.static ({ cls := "CircuitCycles$Checker", name := "asks", desc := "(I)Z" } : Jvm.MethodName)) ∈ xw_G := xw_c6 (List.mem_of_getElem? (i := 88) rfl) rfl
theorem wn_6_89 : (Jvm.Cond.code ({ cls := "CircuitCycles$Checker", name := "asks", desc := "(I)Z" } : Jvm.MethodName) prog_2_method_24_code (1 : Nat) (Option.some Jvm.ClassFile.FieldType.boolean)) ∈ xw_G := xw_c6 (List.mem_of_getElem? (i := 89) rfl) rfl
theorem wn_6_90 : (Jvm.Cond.methodLink "CircuitCycles$Grammar" (186 : Nat) ({ cls := "CircuitCycles$Tokens", name := "kindAt", desc := "(I)I" } : Jvm.MethodName)) ∈ xw_G := xw_c6 (List.mem_of_getElem? (i := 90) rfl) rfl
theorem wn_6_91 : (Jvm.Cond.methodLink "CircuitCycles$Grammar" (311 : Nat) ({ cls := "CircuitCycles$Checker", name := "unary", desc := "(I)V" } : Jvm.MethodName)) ∈ xw_G := xw_c6 (List.mem_of_getElem? (i := 91) rfl) rfl
theorem wn_6_92 : (Jvm.Cond.instanceMethod ({ cls := "CircuitCycles$Checker", name := "unary", desc := "(I)V" } : Jvm.MethodName)) ∈ xw_G := xw_c6 (List.mem_of_getElem? (i := 92) rfl) rfl
theorem wn_6_93 : (Jvm.Cond.selects "CircuitCycles$Checker" ({ cls := "CircuitCycles$Checker", name := "unary", desc := "(I)V" } : Jvm.MethodName) ({ cls := "CircuitCycles$Checker", name := "unary", desc := "(I)V" } : Jvm.MethodName)) ∈ xw_G := xw_c6 (List.mem_of_getElem? (i := 93) rfl) rfl
theorem wn_6_94 : (Jvm.Cond.code ({ cls := "CircuitCycles$Checker", name := "unary", desc := "(I)V" } : Jvm.MethodName) prog_2_method_22_code (3 : Nat) (Option.none : Option Jvm.ClassFile.FieldType)) ∈ xw_G := xw_c6 (List.mem_of_getElem? (i := 94) rfl) rfl
theorem wn_6_95 : (Jvm.Cond.methodLink "CircuitCycles$Grammar" (302 : Nat) ({ cls := "CircuitCycles$Checker", name := "choose", desc := "(I)V" } : Jvm.MethodName)) ∈ xw_G := xw_c6 (List.mem_of_getElem? (i := 95) rfl) rfl
theorem wn_6_96 : (Jvm.Cond.instanceMethod ({ cls := "CircuitCycles$Checker", name := "choose", desc := "(I)V" } : Jvm.MethodName)) ∈ xw_G := xw_c6 (List.mem_of_getElem? (i := 96) rfl) rfl
theorem wn_6_97 : (Jvm.Cond.selects "CircuitCycles$Checker" ({ cls := "CircuitCycles$Checker", name := "choose", desc := "(I)V" } : Jvm.MethodName) ({ cls := "CircuitCycles$Checker", name := "choose", desc := "(I)V" } : Jvm.MethodName)) ∈ xw_G := xw_c6 (List.mem_of_getElem? (i := 97) rfl) rfl
theorem wn_6_98 : (Jvm.Cond.code ({ cls := "CircuitCycles$Checker", name := "choose", desc := "(I)V" } : Jvm.MethodName) prog_2_method_26_code (4 : Nat) (Option.none : Option Jvm.ClassFile.FieldType)) ∈ xw_G := xw_c6 (List.mem_of_getElem? (i := 98) rfl) rfl
theorem wn_6_99 : (Jvm.Cond.methodLink "CircuitCycles$Grammar" (305 : Nat) ({ cls := "CircuitCycles$Grammar", name := "close", desc := "(I)V" } : Jvm.MethodName)) ∈ xw_G := xw_c6 (List.mem_of_getElem? (i := 99) rfl) rfl
theorem wn_6_101 : (Jvm.Cond.instanceMethod ({ cls := "CircuitCycles$Grammar", name := "close", desc := "(I)V" } : Jvm.MethodName)) ∈ xw_G := xw_c6 (List.mem_of_getElem? (i := 101) rfl) rfl
theorem wn_6_102 : (Jvm.Cond.code ({ cls := "CircuitCycles$Grammar", name := "close", desc := "(I)V" } : Jvm.MethodName) prog_6_method_33_code (2 : Nat) (Option.none : Option Jvm.ClassFile.FieldType)) ∈ xw_G := xw_c6 (List.mem_of_getElem? (i := 102) rfl) rfl
theorem wn_6_103 : (Jvm.Cond.methodLink "CircuitCycles$Grammar" (314 : Nat) ({ cls := "CircuitCycles$Checker", name := "index", desc := "()V" } : Jvm.MethodName)) ∈ xw_G := xw_c6 (List.mem_of_getElem? (i := 103) rfl) rfl
theorem wn_6_104 : (Jvm.Cond.instanceMethod ({ cls := "CircuitCycles$Checker", name := "index", desc := "()V" } : Jvm.MethodName)) ∈ xw_G := xw_c6 (List.mem_of_getElem? (i := 104) rfl) rfl
theorem wn_6_105 : (Jvm.Cond.selects "CircuitCycles$Checker" ({ cls := "CircuitCycles$Checker", name := "index", desc := "()V" } : Jvm.MethodName) ({ cls := "CircuitCycles$Checker", name := "index", desc := "()V" } : Jvm.MethodName)) ∈ xw_G := xw_c6 (List.mem_of_getElem? (i := 105) rfl) rfl
theorem wn_6_106 : (Jvm.Cond.code ({ cls := "CircuitCycles$Checker", name := "index", desc := "()V" } : Jvm.MethodName) prog_2_method_25_code (2 : Nat) (Option.none : Option Jvm.ClassFile.FieldType)) ∈ xw_G := xw_c6 (List.mem_of_getElem? (i := 106) rfl) rfl
theorem wn_6_107 : (Jvm.Cond.methodLink "CircuitCycles$Grammar" (316 : Nat) ({ cls := "CircuitCycles$Checker", name := "repeat", desc := "(II)V" } : Jvm.MethodName)) ∈ xw_G := xw_c6 (List.mem_of_getElem? (i := 107) rfl) rfl
theorem wn_6_108 : (Jvm.Cond.instanceMethod ({ cls := "CircuitCycles$Checker", name := "repeat", desc := "(II)V" } : Jvm.MethodName)) ∈ xw_G := xw_c6 (List.mem_of_getElem? (i := 108) rfl) rfl
theorem wn_6_109 : (Jvm.Cond.selects "CircuitCycles$Checker" ({ cls := "CircuitCycles$Checker", name := "repeat", desc := "(II)V" } : Jvm.MethodName) ({ cls := "CircuitCycles$Checker", name := "repeat", desc := "(II)V" } : Jvm.MethodName)) ∈ xw_G := xw_c6 (List.mem_of_getElem? (i := 109) rfl) rfl
theorem wn_6_110 : (Jvm.Cond.code ({ cls := "CircuitCycles$Checker", name := "repeat", desc := "(II)V" } : Jvm.MethodName) prog_2_method_29_code (5 : Nat) (Option.none : Option Jvm.ClassFile.FieldType)) ∈ xw_G := xw_c6 (List.mem_of_getElem? (i := 110) rfl) rfl
theorem wn_6_111 : (Jvm.Cond.methodLink "CircuitCycles$Grammar" (319 : Nat) ({ cls := "CircuitCycles$Checker", name := "join", desc := "()V" } : Jvm.MethodName)) ∈ xw_G := xw_c6 (List.mem_of_getElem? (i := 111) rfl) rfl
theorem wn_6_112 : (Jvm.Cond.instanceMethod ({ cls := "CircuitCycles$Checker", name := "join", desc := "()V" } : Jvm.MethodName)) ∈ xw_G := xw_c6 (List.mem_of_getElem? (i := 112) rfl) rfl
theorem wn_6_113 : (Jvm.Cond.selects "CircuitCycles$Checker" ({ cls := "CircuitCycles$Checker", name := "join", desc := "()V" } : Jvm.MethodName) ({ cls := "CircuitCycles$Checker", name := "join", desc := "()V" } : Jvm.MethodName)) ∈ xw_G := xw_c6 (List.mem_of_getElem? (i := 113) rfl) rfl
theorem wn_6_114 : (Jvm.Cond.code ({ cls := "CircuitCycles$Checker", name := "join", desc := "()V" } : Jvm.MethodName) prog_2_method_27_code (2 : Nat) (Option.none : Option Jvm.ClassFile.FieldType)) ∈ xw_G := xw_c6 (List.mem_of_getElem? (i := 114) rfl) rfl
theorem wn_6_115 : (Jvm.Cond.methodLink "CircuitCycles$Grammar" (322 : Nat) ({ cls := "CircuitCycles$Grammar", name := "closeBrace", desc := "(I)V" } : Jvm.MethodName)) ∈ xw_G := xw_c6 (List.mem_of_getElem? (i := 115) rfl) rfl
theorem wn_6_117 : (Jvm.Cond.instanceMethod ({ cls := "CircuitCycles$Grammar", name := "closeBrace", desc := "(I)V" } : Jvm.MethodName)) ∈ xw_G := xw_c6 (List.mem_of_getElem? (i := 117) rfl) rfl
theorem wn_6_118 : (Jvm.Cond.code ({ cls := "CircuitCycles$Grammar", name := "closeBrace", desc := "(I)V" } : Jvm.MethodName) prog_6_method_34_code (2 : Nat) (Option.none : Option Jvm.ClassFile.FieldType)) ∈ xw_G := xw_c6 (List.mem_of_getElem? (i := 118) rfl) rfl
theorem wn_6_119 : (Jvm.Cond.methodLink "CircuitCycles$Grammar" (325 : Nat) ({ cls := "CircuitCycles$Checker", name := "braces", desc := "(I)V" } : Jvm.MethodName)) ∈ xw_G := xw_c6 (List.mem_of_getElem? (i := 119) rfl) rfl
theorem wn_6_120 : (Jvm.Cond.instanceMethod ({ cls := "CircuitCycles$Checker", name := "braces", desc := "(I)V" } : Jvm.MethodName)) ∈ xw_G := xw_c6 (List.mem_of_getElem? (i := 120) rfl) rfl
theorem wn_6_121 : (Jvm.Cond.selects "CircuitCycles$Checker" ({ cls := "CircuitCycles$Checker", name := "braces", desc := "(I)V" } : Jvm.MethodName) ({ cls := "CircuitCycles$Checker", name := "braces", desc := "(I)V" } : Jvm.MethodName)) ∈ xw_G := xw_c6 (List.mem_of_getElem? (i := 121) rfl) rfl
theorem wn_6_122 : (Jvm.Cond.code ({ cls := "CircuitCycles$Checker", name := "braces", desc := "(I)V" } : Jvm.MethodName) prog_2_method_28_code (3 : Nat) (Option.none : Option Jvm.ClassFile.FieldType)) ∈ xw_G := xw_c6 (List.mem_of_getElem? (i := 122) rfl) rfl
theorem wn_6_123 : (Jvm.Cond.methodLink "CircuitCycles$Grammar" (91 : Nat) ({ cls := "CircuitCycles$Grammar", name := "behindExp", desc := "()V" } : Jvm.MethodName)) ∈ xw_G := xw_c6 (List.mem_of_getElem? (i := 123) rfl) rfl
theorem wn_6_125 : (Jvm.Cond.instanceMethod ({ cls := "CircuitCycles$Grammar", name := "behindExp", desc := "()V" } : Jvm.MethodName)) ∈ xw_G := xw_c6 (List.mem_of_getElem? (i := 125) rfl) rfl
theorem wn_6_126 : (Jvm.Cond.code ({ cls := "CircuitCycles$Grammar", name := "behindExp", desc := "()V" } : Jvm.MethodName) prog_6_method_24_code (1 : Nat) (Option.none : Option Jvm.ClassFile.FieldType)) ∈ xw_G := xw_c6 (List.mem_of_getElem? (i := 126) rfl) rfl
theorem wn_6_127 : (Jvm.Cond.methodLink "CircuitCycles$Grammar" (255 : Nat) ({ cls := "CircuitCycles$Meaning", name := "assigned", desc := "(I)V" } : Jvm.MethodName)) ∈ xw_G := xw_c6 (List.mem_of_getElem? (i := 127) rfl) rfl
theorem wn_6_128 : (Jvm.Cond.instanceMethod ({ cls := "CircuitCycles$Meaning", name := "assigned", desc := "(I)V" } : Jvm.MethodName)) ∈ xw_G := xw_c6 (List.mem_of_getElem? (i := 128) rfl) rfl
theorem wn_6_129 : (Jvm.Cond.selects "CircuitCycles$Meaning" ({ cls := "CircuitCycles$Meaning", name := "assigned", desc := "(I)V" } : Jvm.MethodName) ({ cls := "CircuitCycles$Meaning", name := "assigned", desc := "(I)V" } : Jvm.MethodName)) ∈ xw_G := xw_c6 (List.mem_of_getElem? (i := 129) rfl) rfl
theorem wn_6_130 : (Jvm.Cond.code ({ cls := "CircuitCycles$Meaning", name := "assigned", desc := "(I)V" } : Jvm.MethodName) prog_8_method_9_code (2 : Nat) (Option.none : Option Jvm.ClassFile.FieldType)) ∈ xw_G := xw_c6 (List.mem_of_getElem? (i := 130) rfl) rfl
theorem wn_6_131 : (Jvm.Cond.methodLink "CircuitCycles$Meaning" (119 : Nat) ({ cls := "CircuitCycles$Checker", name := "expWidth", desc := "()I" } : Jvm.MethodName)) ∈ xw_G := xw_c6 (List.mem_of_getElem? (i := 131) rfl) rfl
theorem wn_6_132 : (Jvm.Cond.instanceMethod ({ cls := "CircuitCycles$Checker", name := "expWidth", desc := "()I" } : Jvm.MethodName)) ∈ xw_G := xw_c6 (List.mem_of_getElem? (i := 132) rfl) rfl
theorem wn_6_133 : (Jvm.Cond.selects "CircuitCycles$Checker" ({ cls := "CircuitCycles$Checker", name := "expWidth", desc := "()I" } : Jvm.MethodName) ({ cls := "CircuitCycles$Checker", name := "expWidth", desc := "()I" } : Jvm.MethodName)) ∈ xw_G := xw_c6 (List.mem_of_getElem? (i := 133) rfl) rfl
theorem wn_6_134 : (Jvm.Cond.code ({ cls := "CircuitCycles$Checker", name := "expWidth", desc := "()I" } : Jvm.MethodName) prog_2_method_14_code (1 : Nat) (Option.some Jvm.ClassFile.FieldType.int)) ∈ xw_G := xw_c6 (List.mem_of_getElem? (i := 134) rfl) rfl
theorem wn_6_135 : (Jvm.Cond.methodLink "CircuitCycles$Grammar" (258 : Nat) ({ cls := "CircuitCycles$Meaning", name := "stored", desc := "(I)V" } : Jvm.MethodName)) ∈ xw_G := xw_c6 (List.mem_of_getElem? (i := 135) rfl) rfl
theorem wn_6_136 : (Jvm.Cond.instanceMethod ({ cls := "CircuitCycles$Meaning", name := "stored", desc := "(I)V" } : Jvm.MethodName)) ∈ xw_G := xw_c6 (List.mem_of_getElem? (i := 136) rfl) rfl
theorem wn_6_137 : (Jvm.Cond.selects "CircuitCycles$Meaning" ({ cls := "CircuitCycles$Meaning", name := "stored", desc := "(I)V" } : Jvm.MethodName) ({ cls := "CircuitCycles$Meaning", name := "stored", desc := "(I)V" } : Jvm.MethodName)) ∈ xw_G := xw_c6 (List.mem_of_getElem? (i := 137) rfl) rfl
theorem wn_6_138 : (Jvm.Cond.code ({ cls := "CircuitCycles$Meaning", name := "stored", desc := "(I)V" } : Jvm.MethodName) prog_8_method_21_code (2 : Nat) (Option.none : Option Jvm.ClassFile.FieldType)) ∈ xw_G := xw_c6 (List.mem_of_getElem? (i := 138) rfl) rfl
theorem wn_6_139 : (Jvm.Cond.methodLink "CircuitCycles$Meaning" (180 : Nat) ({ cls := "CircuitCycles$Checker", name := "localOf", desc := "(I)I" } : Jvm.MethodName)) ∈ xw_G := xw_c6 (List.mem_of_getElem? (i := 139) rfl) rfl
theorem wn_6_140 : (Jvm.Cond.methodLink "CircuitCycles$Grammar" (261 : Nat) ({ cls := "CircuitCycles$Meaning", name := "condition", desc := "()V" } : Jvm.MethodName)) ∈ xw_G := xw_c6 (List.mem_of_getElem? (i := 140) rfl) rfl
theorem wn_6_141 : (Jvm.Cond.instanceMethod ({ cls := "CircuitCycles$Meaning", name := "condition", desc := "()V" } : Jvm.MethodName)) ∈ xw_G := xw_c6 (List.mem_of_getElem? (i := 141) rfl) rfl
theorem wn_6_142 : (Jvm.Cond.selects "CircuitCycles$Meaning" ({ cls := "CircuitCycles$Meaning", name := "condition", desc := "()V" } : Jvm.MethodName) ({ cls := "CircuitCycles$Meaning", name := "condition", desc := "()V" } : Jvm.MethodName)) ∈ xw_G := xw_c6 (List.mem_of_getElem? (i := 142) rfl) rfl
theorem wn_6_143 : (Jvm.Cond.code ({ cls := "CircuitCycles$Meaning", name := "condition", desc := "()V" } : Jvm.MethodName) prog_8_method_22_code (1 : Nat) (Option.none : Option Jvm.ClassFile.FieldType)) ∈ xw_G := xw_c6 (List.mem_of_getElem? (i := 143) rfl) rfl
theorem wn_6_144 : (Jvm.Cond.methodLink "CircuitCycles$Grammar" (264 : Nat) ({ cls := "CircuitCycles$Meaning", name := "choice", desc := "()V" } : Jvm.MethodName)) ∈ xw_G := xw_c6 (List.mem_of_getElem? (i := 144) rfl) rfl
theorem wn_6_145 : (Jvm.Cond.instanceMethod ({ cls := "CircuitCycles$Meaning", name := "choice", desc := "()V" } : Jvm.MethodName)) ∈ xw_G := xw_c6 (List.mem_of_getElem? (i := 145) rfl) rfl
theorem wn_6_146 : (Jvm.Cond.selects "CircuitCycles$Meaning" ({ cls := "CircuitCycles$Meaning", name := "choice", desc := "()V" } : Jvm.MethodName) ({ cls := "CircuitCycles$Meaning", name := "choice", desc := "()V" } : Jvm.MethodName)) ∈ xw_G := xw_c6 (List.mem_of_getElem? (i := 146) rfl) rfl
theorem wn_6_147 : (Jvm.Cond.code ({ cls := "CircuitCycles$Meaning", name := "choice", desc := "()V" } : Jvm.MethodName) prog_8_method_25_code (1 : Nat) (Option.none : Option Jvm.ClassFile.FieldType)) ∈ xw_G := xw_c6 (List.mem_of_getElem? (i := 147) rfl) rfl
theorem wn_6_148 : (Jvm.Cond.methodLink "CircuitCycles$Grammar" (267 : Nat) ({ cls := "CircuitCycles$Meaning", name := "asserted", desc := "()V" } : Jvm.MethodName)) ∈ xw_G := xw_c6 (List.mem_of_getElem? (i := 148) rfl) rfl
theorem wn_6_149 : (Jvm.Cond.instanceMethod ({ cls := "CircuitCycles$Meaning", name := "asserted", desc := "()V" } : Jvm.MethodName)) ∈ xw_G := xw_c6 (List.mem_of_getElem? (i := 149) rfl) rfl
theorem wn_6_150 : (Jvm.Cond.selects "CircuitCycles$Meaning" ({ cls := "CircuitCycles$Meaning", name := "asserted", desc := "()V" } : Jvm.MethodName) ({ cls := "CircuitCycles$Meaning", name := "asserted", desc := "()V" } : Jvm.MethodName)) ∈ xw_G := xw_c6 (List.mem_of_getElem? (i := 150) rfl) rfl
theorem wn_6_151 : (Jvm.Cond.code ({ cls := "CircuitCycles$Meaning", name := "asserted", desc := "()V" } : Jvm.MethodName) prog_8_method_10_code (1 : Nat) (Option.none : Option Jvm.ClassFile.FieldType)) ∈ xw_G := xw_c6 (List.mem_of_getElem? (i := 151) rfl) rfl
theorem wn_6_152 : (Jvm.Cond.methodLink "CircuitCycles$Grammar" (270 : Nat) ({ cls := "CircuitCycles$Grammar", name := "linkEnd", desc := "()V" } : Jvm.MethodName)) ∈ xw_G := xw_c6 (List.mem_of_getElem? (i := 152) rfl) rfl
theorem wn_6_154 : (Jvm.Cond.instanceMethod ({ cls := "CircuitCycles$Grammar", name := "linkEnd", desc := "()V" } : Jvm.MethodName)) ∈ xw_G := xw_c6 (List.mem_of_getElem? (i := 154) rfl) rfl
theorem wn_6_155 : (Jvm.Cond.code ({ cls := "CircuitCycles$Grammar", name := "linkEnd", desc := "()V" } : Jvm.MethodName) prog_6_method_12_code (2 : Nat) (Option.none : Option Jvm.ClassFile.FieldType)) ∈ xw_G := xw_c6 (List.mem_of_getElem? (i := 155) rfl) rfl
theorem wn_6_156 : (Jvm.Cond.methodLink "CircuitCycles$Grammar" (193 : Nat) ({ cls := "CircuitCycles$Tokens", name := "extraAt", desc := "(I)I" } : Jvm.MethodName)) ∈ xw_G := xw_c6 (List.mem_of_getElem? (i := 156) rfl) rfl
theorem wn_6_157 : (Jvm.Cond.methodLink "CircuitCycles$Grammar" (196 : Nat) ({ cls := "CircuitCycles$Meaning", name := "linked", desc := "(III)V" } : Jvm.MethodName)) ∈ xw_G := xw_c6 (List.mem_of_getElem? (i := 157) rfl) rfl
theorem wn_6_158 : (Jvm.Cond.instanceMethod ({ cls := "CircuitCycles$Meaning", name := "linked", desc := "(III)V" } : Jvm.MethodName)) ∈ xw_G := xw_c6 (List.mem_of_getElem? (i := 158) rfl) rfl
theorem wn_6_159 : (Jvm.Cond.selects "CircuitCycles$Meaning" ({ cls := "CircuitCycles$Meaning", name := "linked", desc := "(III)V" } : Jvm.MethodName) ({ cls := "CircuitCycles$Meaning", name := "linked", desc := "(III)V" } : Jvm.MethodName)) ∈ xw_G := xw_c6 (List.mem_of_getElem? (i := 159) rfl) rfl
theorem wn_6_160 : (Jvm.Cond.code ({ cls := "CircuitCycles$Meaning", name := "linked", desc := "(III)V" } : Jvm.MethodName) prog_8_method_14_code (9 : Nat) (Option.none : Option Jvm.ClassFile.FieldType)) ∈ xw_G := xw_c6 (List.mem_of_getElem? (i := 160) rfl) rfl
theorem wn_6_165 : (Jvm.Cond.methodLink "CircuitCycles$Design" (111 : Nat) ({ cls := "CircuitCycles$Design", name := "firstDecl", desc := "(I)I" } : Jvm.MethodName)) ∈ xw_G := xw_c6 (List.mem_of_getElem? (i := 165) rfl) rfl
theorem wn_6_166 : (Jvm.Cond.methodLink "CircuitCycles$Design" (115 : Nat) ({ cls := "java/lang/Math", name := "max", desc := "(II)I" } : Jvm.MethodName)) ∈ xw_G := xw_c6 (List.mem_of_getElem? (i := 166) rfl) rfl
theorem wn_6_167 : (Jvm.Cond.constantLong "CircuitCycles$Design" (118 : Nat) (16777216 : Int64)) ∈ xw_G := xw_c6 (List.mem_of_getElem? (i := 167) rfl) rfl
theorem wn_6_176 : (Jvm.Cond.methodLink "CircuitCycles$Circuit" (53 : Nat) ({ cls := "CircuitCycles$Design", name := "sumOfTop", desc := "(I)I" } : Jvm.MethodName)) ∈ xw_G := xw_c6 (List.mem_of_getElem? (i := 176) rfl) rfl
theorem wn_6_177 : (Jvm.Cond.instanceMethod ({ cls := "CircuitCycles$Design", name := "sumOfTop", desc := "(I)I" } : Jvm.MethodName)) ∈ xw_G := xw_c6 (List.mem_of_getElem? (i := 177) rfl) rfl
theorem wn_6_178 : (Jvm.Cond.selects "CircuitCycles$Design" ({ cls := "CircuitCycles$Design", name := "sumOfTop", desc := "(I)I" } : Jvm.MethodName) ({ cls := "CircuitCycles$Design", name := "sumOfTop", desc := "(I)I" } : Jvm.MethodName)) ∈ xw_G := xw_c6 (List.mem_of_getElem? (i := 178) rfl) rfl
theorem wn_6_179 : (Jvm.Cond.code ({ cls := "CircuitCycles$Design", name := "sumOfTop", desc := "(I)I" } : Jvm.MethodName) prog_5_method_12_code (2 : Nat) (Option.some Jvm.ClassFile.FieldType.int)) ∈ xw_G := xw_c6 (List.mem_of_getElem? (i := 179) rfl) rfl
theorem wn_6_180 : (Jvm.Cond.methodLink "CircuitCycles$Circuit" (57 : Nat) ({ cls := "java/lang/Math", name := "min", desc := "(II)I" } : Jvm.MethodName)) ∈ xw_G := xw_c6 (List.mem_of_getElem? (i := 180) rfl) rfl
theorem wn_6_181 : (Jvm.Cond.methodLink "CircuitCycles$Circuit" (69 : Nat) ({ cls := "CircuitCycles$Circuit", name := "layChildren", desc := "(I)V" } : Jvm.MethodName)) ∈ xw_G := xw_c6 (List.mem_of_getElem? (i := 181) rfl) rfl
theorem wn_6_183 : (Jvm.Cond.instanceMethod ({ cls := "CircuitCycles$Circuit", name := "layChildren", desc := "(I)V" } : Jvm.MethodName)) ∈ xw_G := xw_c6 (List.mem_of_getElem? (i := 183) rfl) rfl
theorem wn_6_184 : (Jvm.Cond.code ({ cls := "CircuitCycles$Circuit", name := "layChildren", desc := "(I)V" } : Jvm.MethodName) prog_3_method_4_code (8 : Nat) (Option.none : Option Jvm.ClassFile.FieldType)) ∈ xw_G := xw_c6 (List.mem_of_getElem? (i := 184) rfl) rfl
theorem wn_6_185 : (Jvm.Cond.methodLink "CircuitCycles$Circuit" (82 : Nat) ({ cls := "CircuitCycles$Circuit", name := "ownSignals", desc := "(I)I" } : Jvm.MethodName)) ∈ xw_G := xw_c6 (List.mem_of_getElem? (i := 185) rfl) rfl
theorem wn_6_187 : (Jvm.Cond.instanceMethod ({ cls := "CircuitCycles$Circuit", name := "ownSignals", desc := "(I)I" } : Jvm.MethodName)) ∈ xw_G := xw_c6 (List.mem_of_getElem? (i := 187) rfl) rfl
theorem wn_6_188 : (Jvm.Cond.code ({ cls := "CircuitCycles$Circuit", name := "ownSignals", desc := "(I)I" } : Jvm.MethodName) prog_3_method_3_code (2 : Nat) (Option.some Jvm.ClassFile.FieldType.int)) ∈ xw_G := xw_c6 (List.mem_of_getElem? (i := 188) rfl) rfl
theorem wn_6_189 : (Jvm.Cond.methodLink "CircuitCycles$Circuit" (79 : Nat) ({ cls := "CircuitCycles$Design", name := "firstDecl", desc := "(I)I" } : Jvm.MethodName)) ∈ xw_G := xw_c6 (List.mem_of_getElem? (i := 189) rfl) rfl
theorem wn_6_190 : (Jvm.Cond.methodLink "CircuitCycles$Circuit" (85 : Nat) ({ cls := "CircuitCycles$Design", name := "firstChild", desc := "(I)I" } : Jvm.MethodName)) ∈ xw_G := xw_c6 (List.mem_of_getElem? (i := 190) rfl) rfl
theorem wn_6_191 : (Jvm.Cond.instanceMethod ({ cls := "CircuitCycles$Design", name := "firstChild", desc := "(I)I" } : Jvm.MethodName)) ∈ xw_G := xw_c6 (List.mem_of_getElem? (i := 191) rfl) rfl
theorem wn_6_192 : (Jvm.Cond.selects "CircuitCycles$Design" ({ cls := "CircuitCycles$Design", name := "firstChild", desc := "(I)I" } : Jvm.MethodName) ({ cls := "CircuitCycles$Design", name := "firstChild", desc := "(I)I" } : Jvm.MethodName)) ∈ xw_G := xw_c6 (List.mem_of_getElem? (i := 192) rfl) rfl
theorem wn_6_193 : (Jvm.Cond.code ({ cls := "CircuitCycles$Design", name := "firstChild", desc := "(I)I" } : Jvm.MethodName) prog_5_method_9_code (2 : Nat) (Option.some Jvm.ClassFile.FieldType.int)) ∈ xw_G := xw_c6 (List.mem_of_getElem? (i := 193) rfl) rfl
theorem wn_6_194 : (Jvm.Cond.methodLink "CircuitCycles$Circuit" (97 : Nat) ({ cls := "CircuitCycles$Design", name := "sumOf", desc := "(II)I" } : Jvm.MethodName)) ∈ xw_G := xw_c6 (List.mem_of_getElem? (i := 194) rfl) rfl
theorem wn_6_195 : (Jvm.Cond.methodLink "CircuitCycles$Circuit" (73 : Nat) ({ cls := "CircuitCycles$Circuit", name := "laySignals", desc := "(I)V" } : Jvm.MethodName)) ∈ xw_G := xw_c6 (List.mem_of_getElem? (i := 195) rfl) rfl
theorem wn_6_197 : (Jvm.Cond.instanceMethod ({ cls := "CircuitCycles$Circuit", name := "laySignals", desc := "(I)V" } : Jvm.MethodName)) ∈ xw_G := xw_c6 (List.mem_of_getElem? (i := 197) rfl) rfl
theorem wn_6_198 : (Jvm.Cond.code ({ cls := "CircuitCycles$Circuit", name := "laySignals", desc := "(I)V" } : Jvm.MethodName) prog_3_method_5_code (7 : Nat) (Option.none : Option Jvm.ClassFile.FieldType)) ∈ xw_G := xw_c6 (List.mem_of_getElem? (i := 198) rfl) rfl
theorem wn_6_199 : (Jvm.Cond.methodLink "CircuitCycles$Circuit" (76 : Nat) ({ cls := "CircuitCycles$Circuit", name := "layLinks", desc := "(I)V" } : Jvm.MethodName)) ∈ xw_G := xw_c6 (List.mem_of_getElem? (i := 199) rfl) rfl
theorem wn_6_201 : (Jvm.Cond.instanceMethod ({ cls := "CircuitCycles$Circuit", name := "layLinks", desc := "(I)V" } : Jvm.MethodName)) ∈ xw_G := xw_c6 (List.mem_of_getElem? (i := 201) rfl) rfl
theorem wn_6_202 : (Jvm.Cond.code ({ cls := "CircuitCycles$Circuit", name := "layLinks", desc := "(I)V" } : Jvm.MethodName) prog_3_method_6_code (9 : Nat) (Option.none : Option Jvm.ClassFile.FieldType)) ∈ xw_G := xw_c6 (List.mem_of_getElem? (i := 202) rfl) rfl
theorem wn_6_203 : (Jvm.Cond.methodLink "CircuitCycles$Circuit" (105 : Nat) ({ cls := "CircuitCycles$Parts", name := "linksEnd", desc := "(I)I" } : Jvm.MethodName)) ∈ xw_G := xw_c6 (List.mem_of_getElem? (i := 203) rfl) rfl
theorem wn_6_204 : (Jvm.Cond.instanceMethod ({ cls := "CircuitCycles$Parts", name := "linksEnd", desc := "(I)I" } : Jvm.MethodName)) ∈ xw_G := xw_c6 (List.mem_of_getElem? (i := 204) rfl) rfl
theorem wn_6_205 : (Jvm.Cond.selects "CircuitCycles$Parts" ({ cls := "CircuitCycles$Parts", name := "linksEnd", desc := "(I)I" } : Jvm.MethodName) ({ cls := "CircuitCycles$Parts", name := "linksEnd", desc := "(I)I" } : Jvm.MethodName)) ∈ xw_G := xw_c6 (List.mem_of_getElem? (i := 205) rfl) rfl
theorem wn_6_206 : (Jvm.Cond.code ({ cls := "CircuitCycles$Parts", name := "linksEnd", desc := "(I)I" } : Jvm.MethodName) prog_10_method_6_code (2 : Nat) (Option.some Jvm.ClassFile.FieldType.int)) ∈ xw_G := xw_c6 (List.mem_of_getElem? (i := 206) rfl) rfl
theorem wn_6_207 : (Jvm.Cond.methodLink "CircuitCycles$Circuit" (117 : Nat) ({ cls := "CircuitCycles$Circuit", name := "isSignal", desc := "(I)Z" } : Jvm.MethodName)) ∈ xw_G := xw_c6 (List.mem_of_getElem? (i := 207) rfl) rfl
theorem wn_6_209 : (Jvm.Cond.instanceMethod ({ cls := "CircuitCycles$Circuit", name := "isSignal", desc := "(I)Z" } : Jvm.MethodName)) ∈ xw_G := xw_c6 (List.mem_of_getElem? (i := 209) rfl) rfl
theorem wn_6_210 : (Jvm.Cond.code ({ cls := "CircuitCycles$Circuit", name := "isSignal", desc := "(I)Z" } : Jvm.MethodName) prog_3_method_7_code (2 : Nat) (Option.some Jvm.ClassFile.FieldType.boolean)) ∈ xw_G := xw_c6 (List.mem_of_getElem? (i := 210) rfl) rfl
theorem wn_6_215 : (Jvm.Cond.constant "CircuitCycles$Order" (49 : Nat) (1073741824 : Int32)) ∈ xw_G := xw_c6 (List.mem_of_getElem? (i := 215) rfl) rfl
theorem wn_6_216 : (Jvm.Cond.methodLink "CircuitCycles$Order" (53 : Nat) ({ cls := "CircuitCycles$Order", name := "visit", desc := "(I)V" } : Jvm.MethodName)) ∈ xw_G := xw_c6 (List.mem_of_getElem? (i := 216) rfl) rfl
theorem wn_6_218 : (Jvm.Cond.instanceMethod ({ cls := "CircuitCycles$Order", name := "visit", desc := "(I)V" } : Jvm.MethodName)) ∈ xw_G := xw_c6 (List.mem_of_getElem? (i := 218) rfl) rfl
theorem wn_6_219 : (Jvm.Cond.code ({ cls := "CircuitCycles$Order", name := "visit", desc := "(I)V" } : Jvm.MethodName) prog_9_method_3_code (5 : Nat) (Option.none : Option Jvm.ClassFile.FieldType)) ∈ xw_G := xw_c6 (List.mem_of_getElem? (i := 219) rfl) rfl
theorem wn_6_220 : (Jvm.Cond.methodLink "CircuitCycles$Order" (57 : Nat) ({ cls := "CircuitCycles$Order", name := "enter", desc := "(I)V" } : Jvm.MethodName)) ∈ xw_G := xw_c6 (List.mem_of_getElem? (i := 220) rfl) rfl
theorem wn_6_222 : (Jvm.Cond.instanceMethod ({ cls := "CircuitCycles$Order", name := "enter", desc := "(I)V" } : Jvm.MethodName)) ∈ xw_G := xw_c6 (List.mem_of_getElem? (i := 222) rfl) rfl
theorem wn_6_223 : (Jvm.Cond.code ({ cls := "CircuitCycles$Order", name := "enter", desc := "(I)V" } : Jvm.MethodName) prog_9_method_4_code (2 : Nat) (Option.none : Option Jvm.ClassFile.FieldType)) ∈ xw_G := xw_c6 (List.mem_of_getElem? (i := 223) rfl) rfl
theorem wn_6_224 : (Jvm.Cond.constant "CircuitCycles$Order" (60 : Nat) (16777216 : Int32)) ∈ xw_G := xw_c6 (List.mem_of_getElem? (i := 224) rfl) rfl
theorem wn_6_225 : (Jvm.Cond.methodLink "CircuitCycles$Order" (61 : Nat) ({ cls := "CircuitCycles$Order", name := "nextNeeded", desc := "(I)I" } : Jvm.MethodName)) ∈ xw_G := xw_c6 (List.mem_of_getElem? (i := 225) rfl) rfl
theorem wn_6_227 : (Jvm.Cond.instanceMethod ({ cls := "CircuitCycles$Order", name := "nextNeeded", desc := "(I)I" } : Jvm.MethodName)) ∈ xw_G := xw_c6 (List.mem_of_getElem? (i := 227) rfl) rfl
theorem wn_6_228 : (Jvm.Cond.code ({ cls := "CircuitCycles$Order", name := "nextNeeded", desc := "(I)I" } : Jvm.MethodName) prog_9_method_5_code (6 : Nat) (Option.some Jvm.ClassFile.FieldType.int)) ∈ xw_G := xw_c6 (List.mem_of_getElem? (i := 228) rfl) rfl
theorem wn_6_229 : (Jvm.Cond.methodLink "CircuitCycles$Order" (68 : Nat) ({ cls := "java/lang/Math", name := "min", desc := "(II)I" } : Jvm.MethodName)) ∈ xw_G := xw_c6 (List.mem_of_getElem? (i := 229) rfl) rfl
theorem wn_6_230 : (Jvm.Cond.methodLink "CircuitCycles$Order" (98 : Nat) ({ cls := "java/lang/Math", name := "max", desc := "(II)I" } : Jvm.MethodName)) ∈ xw_G := xw_c6 (List.mem_of_getElem? (i := 230) rfl) rfl
theorem wn_6_231 : (Jvm.Cond.methodLink "CircuitCycles$Order" (101 : Nat) ({ cls := "CircuitCycles$Code", name := "opAt", desc := "(I)I" } : Jvm.MethodName)) ∈ xw_G := xw_c6 (List.mem_of_getElem? (i := 231) rfl) rfl
theorem wn_6_232 : (Jvm.Cond.instanceMethod ({ cls := "CircuitCycles$Code", name := "opAt", desc := "(I)I" } : Jvm.MethodName)) ∈ xw_G := xw_c6 (List.mem_of_getElem? (i := 232) rfl) rfl
theorem wn_6_233 : (Jvm.Cond.selects "CircuitCycles$Code" ({ cls := "CircuitCycles$Code", name := "opAt", desc := "(I)I" } : Jvm.MethodName) ({ cls := "CircuitCycles$Code", name := "opAt", desc := "(I)I" } : Jvm.MethodName)) ∈ xw_G := xw_c6 (List.mem_of_getElem? (i := 233) rfl) rfl
theorem wn_6_234 : (Jvm.Cond.code ({ cls := "CircuitCycles$Code", name := "opAt", desc := "(I)I" } : Jvm.MethodName) prog_4_method_7_code (2 : Nat) (Option.some Jvm.ClassFile.FieldType.int)) ∈ xw_G := xw_c6 (List.mem_of_getElem? (i := 234) rfl) rfl
theorem wn_6_235 : (Jvm.Cond.methodLink "CircuitCycles$Order" (107 : Nat) ({ cls := "CircuitCycles$Code", name := "argAt", desc := "(I)I" } : Jvm.MethodName)) ∈ xw_G := xw_c6 (List.mem_of_getElem? (i := 235) rfl) rfl
theorem wn_6_236 : (Jvm.Cond.methodLink "CircuitCycles$Order" (65 : Nat) ({ cls := "CircuitCycles$Order", name := "leave", desc := "(I)V" } : Jvm.MethodName)) ∈ xw_G := xw_c6 (List.mem_of_getElem? (i := 236) rfl) rfl
theorem wn_6_238 : (Jvm.Cond.instanceMethod ({ cls := "CircuitCycles$Order", name := "leave", desc := "(I)V" } : Jvm.MethodName)) ∈ xw_G := xw_c6 (List.mem_of_getElem? (i := 238) rfl) rfl
theorem wn_6_239 : (Jvm.Cond.code ({ cls := "CircuitCycles$Order", name := "leave", desc := "(I)V" } : Jvm.MethodName) prog_9_method_6_code (4 : Nat) (Option.none : Option Jvm.ClassFile.FieldType)) ∈ xw_G := xw_c6 (List.mem_of_getElem? (i := 239) rfl) rfl
theorem wn_7_0 : (Jvm.Cond.methodLink "CircuitCycles$Order" (110 : Nat) ({ cls := "CircuitCycles$Order", name := "append", desc := "(I)V" } : Jvm.MethodName)) ∈ xw_G := xw_c7 (List.mem_of_getElem? (i := 0) rfl) rfl
theorem wn_7_2 : (Jvm.Cond.instanceMethod ({ cls := "CircuitCycles$Order", name := "append", desc := "(I)V" } : Jvm.MethodName)) ∈ xw_G := xw_c7 (List.mem_of_getElem? (i := 2) rfl) rfl
theorem wn_7_3 : (Jvm.Cond.code ({ cls := "CircuitCycles$Order", name := "append", desc := "(I)V" } : Jvm.MethodName) prog_9_method_7_code (3 : Nat) (Option.none : Option Jvm.ClassFile.FieldType)) ∈ xw_G := xw_c7 (List.mem_of_getElem? (i := 3) rfl) rfl
theorem wn_7_4 : (Jvm.Cond.methodLink "CircuitCycles" (128 : Nat) ({ cls := "CircuitCycles$Circuit", name := "placeOf", desc := "(I)I" } : Jvm.MethodName)) ∈ xw_G := xw_c7 (List.mem_of_getElem? (i := 4) rfl) rfl
theorem wn_7_5 : (Jvm.Cond.instanceMethod ({ cls := "CircuitCycles$Circuit", name := "placeOf", desc := "(I)I" } : Jvm.MethodName)) ∈ xw_G := xw_c7 (List.mem_of_getElem? (i := 5) rfl) rfl
theorem wn_7_6 : (Jvm.Cond.selects "CircuitCycles$Circuit" ({ cls := "CircuitCycles$Circuit", name := "placeOf", desc := "(I)I" } : Jvm.MethodName) ({ cls := "CircuitCycles$Circuit", name := "placeOf", desc := "(I)I" } : Jvm.MethodName)) ∈ xw_G := xw_c7 (List.mem_of_getElem? (i := 6) rfl) rfl
theorem wn_7_7 : (Jvm.Cond.code ({ cls := "CircuitCycles$Circuit", name := "placeOf", desc := "(I)I" } : Jvm.MethodName) prog_3_method_9_code (2 : Nat) (Option.some Jvm.ClassFile.FieldType.int)) ∈ xw_G := xw_c7 (List.mem_of_getElem? (i := 7) rfl) rfl
theorem wn_7_8 : (Jvm.Cond.methodLink "CircuitCycles" (136 : Nat) ({ cls := "CircuitCycles$Machine", name := "restart", desc := "(LCircuitCycles$Circuit;)V" } : Jvm.MethodName)) ∈ xw_G := xw_c7 (List.mem_of_getElem? (i := 8) rfl) rfl
theorem wn_7_9 : (Jvm.Cond.instanceMethod ({ cls := "CircuitCycles$Machine", name := "restart", desc := "(LCircuitCycles$Circuit;)V" } : Jvm.MethodName)) ∈ xw_G := xw_c7 (List.mem_of_getElem? (i := 9) rfl) rfl
theorem wn_7_10 : (Jvm.Cond.selects "CircuitCycles$Machine" ({ cls := "CircuitCycles$Machine", name := "restart", desc := "(LCircuitCycles$Circuit;)V" } : Jvm.MethodName) ({ cls := "CircuitCycles$Machine", name := "restart", desc := "(LCircuitCycles$Circuit;)V" } : Jvm.MethodName)) ∈ xw_G := xw_c7 (List.mem_of_getElem? (i := 10) rfl) rfl
theorem wn_7_11 : (Jvm.Cond.code ({ cls := "CircuitCycles$Machine", name := "restart", desc := "(LCircuitCycles$Circuit;)V" } : Jvm.MethodName) prog_7_method_2_code (3 : Nat) (Option.none : Option Jvm.ClassFile.FieldType)) ∈ xw_G := xw_c7 (List.mem_of_getElem? (i := 11) rfl) rfl
theorem wn_7_12 : (Jvm.Cond.methodLink "CircuitCycles$Machine" (27 : Nat) ({ cls := "CircuitCycles$Circuit", name := "firstOf", desc := "(I)J" } : Jvm.MethodName)) ∈ xw_G := xw_c7 (List.mem_of_getElem? (i := 12) rfl) rfl
theorem wn_7_13 : (Jvm.Cond.instanceMethod ({ cls := "CircuitCycles$Circuit", name := "firstOf", desc := "(I)J" } : Jvm.MethodName)) ∈ xw_G := xw_c7 (List.mem_of_getElem? (i := 13) rfl) rfl
theorem wn_7_14 : (Jvm.Cond.selects "CircuitCycles$Circuit" ({ cls := "CircuitCycles$Circuit", name := "firstOf", desc := "(I)J" } : Jvm.MethodName) ({ cls := "CircuitCycles$Circuit", name := "firstOf", desc := "(I)J" } : Jvm.MethodName)) ∈ xw_G := xw_c7 (List.mem_of_getElem? (i := 14) rfl) rfl
theorem wn_7_15 : (Jvm.Cond.code ({ cls := "CircuitCycles$Circuit", name := "firstOf", desc := "(I)J" } : Jvm.MethodName) prog_3_method_10_code (2 : Nat) (Option.some Jvm.ClassFile.FieldType.long)) ∈ xw_G := xw_c7 (List.mem_of_getElem? (i := 15) rfl) rfl
theorem wn_7_28 : (Jvm.Cond.constant "CircuitCycles" (74 : Nat) (65536 : Int32)) ∈ xw_G := xw_c7 (List.mem_of_getElem? (i := 28) rfl) rfl
theorem wn_7_93 : (Jvm.Cond.methodLink "CircuitCycles" (78 : Nat) ({ cls := "CircuitCycles", name := "append", desc := "(I)V" } : Jvm.MethodName)) ∈ xw_G := xw_c7 (List.mem_of_getElem? (i := 93) rfl) rfl
theorem wn_7_95 : (Jvm.Cond.instanceMethod ({ cls := "CircuitCycles", name := "append", desc := "(I)V" } : Jvm.MethodName)) ∈ xw_G := xw_c7 (List.mem_of_getElem? (i := 95) rfl) rfl
theorem wn_7_96 : (Jvm.Cond.code ({ cls := "CircuitCycles", name := "append", desc := "(I)V" } : Jvm.MethodName) prog_1_method_14_code (4 : Nat) (Option.none : Option Jvm.ClassFile.FieldType)) ∈ xw_G := xw_c7 (List.mem_of_getElem? (i := 96) rfl) rfl
theorem wn_7_143 : (Jvm.Cond.methodLink "CircuitCycles" (152 : Nat) ({ cls := "CircuitCycles$Design", name := "sumOfTop", desc := "(I)I" } : Jvm.MethodName)) ∈ xw_G := xw_c7 (List.mem_of_getElem? (i := 143) rfl) rfl
theorem wn_7_151 : (Jvm.Cond.methodLink "CircuitCycles" (162 : Nat) ({ cls := "CircuitCycles$Circuit", name := "seek", desc := "([BI)I" } : Jvm.MethodName)) ∈ xw_G := xw_c7 (List.mem_of_getElem? (i := 151) rfl) rfl
theorem wn_7_152 : (Jvm.Cond.instanceMethod ({ cls := "CircuitCycles$Circuit", name := "seek", desc := "([BI)I" } : Jvm.MethodName)) ∈ xw_G := xw_c7 (List.mem_of_getElem? (i := 152) rfl) rfl
theorem wn_7_153 : (Jvm.Cond.selects "CircuitCycles$Circuit" ({ cls := "CircuitCycles$Circuit", name := "seek", desc := "([BI)I" } : Jvm.MethodName) ({ cls := "CircuitCycles$Circuit", name := "seek", desc := "([BI)I" } : Jvm.MethodName)) ∈ xw_G := xw_c7 (List.mem_of_getElem? (i := 153) rfl) rfl
theorem wn_7_154 : (Jvm.Cond.code ({ cls := "CircuitCycles$Circuit", name := "seek", desc := "([BI)I" } : Jvm.MethodName) prog_3_method_12_code (6 : Nat) (Option.some Jvm.ClassFile.FieldType.int)) ∈ xw_G := xw_c7 (List.mem_of_getElem? (i := 154) rfl) rfl
theorem wn_7_155 : (Jvm.Cond.methodLink "CircuitCycles$Circuit" (134 : Nat) ({ cls := "CircuitCycles$Circuit", name := "childCalled", desc := "(I[BII)I" } : Jvm.MethodName)) ∈ xw_G := xw_c7 (List.mem_of_getElem? (i := 155) rfl) rfl
theorem wn_7_157 : (Jvm.Cond.instanceMethod ({ cls := "CircuitCycles$Circuit", name := "childCalled", desc := "(I[BII)I" } : Jvm.MethodName)) ∈ xw_G := xw_c7 (List.mem_of_getElem? (i := 157) rfl) rfl
theorem wn_7_158 : (Jvm.Cond.code ({ cls := "CircuitCycles$Circuit", name := "childCalled", desc := "(I[BII)I" } : Jvm.MethodName) prog_3_method_13_code (6 : Nat) (Option.some Jvm.ClassFile.FieldType.int)) ∈ xw_G := xw_c7 (List.mem_of_getElem? (i := 158) rfl) rfl
theorem wn_7_159 : (Jvm.Cond.methodLink "CircuitCycles$Circuit" (144 : Nat) ({ cls := "CircuitCycles$Design", name := "isCalled", desc := "(I[BII)Z" } : Jvm.MethodName)) ∈ xw_G := xw_c7 (List.mem_of_getElem? (i := 159) rfl) rfl
theorem wn_7_160 : (Jvm.Cond.instanceMethod ({ cls := "CircuitCycles$Design", name := "isCalled", desc := "(I[BII)Z" } : Jvm.MethodName)) ∈ xw_G := xw_c7 (List.mem_of_getElem? (i := 160) rfl) rfl
theorem wn_7_161 : (Jvm.Cond.selects "CircuitCycles$Design" ({ cls := "CircuitCycles$Design", name := "isCalled", desc := "(I[BII)Z" } : Jvm.MethodName) ({ cls := "CircuitCycles$Design", name := "isCalled", desc := "(I[BII)Z" } : Jvm.MethodName)) ∈ xw_G := xw_c7 (List.mem_of_getElem? (i := 161) rfl) rfl
theorem wn_7_162 : (Jvm.Cond.code ({ cls := "CircuitCycles$Design", name := "isCalled", desc := "(I[BII)Z" } : Jvm.MethodName) prog_5_method_16_code (7 : Nat) (Option.some Jvm.ClassFile.FieldType.boolean)) ∈ xw_G := xw_c7 (List.mem_of_getElem? (i := 162) rfl) rfl
theorem wn_7_164 : (Jvm.Cond.methodLink "CircuitCycles$Circuit" (138 : Nat) ({ cls := "CircuitCycles$Circuit", name := "signalCalled", desc := "(I[BII)I" } : Jvm.MethodName)) ∈ xw_G := xw_c7 (List.mem_of_getElem? (i := 164) rfl) rfl
theorem wn_7_166 : (Jvm.Cond.instanceMethod ({ cls := "CircuitCycles$Circuit", name := "signalCalled", desc := "(I[BII)I" } : Jvm.MethodName)) ∈ xw_G := xw_c7 (List.mem_of_getElem? (i := 166) rfl) rfl
theorem wn_7_167 : (Jvm.Cond.code ({ cls := "CircuitCycles$Circuit", name := "signalCalled", desc := "(I[BII)I" } : Jvm.MethodName) prog_3_method_14_code (7 : Nat) (Option.some Jvm.ClassFile.FieldType.int)) ∈ xw_G := xw_c7 (List.mem_of_getElem? (i := 167) rfl) rfl
theorem wn_7_168 : (Jvm.Cond.methodLink "CircuitCycles$Circuit" (148 : Nat) ({ cls := "CircuitCycles$Circuit", name := "placeOf", desc := "(I)I" } : Jvm.MethodName)) ∈ xw_G := xw_c7 (List.mem_of_getElem? (i := 168) rfl) rfl
theorem wn_7_192 : (Jvm.Cond.methodLink "CircuitCycles" (169 : Nat) ({ cls := "CircuitCycles$Circuit", name := "widthOf", desc := "(I)I" } : Jvm.MethodName)) ∈ xw_G := xw_c7 (List.mem_of_getElem? (i := 192) rfl) rfl
theorem wn_7_193 : (Jvm.Cond.instanceMethod ({ cls := "CircuitCycles$Circuit", name := "widthOf", desc := "(I)I" } : Jvm.MethodName)) ∈ xw_G := xw_c7 (List.mem_of_getElem? (i := 193) rfl) rfl
theorem wn_7_194 : (Jvm.Cond.selects "CircuitCycles$Circuit" ({ cls := "CircuitCycles$Circuit", name := "widthOf", desc := "(I)I" } : Jvm.MethodName) ({ cls := "CircuitCycles$Circuit", name := "widthOf", desc := "(I)I" } : Jvm.MethodName)) ∈ xw_G := xw_c7 (List.mem_of_getElem? (i := 194) rfl) rfl
theorem wn_7_195 : (Jvm.Cond.code ({ cls := "CircuitCycles$Circuit", name := "widthOf", desc := "(I)I" } : Jvm.MethodName) prog_3_method_8_code (2 : Nat) (Option.some Jvm.ClassFile.FieldType.int)) ∈ xw_G := xw_c7 (List.mem_of_getElem? (i := 195) rfl) rfl
theorem wn_7_196 : (Jvm.Cond.methodLink "CircuitCycles" (172 : Nat) ({ cls := "CircuitCycles$Circuit", name := "sortOf", desc := "(I)I" } : Jvm.MethodName)) ∈ xw_G := xw_c7 (List.mem_of_getElem? (i := 196) rfl) rfl
theorem wn_7_197 : (Jvm.Cond.instanceMethod ({ cls := "CircuitCycles$Circuit", name := "sortOf", desc := "(I)I" } : Jvm.MethodName)) ∈ xw_G := xw_c7 (List.mem_of_getElem? (i := 197) rfl) rfl
theorem wn_7_198 : (Jvm.Cond.selects "CircuitCycles$Circuit" ({ cls := "CircuitCycles$Circuit", name := "sortOf", desc := "(I)I" } : Jvm.MethodName) ({ cls := "CircuitCycles$Circuit", name := "sortOf", desc := "(I)I" } : Jvm.MethodName)) ∈ xw_G := xw_c7 (List.mem_of_getElem? (i := 198) rfl) rfl
theorem wn_7_199 : (Jvm.Cond.code ({ cls := "CircuitCycles$Circuit", name := "sortOf", desc := "(I)I" } : Jvm.MethodName) prog_3_method_11_code (3 : Nat) (Option.some Jvm.ClassFile.FieldType.int)) ∈ xw_G := xw_c7 (List.mem_of_getElem? (i := 199) rfl) rfl
theorem wn_7_214 : (Jvm.Cond.methodLink "CircuitCycles" (175 : Nat) ({ cls := "CircuitCycles", name := "mask", desc := "(I)J" } : Jvm.MethodName)) ∈ xw_G := xw_c7 (List.mem_of_getElem? (i := 214) rfl) rfl
theorem wn_7_215 : (Jvm.Cond.methodLink "CircuitCycles" (179 : Nat) ({ cls := "CircuitCycles$Machine", name := "put", desc := "(IJ)V" } : Jvm.MethodName)) ∈ xw_G := xw_c7 (List.mem_of_getElem? (i := 215) rfl) rfl
theorem wn_7_216 : (Jvm.Cond.instanceMethod ({ cls := "CircuitCycles$Machine", name := "put", desc := "(IJ)V" } : Jvm.MethodName)) ∈ xw_G := xw_c7 (List.mem_of_getElem? (i := 216) rfl) rfl
theorem wn_7_217 : (Jvm.Cond.selects "CircuitCycles$Machine" ({ cls := "CircuitCycles$Machine", name := "put", desc := "(IJ)V" } : Jvm.MethodName) ({ cls := "CircuitCycles$Machine", name := "put", desc := "(IJ)V" } : Jvm.MethodName)) ∈ xw_G := xw_c7 (List.mem_of_getElem? (i := 217) rfl) rfl
theorem wn_7_218 : (Jvm.Cond.code ({ cls := "CircuitCycles$Machine", name := "put", desc := "(IJ)V" } : Jvm.MethodName) prog_7_method_3_code (4 : Nat) (Option.none : Option Jvm.ClassFile.FieldType)) ∈ xw_G := xw_c7 (List.mem_of_getElem? (i := 218) rfl) rfl
theorem wn_7_226 : (Jvm.Cond.methodLink "CircuitCycles" (183 : Nat) ({ cls := "CircuitCycles$Machine", name := "advance", desc := "(LCircuitCycles$Circuit;)I" } : Jvm.MethodName)) ∈ xw_G := xw_c7 (List.mem_of_getElem? (i := 226) rfl) rfl
theorem wn_7_227 : (Jvm.Cond.instanceMethod ({ cls := "CircuitCycles$Machine", name := "advance", desc := "(LCircuitCycles$Circuit;)I" } : Jvm.MethodName)) ∈ xw_G := xw_c7 (List.mem_of_getElem? (i := 227) rfl) rfl
theorem wn_7_228 : (Jvm.Cond.selects "CircuitCycles$Machine" ({ cls := "CircuitCycles$Machine", name := "advance", desc := "(LCircuitCycles$Circuit;)I" } : Jvm.MethodName) ({ cls := "CircuitCycles$Machine", name := "advance", desc := "(LCircuitCycles$Circuit;)I" } : Jvm.MethodName)) ∈ xw_G := xw_c7 (List.mem_of_getElem? (i := 228) rfl) rfl
theorem wn_7_229 : (Jvm.Cond.code ({ cls := "CircuitCycles$Machine", name := "advance", desc := "(LCircuitCycles$Circuit;)I" } : Jvm.MethodName) prog_7_method_5_code (2 : Nat) (Option.some Jvm.ClassFile.FieldType.int)) ∈ xw_G := xw_c7 (List.mem_of_getElem? (i := 229) rfl) rfl
theorem wn_7_230 : (Jvm.Cond.methodLink "CircuitCycles$Machine" (38 : Nat) ({ cls := "CircuitCycles$Machine", name := "settle", desc := "(LCircuitCycles$Circuit;)V" } : Jvm.MethodName)) ∈ xw_G := xw_c7 (List.mem_of_getElem? (i := 230) rfl) rfl
theorem wn_7_232 : (Jvm.Cond.instanceMethod ({ cls := "CircuitCycles$Machine", name := "settle", desc := "(LCircuitCycles$Circuit;)V" } : Jvm.MethodName)) ∈ xw_G := xw_c7 (List.mem_of_getElem? (i := 232) rfl) rfl
theorem wn_7_233 : (Jvm.Cond.code ({ cls := "CircuitCycles$Machine", name := "settle", desc := "(LCircuitCycles$Circuit;)V" } : Jvm.MethodName) prog_7_method_7_code (6 : Nat) (Option.none : Option Jvm.ClassFile.FieldType)) ∈ xw_G := xw_c7 (List.mem_of_getElem? (i := 233) rfl) rfl
theorem wn_7_234 : (Jvm.Cond.methodLink "CircuitCycles$Machine" (81 : Nat) ({ cls := "CircuitCycles$Machine", name := "run", desc := "(LCircuitCycles$Code;III)J" } : Jvm.MethodName)) ∈ xw_G := xw_c7 (List.mem_of_getElem? (i := 234) rfl) rfl
theorem wn_7_236 : (Jvm.Cond.instanceMethod ({ cls := "CircuitCycles$Machine", name := "run", desc := "(LCircuitCycles$Code;III)J" } : Jvm.MethodName)) ∈ xw_G := xw_c7 (List.mem_of_getElem? (i := 236) rfl) rfl
theorem wn_7_237 : (Jvm.Cond.code ({ cls := "CircuitCycles$Machine", name := "run", desc := "(LCircuitCycles$Code;III)J" } : Jvm.MethodName) prog_7_method_9_code (12 : Nat) (Option.some Jvm.ClassFile.FieldType.long)) ∈ xw_G := xw_c7 (List.mem_of_getElem? (i := 237) rfl) rfl
theorem wn_7_238 : (Jvm.Cond.methodLink "CircuitCycles$Machine" (112 : Nat) ({ cls := "java/lang/Math", name := "min", desc := "(II)I" } : Jvm.MethodName)) ∈ xw_G := xw_c7 (List.mem_of_getElem? (i := 238) rfl) rfl
theorem wn_7_239 : (Jvm.Cond.methodLink "CircuitCycles$Machine" (118 : Nat) ({ cls := "java/lang/Math", name := "max", desc := "(II)I" } : Jvm.MethodName)) ∈ xw_G := xw_c7 (List.mem_of_getElem? (i := 239) rfl) rfl
theorem wn_8_0 : (Jvm.Cond.methodLink "CircuitCycles$Machine" (121 : Nat) ({ cls := "CircuitCycles$Code", name := "opAt", desc := "(I)I" } : Jvm.MethodName)) ∈ xw_G := xw_c8 (List.mem_of_getElem? (i := 0) rfl) rfl
theorem wn_8_1 : (Jvm.Cond.methodLink "CircuitCycles$Machine" (124 : Nat) ({ cls := "CircuitCycles$Code", name := "argAt", desc := "(I)I" } : Jvm.MethodName)) ∈ xw_G := xw_c8 (List.mem_of_getElem? (i := 1) rfl) rfl
theorem wn_8_2 : (Jvm.Cond.methodLink "CircuitCycles$Machine" (127 : Nat) ({ cls := "CircuitCycles$Machine", name := "two", desc := "(IIJJ)J" } : Jvm.MethodName)) ∈ xw_G := xw_c8 (List.mem_of_getElem? (i := 2) rfl) rfl
theorem wn_8_3 : (Jvm.Cond.static ({ cls := "CircuitCycles$Machine", name := "two", desc := "(IIJJ)J" } : Jvm.MethodName)) ∈ xw_G := xw_c8 (List.mem_of_getElem? (i := 3) rfl) rfl
theorem wn_8_4 : (Jvm.Cond.code ({ cls := "CircuitCycles$Machine", name := "two", desc := "(IIJJ)J" } : Jvm.MethodName) prog_7_method_13_code (6 : Nat) (Option.some Jvm.ClassFile.FieldType.long)) ∈ xw_G := xw_c8 (List.mem_of_getElem? (i := 4) rfl) rfl
theorem wn_8_6 : (Jvm.Cond.methodLink "CircuitCycles$Machine" (156 : Nat) ({ cls := "CircuitCycles$Machine", name := "isBeyond", desc := "(J)Z" } : Jvm.MethodName)) ∈ xw_G := xw_c8 (List.mem_of_getElem? (i := 6) rfl) rfl
theorem wn_8_7 : (Jvm.Cond.static ({ cls := "CircuitCycles$Machine", name := "isBeyond", desc := "(J)Z" } : Jvm.MethodName)) ∈ xw_G := xw_c8 (List.mem_of_getElem? (i := 7) rfl) rfl
theorem wn_8_8 : (Jvm.Cond.code ({ cls := "CircuitCycles$Machine", name := "isBeyond", desc := "(J)Z" } : Jvm.MethodName) prog_7_method_14_code (2 : Nat) (Option.some Jvm.ClassFile.FieldType.boolean)) ∈ xw_G := xw_c8 (List.mem_of_getElem? (i := 8) rfl) rfl
theorem wn_8_9 : (Jvm.Cond.constantLong "CircuitCycles$Machine" (164 : Nat) (64 : Int64)) ∈ xw_G := xw_c8 (List.mem_of_getElem? (i := 9) rfl) rfl
theorem wn_8_10 : (Jvm.Cond.methodLink "CircuitCycles$Machine" (160 : Nat) ({ cls := "CircuitCycles$Machine", name := "asked", desc := "(IJJ)Z" } : Jvm.MethodName)) ∈ xw_G := xw_c8 (List.mem_of_getElem? (i := 10) rfl) rfl
theorem wn_8_11 : (Jvm.Cond.static ({ cls := "CircuitCycles$Machine", name := "asked", desc := "(IJJ)Z" } : Jvm.MethodName)) ∈ xw_G := xw_c8 (List.mem_of_getElem? (i := 11) rfl) rfl
theorem wn_8_12 : (Jvm.Cond.code ({ cls := "CircuitCycles$Machine", name := "asked", desc := "(IJJ)Z" } : Jvm.MethodName) prog_7_method_15_code (5 : Nat) (Option.some Jvm.ClassFile.FieldType.boolean)) ∈ xw_G := xw_c8 (List.mem_of_getElem? (i := 12) rfl) rfl
theorem wn_8_13 : (Jvm.Cond.constantLong "CircuitCycles$Machine" (166 : Nat) (-9223372036854775808 : Int64)) ∈ xw_G := xw_c8 (List.mem_of_getElem? (i := 13) rfl) rfl
theorem wn_8_14 : (Jvm.Cond.methodLink "CircuitCycles$Machine" (131 : Nat) ({ cls := "CircuitCycles$Machine", name := "one", desc := "(IIJ)J" } : Jvm.MethodName)) ∈ xw_G := xw_c8 (List.mem_of_getElem? (i := 14) rfl) rfl
theorem wn_8_15 : (Jvm.Cond.static ({ cls := "CircuitCycles$Machine", name := "one", desc := "(IIJ)J" } : Jvm.MethodName)) ∈ xw_G := xw_c8 (List.mem_of_getElem? (i := 15) rfl) rfl
theorem wn_8_16 : (Jvm.Cond.code ({ cls := "CircuitCycles$Machine", name := "one", desc := "(IIJ)J" } : Jvm.MethodName) prog_7_method_11_code (4 : Nat) (Option.some Jvm.ClassFile.FieldType.long)) ∈ xw_G := xw_c8 (List.mem_of_getElem? (i := 16) rfl) rfl
theorem wn_8_17 : (Jvm.Cond.constantLong "CircuitCycles$Machine" (145 : Nat) (-1 : Int64)) ∈ xw_G := xw_c8 (List.mem_of_getElem? (i := 17) rfl) rfl
theorem wn_8_18 : (Jvm.Cond.methodLink "CircuitCycles$Machine" (147 : Nat) ({ cls := "java/lang/Long", name := "bitCount", desc := "(J)I" } : Jvm.MethodName)) ∈ xw_G := xw_c8 (List.mem_of_getElem? (i := 18) rfl) rfl
theorem wn_8_19 : (Jvm.Cond.static ({ cls := "java/lang/Long", name := "bitCount", desc := "(J)I" } : Jvm.MethodName)) ∈ xw_G := xw_c8 (List.mem_of_getElem? (i := 19) rfl) rfl
theorem wn_8_20 : (Jvm.Cond.code ({ cls := "java/lang/Long", name := "bitCount", desc := "(J)I" } : Jvm.MethodName) prog_20_method_50_code (2 : Nat) (Option.some Jvm.ClassFile.FieldType.int)) ∈ xw_G := xw_c8 (List.mem_of_getElem? (i := 20) rfl) rfl
theorem wn_8_21 : (Jvm.Cond.constantLong "java/lang/Long" (314 : Nat) (6148914691236517205 : Int64)) ∈ xw_G := xw_c8 (List.mem_of_getElem? (i := 21) rfl) rfl
theorem wn_8_22 : (Jvm.Cond.constantLong "java/lang/Long" (316 : Nat) (3689348814741910323 : Int64)) ∈ xw_G := xw_c8 (List.mem_of_getElem? (i := 22) rfl) rfl
theorem wn_8_23 : (Jvm.Cond.constantLong "java/lang/Long" (318 : Nat) (1085102592571150095 : Int64)) ∈ xw_G := xw_c8 (List.mem_of_getElem? (i := 23) rfl) rfl
theorem wn_8_24 : (Jvm.Cond.methodLink "CircuitCycles$Machine" (153 : Nat) ({ cls := "CircuitCycles$Machine", name := "repeated", desc := "(IIJ)J" } : Jvm.MethodName)) ∈ xw_G := xw_c8 (List.mem_of_getElem? (i := 24) rfl) rfl
theorem wn_8_25 : (Jvm.Cond.static ({ cls := "CircuitCycles$Machine", name := "repeated", desc := "(IIJ)J" } : Jvm.MethodName)) ∈ xw_G := xw_c8 (List.mem_of_getElem? (i := 25) rfl) rfl
theorem wn_8_26 : (Jvm.Cond.code ({ cls := "CircuitCycles$Machine", name := "repeated", desc := "(IIJ)J" } : Jvm.MethodName) prog_7_method_12_code (7 : Nat) (Option.some Jvm.ClassFile.FieldType.long)) ∈ xw_G := xw_c8 (List.mem_of_getElem? (i := 26) rfl) rfl
theorem wn_8_27 : (Jvm.Cond.methodLink "CircuitCycles$Machine" (135 : Nat) ({ cls := "CircuitCycles$Code", name := "valueOf", desc := "(I)J" } : Jvm.MethodName)) ∈ xw_G := xw_c8 (List.mem_of_getElem? (i := 27) rfl) rfl
theorem wn_8_28 : (Jvm.Cond.methodLink "CircuitCycles$Machine" (138 : Nat) ({ cls := "CircuitCycles$Machine", name := "store", desc := "(IIJ)V" } : Jvm.MethodName)) ∈ xw_G := xw_c8 (List.mem_of_getElem? (i := 28) rfl) rfl
theorem wn_8_30 : (Jvm.Cond.instanceMethod ({ cls := "CircuitCycles$Machine", name := "store", desc := "(IIJ)V" } : Jvm.MethodName)) ∈ xw_G := xw_c8 (List.mem_of_getElem? (i := 30) rfl) rfl
theorem wn_8_31 : (Jvm.Cond.code ({ cls := "CircuitCycles$Machine", name := "store", desc := "(IIJ)V" } : Jvm.MethodName) prog_7_method_10_code (9 : Nat) (Option.none : Option Jvm.ClassFile.FieldType)) ∈ xw_G := xw_c8 (List.mem_of_getElem? (i := 31) rfl) rfl
theorem wn_8_32 : (Jvm.Cond.methodLink "CircuitCycles$Machine" (42 : Nat) ({ cls := "java/lang/System", name := "arraycopy", desc := "(Ljava/lang/Object;ILjava/lang/Object;II)V" } : Jvm.MethodName)) ∈ xw_G := xw_c8 (List.mem_of_getElem? (i := 32) rfl) rfl
theorem wn_8_33 : (Jvm.Cond.static ({ cls := "java/lang/System", name := "arraycopy", desc := "(Ljava/lang/Object;ILjava/lang/Object;II)V" } : Jvm.MethodName)) ∈ xw_G := xw_c8 (List.mem_of_getElem? (i := 33) rfl) rfl
theorem wn_8_34 : (Jvm.Cond.native ({ cls := "java/lang/System", name := "arraycopy", desc := "(Ljava/lang/Object;ILjava/lang/Object;II)V" } : Jvm.MethodName)) ∈ xw_G := xw_c8 (List.mem_of_getElem? (i := 34) rfl) rfl
theorem wn_8_35 : (Jvm.Cond.methodLink "CircuitCycles$Machine" (48 : Nat) ({ cls := "CircuitCycles$Machine", name := "runPieces", desc := "(LCircuitCycles$Circuit;I)I" } : Jvm.MethodName)) ∈ xw_G := xw_c8 (List.mem_of_getElem? (i := 35) rfl) rfl
theorem wn_8_37 : (Jvm.Cond.instanceMethod ({ cls := "CircuitCycles$Machine", name := "runPieces", desc := "(LCircuitCycles$Circuit;I)I" } : Jvm.MethodName)) ∈ xw_G := xw_c8 (List.mem_of_getElem? (i := 37) rfl) rfl
theorem wn_8_38 : (Jvm.Cond.code ({ cls := "CircuitCycles$Machine", name := "runPieces", desc := "(LCircuitCycles$Circuit;I)I" } : Jvm.MethodName) prog_7_method_8_code (10 : Nat) (Option.some Jvm.ClassFile.FieldType.int)) ∈ xw_G := xw_c8 (List.mem_of_getElem? (i := 38) rfl) rfl
theorem wn_8_39 : (Jvm.Cond.methodLink "CircuitCycles$Machine" (91 : Nat) ({ cls := "CircuitCycles$Design", name := "firstPiece", desc := "(I)I" } : Jvm.MethodName)) ∈ xw_G := xw_c8 (List.mem_of_getElem? (i := 39) rfl) rfl
theorem wn_8_40 : (Jvm.Cond.instanceMethod ({ cls := "CircuitCycles$Design", name := "firstPiece", desc := "(I)I" } : Jvm.MethodName)) ∈ xw_G := xw_c8 (List.mem_of_getElem? (i := 40) rfl) rfl
theorem wn_8_41 : (Jvm.Cond.selects "CircuitCycles$Design" ({ cls := "CircuitCycles$Design", name := "firstPiece", desc := "(I)I" } : Jvm.MethodName) ({ cls := "CircuitCycles$Design", name := "firstPiece", desc := "(I)I" } : Jvm.MethodName)) ∈ xw_G := xw_c8 (List.mem_of_getElem? (i := 41) rfl) rfl
theorem wn_8_42 : (Jvm.Cond.code ({ cls := "CircuitCycles$Design", name := "firstPiece", desc := "(I)I" } : Jvm.MethodName) prog_5_method_10_code (2 : Nat) (Option.some Jvm.ClassFile.FieldType.int)) ∈ xw_G := xw_c8 (List.mem_of_getElem? (i := 42) rfl) rfl
theorem wn_8_50 : (Jvm.Cond.methodLink "CircuitCycles" (186 : Nat) ({ cls := "CircuitCycles$Machine", name := "valueOf", desc := "(LCircuitCycles$Circuit;I)J" } : Jvm.MethodName)) ∈ xw_G := xw_c8 (List.mem_of_getElem? (i := 50) rfl) rfl
theorem wn_8_51 : (Jvm.Cond.instanceMethod ({ cls := "CircuitCycles$Machine", name := "valueOf", desc := "(LCircuitCycles$Circuit;I)J" } : Jvm.MethodName)) ∈ xw_G := xw_c8 (List.mem_of_getElem? (i := 51) rfl) rfl
theorem wn_8_52 : (Jvm.Cond.selects "CircuitCycles$Machine" ({ cls := "CircuitCycles$Machine", name := "valueOf", desc := "(LCircuitCycles$Circuit;I)J" } : Jvm.MethodName) ({ cls := "CircuitCycles$Machine", name := "valueOf", desc := "(LCircuitCycles$Circuit;I)J" } : Jvm.MethodName)) ∈ xw_G := xw_c8 (List.mem_of_getElem? (i := 52) rfl) rfl
theorem wn_8_53 : (Jvm.Cond.code ({ cls := "CircuitCycles$Machine", name := "valueOf", desc := "(LCircuitCycles$Circuit;I)J" } : Jvm.MethodName) prog_7_method_4_code (3 : Nat) (Option.some Jvm.ClassFile.FieldType.long)) ∈ xw_G := xw_c8 (List.mem_of_getElem? (i := 53) rfl) rfl
theorem wn_8_61 : (Jvm.Cond.methodLink "CircuitCycles" (190 : Nat) ({ cls := "CircuitCycles$Machine", name := "unheld", desc := "(LCircuitCycles$Circuit;)I" } : Jvm.MethodName)) ∈ xw_G := xw_c8 (List.mem_of_getElem? (i := 61) rfl) rfl
theorem wn_8_62 : (Jvm.Cond.instanceMethod ({ cls := "CircuitCycles$Machine", name := "unheld", desc := "(LCircuitCycles$Circuit;)I" } : Jvm.MethodName)) ∈ xw_G := xw_c8 (List.mem_of_getElem? (i := 62) rfl) rfl
theorem wn_8_63 : (Jvm.Cond.selects "CircuitCycles$Machine" ({ cls := "CircuitCycles$Machine", name := "unheld", desc := "(LCircuitCycles$Circuit;)I" } : Jvm.MethodName) ({ cls := "CircuitCycles$Machine", name := "unheld", desc := "(LCircuitCycles$Circuit;)I" } : Jvm.MethodName)) ∈ xw_G := xw_c8 (List.mem_of_getElem? (i := 63) rfl) rfl
theorem wn_8_64 : (Jvm.Cond.code ({ cls := "CircuitCycles$Machine", name := "unheld", desc := "(LCircuitCycles$Circuit;)I" } : Jvm.MethodName) prog_7_method_6_code (2 : Nat) (Option.some Jvm.ClassFile.FieldType.int)) ∈ xw_G := xw_c8 (List.mem_of_getElem? (i := 64) rfl) rfl
def yn_C_append : MethodName := ⟨rn_C, "append", "(I)V"⟩
abbrev bn_C_append : ByteArray := prog_1_method_14_code
def yn_C_beginsWord : MethodName := ⟨rn_C, "beginsWord", "(I)Z"⟩
abbrev bn_C_beginsWord : ByteArray := prog_1_method_18_code
def yn_C_capped : MethodName := ⟨rn_C, "capped", "(II)I"⟩
abbrev bn_C_capped : ByteArray := prog_1_method_15_code
def yn_C_continuesWord : MethodName := ⟨rn_C, "continuesWord", "(I)Z"⟩
abbrev bn_C_continuesWord : ByteArray := prog_1_method_19_code
def yn_C_count : MethodName := ⟨rn_C, "count", "(I)I"⟩
abbrev bn_C_count : ByteArray := prog_1_method_6_code
def yn_C_end : MethodName := ⟨rn_C, "end", "(I)V"⟩
abbrev bn_C_end : ByteArray := prog_1_method_3_code
def yn_C_failing : MethodName := ⟨rn_C, "failing", "()I"⟩
abbrev bn_C_failing : ByteArray := prog_1_method_13_code
def yn_C_fault : MethodName := ⟨rn_C, "fault", "()I"⟩
abbrev bn_C_fault : ByteArray := prog_1_method_5_code
def yn_C_feed : MethodName := ⟨rn_C, "feed", "(IIIII)I"⟩
abbrev bn_C_feed : ByteArray := prog_1_method_2_code
def yn_C_find : MethodName := ⟨rn_C, "find", "()I"⟩
abbrev bn_C_find : ByteArray := prog_1_method_7_code
def yn_C_isDigit : MethodName := ⟨rn_C, "isDigit", "(I)Z"⟩
abbrev bn_C_isDigit : ByteArray := prog_1_method_17_code
def yn_C_mask : MethodName := ⟨rn_C, "mask", "(I)J"⟩
abbrev bn_C_mask : ByteArray := prog_1_method_16_code
def yn_C_read : MethodName := ⟨rn_C, "read", "()I"⟩
abbrev bn_C_read : ByteArray := prog_1_method_4_code
def yn_C_reset : MethodName := ⟨rn_C, "reset", "()V"⟩
abbrev bn_C_reset : ByteArray := prog_1_method_9_code
def yn_C_set : MethodName := ⟨rn_C, "set", "(II)V"⟩
abbrev bn_C_set : ByteArray := prog_1_method_10_code
def yn_C_signal : MethodName := ⟨rn_C, "signal", "(II)I"⟩
abbrev bn_C_signal : ByteArray := prog_1_method_8_code
def yn_C_step : MethodName := ⟨rn_C, "step", "()I"⟩
abbrev bn_C_step : ByteArray := prog_1_method_11_code
def yn_C_value : MethodName := ⟨rn_C, "value", "(I)J"⟩
abbrev bn_C_value : ByteArray := prog_1_method_12_code
def yn_Checker_asks : MethodName := ⟨rn_Checker, "asks", "(I)Z"⟩
abbrev bn_Checker_asks : ByteArray := prog_2_method_24_code
def yn_Checker_binary : MethodName := ⟨rn_Checker, "binary", "(II)V"⟩
abbrev bn_Checker_binary : ByteArray := prog_2_method_23_code
def yn_Checker_braces : MethodName := ⟨rn_Checker, "braces", "(I)V"⟩
abbrev bn_Checker_braces : ByteArray := prog_2_method_28_code
def yn_Checker_choose : MethodName := ⟨rn_Checker, "choose", "(I)V"⟩
abbrev bn_Checker_choose : ByteArray := prog_2_method_26_code
def yn_Checker_declCalled : MethodName := ⟨rn_Checker, "declCalled", "(III)I"⟩
abbrev bn_Checker_declCalled : ByteArray := prog_2_method_9_code
def yn_Checker_expBegins : MethodName := ⟨rn_Checker, "expBegins", "()V"⟩
abbrev bn_Checker_expBegins : ByteArray := prog_2_method_13_code
def yn_Checker_expWidth : MethodName := ⟨rn_Checker, "expWidth", "()I"⟩
abbrev bn_Checker_expWidth : ByteArray := prog_2_method_14_code
def yn_Checker_index : MethodName := ⟨rn_Checker, "index", "()V"⟩
abbrev bn_Checker_index : ByteArray := prog_2_method_25_code
def yn_Checker_isOff : MethodName := ⟨rn_Checker, "isOff", "()Z"⟩
abbrev bn_Checker_isOff : ByteArray := prog_2_method_4_code
def yn_Checker_join : MethodName := ⟨rn_Checker, "join", "()V"⟩
abbrev bn_Checker_join : ByteArray := prog_2_method_27_code
def yn_Checker_literal : MethodName := ⟨rn_Checker, "literal", "(I)V"⟩
abbrev bn_Checker_literal : ByteArray := prog_2_method_17_code
def yn_Checker_localOf : MethodName := ⟨rn_Checker, "localOf", "(I)I"⟩
abbrev bn_Checker_localOf : ByteArray := prog_2_method_11_code
def yn_Checker_lowOf : MethodName := ⟨rn_Checker, "lowOf", "(I)I"⟩
abbrev bn_Checker_lowOf : ByteArray := prog_2_method_19_code
def yn_Checker_mean : MethodName := ⟨rn_Checker, "mean", "(II)V"⟩
abbrev bn_Checker_mean : ByteArray := prog_2_method_8_code
def yn_Checker_meantBy : MethodName := ⟨rn_Checker, "meantBy", "(I)I"⟩
abbrev bn_Checker_meantBy : ByteArray := prog_2_method_7_code
def yn_Checker_moduleBegins : MethodName := ⟨rn_Checker, "moduleBegins", "(I)V"⟩
abbrev bn_Checker_moduleBegins : ByteArray := prog_2_method_3_code
def yn_Checker_moduleOf : MethodName := ⟨rn_Checker, "moduleOf", "(I)I"⟩
abbrev bn_Checker_moduleOf : ByteArray := prog_2_method_6_code
def yn_Checker_name : MethodName := ⟨rn_Checker, "name", "(II)V"⟩
abbrev bn_Checker_name : ByteArray := prog_2_method_18_code
def yn_Checker_part : MethodName := ⟨rn_Checker, "part", "(II)V"⟩
abbrev bn_Checker_part : ByteArray := prog_2_method_21_code
def yn_Checker_partWidth : MethodName := ⟨rn_Checker, "partWidth", "(II)I"⟩
abbrev bn_Checker_partWidth : ByteArray := prog_2_method_20_code
def yn_Checker_pop : MethodName := ⟨rn_Checker, "pop", "()I"⟩
abbrev bn_Checker_pop : ByteArray := prog_2_method_16_code
def yn_Checker_push : MethodName := ⟨rn_Checker, "push", "(I)V"⟩
abbrev bn_Checker_push : ByteArray := prog_2_method_15_code
def yn_Checker_refuse : MethodName := ⟨rn_Checker, "refuse", "(II)V"⟩
abbrev bn_Checker_refuse : ByteArray := prog_2_method_5_code
def yn_Checker_repeat : MethodName := ⟨rn_Checker, "repeat", "(II)V"⟩
abbrev bn_Checker_repeat : ByteArray := prog_2_method_29_code
def yn_Checker_sortOf : MethodName := ⟨rn_Checker, "sortOf", "(I)I"⟩
abbrev bn_Checker_sortOf : ByteArray := prog_2_method_10_code
def yn_Checker_spend : MethodName := ⟨rn_Checker, "spend", "(I)V"⟩
abbrev bn_Checker_spend : ByteArray := prog_2_method_12_code
def yn_Checker_start : MethodName := ⟨rn_Checker, "start", "(LCircuitCycles$Design;I)V"⟩
abbrev bn_Checker_start : ByteArray := prog_2_method_2_code
def yn_Checker_unary : MethodName := ⟨rn_Checker, "unary", "(I)V"⟩
abbrev bn_Checker_unary : ByteArray := prog_2_method_22_code
def yn_Circuit_build : MethodName := ⟨rn_Circuit, "build", "()V"⟩
abbrev bn_Circuit_build : ByteArray := prog_3_method_2_code
def yn_Circuit_childCalled : MethodName := ⟨rn_Circuit, "childCalled", "(I[BII)I"⟩
abbrev bn_Circuit_childCalled : ByteArray := prog_3_method_13_code
def yn_Circuit_firstOf : MethodName := ⟨rn_Circuit, "firstOf", "(I)J"⟩
abbrev bn_Circuit_firstOf : ByteArray := prog_3_method_10_code
def yn_Circuit_isSignal : MethodName := ⟨rn_Circuit, "isSignal", "(I)Z"⟩
abbrev bn_Circuit_isSignal : ByteArray := prog_3_method_7_code
def yn_Circuit_layChildren : MethodName := ⟨rn_Circuit, "layChildren", "(I)V"⟩
abbrev bn_Circuit_layChildren : ByteArray := prog_3_method_4_code
def yn_Circuit_layLinks : MethodName := ⟨rn_Circuit, "layLinks", "(I)V"⟩
abbrev bn_Circuit_layLinks : ByteArray := prog_3_method_6_code
def yn_Circuit_laySignals : MethodName := ⟨rn_Circuit, "laySignals", "(I)V"⟩
abbrev bn_Circuit_laySignals : ByteArray := prog_3_method_5_code
def yn_Circuit_ownSignals : MethodName := ⟨rn_Circuit, "ownSignals", "(I)I"⟩
abbrev bn_Circuit_ownSignals : ByteArray := prog_3_method_3_code
def yn_Circuit_placeOf : MethodName := ⟨rn_Circuit, "placeOf", "(I)I"⟩
abbrev bn_Circuit_placeOf : ByteArray := prog_3_method_9_code
def yn_Circuit_seek : MethodName := ⟨rn_Circuit, "seek", "([BI)I"⟩
abbrev bn_Circuit_seek : ByteArray := prog_3_method_12_code
def yn_Circuit_signalCalled : MethodName := ⟨rn_Circuit, "signalCalled", "(I[BII)I"⟩
abbrev bn_Circuit_signalCalled : ByteArray := prog_3_method_14_code
def yn_Circuit_sortOf : MethodName := ⟨rn_Circuit, "sortOf", "(I)I"⟩
abbrev bn_Circuit_sortOf : ByteArray := prog_3_method_11_code
def yn_Circuit_widthOf : MethodName := ⟨rn_Circuit, "widthOf", "(I)I"⟩
abbrev bn_Circuit_widthOf : ByteArray := prog_3_method_8_code
def yn_Code_aim : MethodName := ⟨rn_Code, "aim", "(I)V"⟩
abbrev bn_Code_aim : ByteArray := prog_4_method_9_code
def yn_Code_aimAll : MethodName := ⟨rn_Code, "aimAll", "(I)V"⟩
abbrev bn_Code_aimAll : ByteArray := prog_4_method_10_code
def yn_Code_argAt : MethodName := ⟨rn_Code, "argAt", "(I)I"⟩
abbrev bn_Code_argAt : ByteArray := prog_4_method_8_code
def yn_Code_clear : MethodName := ⟨rn_Code, "clear", "()V"⟩
abbrev bn_Code_clear : ByteArray := prog_4_method_2_code
def yn_Code_emit : MethodName := ⟨rn_Code, "emit", "(II)I"⟩
abbrev bn_Code_emit : ByteArray := prog_4_method_6_code
def yn_Code_literal : MethodName := ⟨rn_Code, "literal", "(IJ)I"⟩
abbrev bn_Code_literal : ByteArray := prog_4_method_3_code
def yn_Code_opAt : MethodName := ⟨rn_Code, "opAt", "(I)I"⟩
abbrev bn_Code_opAt : ByteArray := prog_4_method_7_code
def yn_Code_valueOf : MethodName := ⟨rn_Code, "valueOf", "(I)J"⟩
abbrev bn_Code_valueOf : ByteArray := prog_4_method_5_code
def yn_Code_widthOf : MethodName := ⟨rn_Code, "widthOf", "(I)I"⟩
abbrev bn_Code_widthOf : ByteArray := prog_4_method_4_code
def yn_Design_addModule : MethodName := ⟨rn_Design, "addModule", "(I)V"⟩
abbrev bn_Design_addModule : ByteArray := prog_5_method_3_code
def yn_Design_addPiece : MethodName := ⟨rn_Design, "addPiece", "(ZI)V"⟩
abbrev bn_Design_addPiece : ByteArray := prog_5_method_5_code
def yn_Design_clear : MethodName := ⟨rn_Design, "clear", "(I)V"⟩
abbrev bn_Design_clear : ByteArray := prog_5_method_2_code
def yn_Design_excess : MethodName := ⟨rn_Design, "excess", "()I"⟩
abbrev bn_Design_excess : ByteArray := prog_5_method_15_code
def yn_Design_firstChild : MethodName := ⟨rn_Design, "firstChild", "(I)I"⟩
abbrev bn_Design_firstChild : ByteArray := prog_5_method_9_code
def yn_Design_firstDecl : MethodName := ⟨rn_Design, "firstDecl", "(I)I"⟩
abbrev bn_Design_firstDecl : ByteArray := prog_5_method_8_code
def yn_Design_firstPiece : MethodName := ⟨rn_Design, "firstPiece", "(I)I"⟩
abbrev bn_Design_firstPiece : ByteArray := prog_5_method_10_code
def yn_Design_isCalled : MethodName := ⟨rn_Design, "isCalled", "(I[BII)Z"⟩
abbrev bn_Design_isCalled : ByteArray := prog_5_method_16_code
def yn_Design_isModule : MethodName := ⟨rn_Design, "isModule", "(I)Z"⟩
abbrev bn_Design_isModule : ByteArray := prog_5_method_6_code
def yn_Design_portCount : MethodName := ⟨rn_Design, "portCount", "(I)I"⟩
abbrev bn_Design_portCount : ByteArray := prog_5_method_7_code
def yn_Design_setPorts : MethodName := ⟨rn_Design, "setPorts", "()V"⟩
abbrev bn_Design_setPorts : ByteArray := prog_5_method_4_code
def yn_Design_sumOf : MethodName := ⟨rn_Design, "sumOf", "(II)I"⟩
abbrev bn_Design_sumOf : ByteArray := prog_5_method_11_code
def yn_Design_sumOfTop : MethodName := ⟨rn_Design, "sumOfTop", "(I)I"⟩
abbrev bn_Design_sumOfTop : ByteArray := prog_5_method_12_code
def yn_Design_sumUp : MethodName := ⟨rn_Design, "sumUp", "(I)V"⟩
abbrev bn_Design_sumUp : ByteArray := prog_5_method_14_code
def yn_Design_topPlace : MethodName := ⟨rn_Design, "topPlace", "()I"⟩
abbrev bn_Design_topPlace : ByteArray := prog_5_method_13_code
def yn_Grammar_always : MethodName := ⟨rn_Grammar, "always", "()V"⟩
abbrev bn_Grammar_always : ByteArray := prog_6_method_8_code
def yn_Grammar_apply : MethodName := ⟨rn_Grammar, "apply", "(I)V"⟩
abbrev bn_Grammar_apply : ByteArray := prog_6_method_32_code
def yn_Grammar_arm : MethodName := ⟨rn_Grammar, "arm", "()V"⟩
abbrev bn_Grammar_arm : ByteArray := prog_6_method_21_code
def yn_Grammar_assignment : MethodName := ⟨rn_Grammar, "assignment", "()V"⟩
abbrev bn_Grammar_assignment : ByteArray := prog_6_method_7_code
def yn_Grammar_behindExp : MethodName := ⟨rn_Grammar, "behindExp", "()V"⟩
abbrev bn_Grammar_behindExp : ByteArray := prog_6_method_24_code
def yn_Grammar_behindOperand : MethodName := ⟨rn_Grammar, "behindOperand", "()V"⟩
abbrev bn_Grammar_behindOperand : ByteArray := prog_6_method_31_code
def yn_Grammar_behindStatement : MethodName := ⟨rn_Grammar, "behindStatement", "()V"⟩
abbrev bn_Grammar_behindStatement : ByteArray := prog_6_method_18_code
def yn_Grammar_brace : MethodName := ⟨rn_Grammar, "brace", "()V"⟩
abbrev bn_Grammar_brace : ByteArray := prog_6_method_29_code
def yn_Grammar_caseEnd : MethodName := ⟨rn_Grammar, "caseEnd", "()V"⟩
abbrev bn_Grammar_caseEnd : ByteArray := prog_6_method_22_code
def yn_Grammar_close : MethodName := ⟨rn_Grammar, "close", "(I)V"⟩
abbrev bn_Grammar_close : ByteArray := prog_6_method_33_code
def yn_Grammar_closeBrace : MethodName := ⟨rn_Grammar, "closeBrace", "(I)V"⟩
abbrev bn_Grammar_closeBrace : ByteArray := prog_6_method_34_code
def yn_Grammar_declaration : MethodName := ⟨rn_Grammar, "declaration", "(I)V"⟩
abbrev bn_Grammar_declaration : ByteArray := prog_6_method_5_code
def yn_Grammar_enter : MethodName := ⟨rn_Grammar, "enter", "(I)V"⟩
abbrev bn_Grammar_enter : ByteArray := prog_6_method_16_code
def yn_Grammar_expFor : MethodName := ⟨rn_Grammar, "expFor", "(I)V"⟩
abbrev bn_Grammar_expFor : ByteArray := prog_6_method_23_code
def yn_Grammar_goOnIn : MethodName := ⟨rn_Grammar, "goOnIn", "(I)V"⟩
abbrev bn_Grammar_goOnIn : ByteArray := prog_6_method_17_code
def yn_Grammar_hold : MethodName := ⟨rn_Grammar, "hold", "(III)V"⟩
abbrev bn_Grammar_hold : ByteArray := prog_6_method_25_code
def yn_Grammar_ifEnd : MethodName := ⟨rn_Grammar, "ifEnd", "()V"⟩
abbrev bn_Grammar_ifEnd : ByteArray := prog_6_method_20_code
def yn_Grammar_instance : MethodName := ⟨rn_Grammar, "instance", "()V"⟩
abbrev bn_Grammar_instance : ByteArray := prog_6_method_9_code
def yn_Grammar_instanceEnd : MethodName := ⟨rn_Grammar, "instanceEnd", "()V"⟩
abbrev bn_Grammar_instanceEnd : ByteArray := prog_6_method_10_code
def yn_Grammar_isUnary : MethodName := ⟨rn_Grammar, "isUnary", "(I)Z"⟩
abbrev bn_Grammar_isUnary : ByteArray := prog_6_method_28_code
def yn_Grammar_item : MethodName := ⟨rn_Grammar, "item", "()V"⟩
abbrev bn_Grammar_item : ByteArray := prog_6_method_6_code
def yn_Grammar_link : MethodName := ⟨rn_Grammar, "link", "()V"⟩
abbrev bn_Grammar_link : ByteArray := prog_6_method_11_code
def yn_Grammar_linkEnd : MethodName := ⟨rn_Grammar, "linkEnd", "()V"⟩
abbrev bn_Grammar_linkEnd : ByteArray := prog_6_method_12_code
def yn_Grammar_moduleHead : MethodName := ⟨rn_Grammar, "moduleHead", "()V"⟩
abbrev bn_Grammar_moduleHead : ByteArray := prog_6_method_3_code
def yn_Grammar_named : MethodName := ⟨rn_Grammar, "named", "()V"⟩
abbrev bn_Grammar_named : ByteArray := prog_6_method_30_code
def yn_Grammar_operand : MethodName := ⟨rn_Grammar, "operand", "()V"⟩
abbrev bn_Grammar_operand : ByteArray := prog_6_method_26_code
def yn_Grammar_otherwise : MethodName := ⟨rn_Grammar, "otherwise", "()V"⟩
abbrev bn_Grammar_otherwise : ByteArray := prog_6_method_19_code
def yn_Grammar_parse : MethodName := ⟨rn_Grammar, "parse", "(LCircuitCycles$Design;I)V"⟩
abbrev bn_Grammar_parse : ByteArray := prog_6_method_2_code
def yn_Grammar_part : MethodName := ⟨rn_Grammar, "part", "()I"⟩
abbrev bn_Grammar_part : ByteArray := prog_6_method_15_code
def yn_Grammar_port : MethodName := ⟨rn_Grammar, "port", "()V"⟩
abbrev bn_Grammar_port : ByteArray := prog_6_method_4_code
def yn_Grammar_rankOf : MethodName := ⟨rn_Grammar, "rankOf", "(I)I"⟩
abbrev bn_Grammar_rankOf : ByteArray := prog_6_method_35_code
def yn_Grammar_signsBefore : MethodName := ⟨rn_Grammar, "signsBefore", "()V"⟩
abbrev bn_Grammar_signsBefore : ByteArray := prog_6_method_27_code
def yn_Grammar_statement : MethodName := ⟨rn_Grammar, "statement", "()V"⟩
abbrev bn_Grammar_statement : ByteArray := prog_6_method_13_code
def yn_Grammar_store : MethodName := ⟨rn_Grammar, "store", "()V"⟩
abbrev bn_Grammar_store : ByteArray := prog_6_method_14_code
def yn_Long_bitCount : MethodName := ⟨rn_Long, "bitCount", "(J)I"⟩
abbrev bn_Long_bitCount : ByteArray := prog_20_method_50_code
def yn_Machine_advance : MethodName := ⟨rn_Machine, "advance", "(LCircuitCycles$Circuit;)I"⟩
abbrev bn_Machine_advance : ByteArray := prog_7_method_5_code
def yn_Machine_asked : MethodName := ⟨rn_Machine, "asked", "(IJJ)Z"⟩
abbrev bn_Machine_asked : ByteArray := prog_7_method_15_code
def yn_Machine_isBeyond : MethodName := ⟨rn_Machine, "isBeyond", "(J)Z"⟩
abbrev bn_Machine_isBeyond : ByteArray := prog_7_method_14_code
def yn_Machine_one : MethodName := ⟨rn_Machine, "one", "(IIJ)J"⟩
abbrev bn_Machine_one : ByteArray := prog_7_method_11_code
def yn_Machine_put : MethodName := ⟨rn_Machine, "put", "(IJ)V"⟩
abbrev bn_Machine_put : ByteArray := prog_7_method_3_code
def yn_Machine_repeated : MethodName := ⟨rn_Machine, "repeated", "(IIJ)J"⟩
abbrev bn_Machine_repeated : ByteArray := prog_7_method_12_code
def yn_Machine_restart : MethodName := ⟨rn_Machine, "restart", "(LCircuitCycles$Circuit;)V"⟩
abbrev bn_Machine_restart : ByteArray := prog_7_method_2_code
def yn_Machine_run : MethodName := ⟨rn_Machine, "run", "(LCircuitCycles$Code;III)J"⟩
abbrev bn_Machine_run : ByteArray := prog_7_method_9_code
def yn_Machine_runPieces : MethodName := ⟨rn_Machine, "runPieces", "(LCircuitCycles$Circuit;I)I"⟩
abbrev bn_Machine_runPieces : ByteArray := prog_7_method_8_code
def yn_Machine_settle : MethodName := ⟨rn_Machine, "settle", "(LCircuitCycles$Circuit;)V"⟩
abbrev bn_Machine_settle : ByteArray := prog_7_method_7_code
def yn_Machine_store : MethodName := ⟨rn_Machine, "store", "(IIJ)V"⟩
abbrev bn_Machine_store : ByteArray := prog_7_method_10_code
def yn_Machine_two : MethodName := ⟨rn_Machine, "two", "(IIJJ)J"⟩
abbrev bn_Machine_two : ByteArray := prog_7_method_13_code
def yn_Machine_unheld : MethodName := ⟨rn_Machine, "unheld", "(LCircuitCycles$Circuit;)I"⟩
abbrev bn_Machine_unheld : ByteArray := prog_7_method_6_code
def yn_Machine_valueOf : MethodName := ⟨rn_Machine, "valueOf", "(LCircuitCycles$Circuit;I)J"⟩
abbrev bn_Machine_valueOf : ByteArray := prog_7_method_4_code
def yn_Meaning_always : MethodName := ⟨rn_Meaning, "always", "()V"⟩
abbrev bn_Meaning_always : ByteArray := prog_8_method_17_code
def yn_Meaning_alwaysEnd : MethodName := ⟨rn_Meaning, "alwaysEnd", "()V"⟩
abbrev bn_Meaning_alwaysEnd : ByteArray := prog_8_method_18_code
def yn_Meaning_armEnd : MethodName := ⟨rn_Meaning, "armEnd", "()V"⟩
abbrev bn_Meaning_armEnd : ByteArray := prog_8_method_28_code
def yn_Meaning_asserted : MethodName := ⟨rn_Meaning, "asserted", "()V"⟩
abbrev bn_Meaning_asserted : ByteArray := prog_8_method_10_code
def yn_Meaning_assignTo : MethodName := ⟨rn_Meaning, "assignTo", "(II)V"⟩
abbrev bn_Meaning_assignTo : ByteArray := prog_8_method_8_code
def yn_Meaning_assigned : MethodName := ⟨rn_Meaning, "assigned", "(I)V"⟩
abbrev bn_Meaning_assigned : ByteArray := prog_8_method_9_code
def yn_Meaning_beginsWith : MethodName := ⟨rn_Meaning, "beginsWith", "(II)V"⟩
abbrev bn_Meaning_beginsWith : ByteArray := prog_8_method_7_code
def yn_Meaning_caseEnd : MethodName := ⟨rn_Meaning, "caseEnd", "()V"⟩
abbrev bn_Meaning_caseEnd : ByteArray := prog_8_method_29_code
def yn_Meaning_choice : MethodName := ⟨rn_Meaning, "choice", "()V"⟩
abbrev bn_Meaning_choice : ByteArray := prog_8_method_25_code
def yn_Meaning_condition : MethodName := ⟨rn_Meaning, "condition", "()V"⟩
abbrev bn_Meaning_condition : ByteArray := prog_8_method_22_code
def yn_Meaning_declare : MethodName := ⟨rn_Meaning, "declare", "(III)V"⟩
abbrev bn_Meaning_declare : ByteArray := prog_8_method_6_code
def yn_Meaning_ifEnd : MethodName := ⟨rn_Meaning, "ifEnd", "()V"⟩
abbrev bn_Meaning_ifEnd : ByteArray := prog_8_method_24_code
def yn_Meaning_instance : MethodName := ⟨rn_Meaning, "instance", "(II)V"⟩
abbrev bn_Meaning_instance : ByteArray := prog_8_method_11_code
def yn_Meaning_instanceEnd : MethodName := ⟨rn_Meaning, "instanceEnd", "()V"⟩
abbrev bn_Meaning_instanceEnd : ByteArray := prog_8_method_15_code
def yn_Meaning_instanceName : MethodName := ⟨rn_Meaning, "instanceName", "(II)V"⟩
abbrev bn_Meaning_instanceName : ByteArray := prog_8_method_12_code
def yn_Meaning_label : MethodName := ⟨rn_Meaning, "label", "(II)V"⟩
abbrev bn_Meaning_label : ByteArray := prog_8_method_26_code
def yn_Meaning_labelsEnd : MethodName := ⟨rn_Meaning, "labelsEnd", "()V"⟩
abbrev bn_Meaning_labelsEnd : ByteArray := prog_8_method_27_code
def yn_Meaning_linkTo : MethodName := ⟨rn_Meaning, "linkTo", "(II)V"⟩
abbrev bn_Meaning_linkTo : ByteArray := prog_8_method_13_code
def yn_Meaning_linked : MethodName := ⟨rn_Meaning, "linked", "(III)V"⟩
abbrev bn_Meaning_linked : ByteArray := prog_8_method_14_code
def yn_Meaning_module : MethodName := ⟨rn_Meaning, "module", "(II)V"⟩
abbrev bn_Meaning_module : ByteArray := prog_8_method_3_code
def yn_Meaning_moduleEnd : MethodName := ⟨rn_Meaning, "moduleEnd", "()V"⟩
abbrev bn_Meaning_moduleEnd : ByteArray := prog_8_method_16_code
def yn_Meaning_otherwise : MethodName := ⟨rn_Meaning, "otherwise", "()V"⟩
abbrev bn_Meaning_otherwise : ByteArray := prog_8_method_23_code
def yn_Meaning_portsEnd : MethodName := ⟨rn_Meaning, "portsEnd", "()V"⟩
abbrev bn_Meaning_portsEnd : ByteArray := prog_8_method_4_code
def yn_Meaning_range : MethodName := ⟨rn_Meaning, "range", "(III)V"⟩
abbrev bn_Meaning_range : ByteArray := prog_8_method_5_code
def yn_Meaning_start : MethodName := ⟨rn_Meaning, "start", "(LCircuitCycles$Design;)V"⟩
abbrev bn_Meaning_start : ByteArray := prog_8_method_2_code
def yn_Meaning_storePart : MethodName := ⟨rn_Meaning, "storePart", "(II)V"⟩
abbrev bn_Meaning_storePart : ByteArray := prog_8_method_20_code
def yn_Meaning_storeTo : MethodName := ⟨rn_Meaning, "storeTo", "(II)V"⟩
abbrev bn_Meaning_storeTo : ByteArray := prog_8_method_19_code
def yn_Meaning_stored : MethodName := ⟨rn_Meaning, "stored", "(I)V"⟩
abbrev bn_Meaning_stored : ByteArray := prog_8_method_21_code
def yn_Order_append : MethodName := ⟨rn_Order, "append", "(I)V"⟩
abbrev bn_Order_append : ByteArray := prog_9_method_7_code
def yn_Order_arrange : MethodName := ⟨rn_Order, "arrange", "(LCircuitCycles$Circuit;)I"⟩
abbrev bn_Order_arrange : ByteArray := prog_9_method_2_code
def yn_Order_enter : MethodName := ⟨rn_Order, "enter", "(I)V"⟩
abbrev bn_Order_enter : ByteArray := prog_9_method_4_code
def yn_Order_leave : MethodName := ⟨rn_Order, "leave", "(I)V"⟩
abbrev bn_Order_leave : ByteArray := prog_9_method_6_code
def yn_Order_nextNeeded : MethodName := ⟨rn_Order, "nextNeeded", "(I)I"⟩
abbrev bn_Order_nextNeeded : ByteArray := prog_9_method_5_code
def yn_Order_visit : MethodName := ⟨rn_Order, "visit", "(I)V"⟩
abbrev bn_Order_visit : ByteArray := prog_9_method_3_code
def yn_Parts_addChild : MethodName := ⟨rn_Parts, "addChild", "(I)V"⟩
abbrev bn_Parts_addChild : ByteArray := prog_10_method_4_code
def yn_Parts_addDecl : MethodName := ⟨rn_Parts, "addDecl", "(III)V"⟩
abbrev bn_Parts_addDecl : ByteArray := prog_10_method_3_code
def yn_Parts_addLink : MethodName := ⟨rn_Parts, "addLink", "(I)V"⟩
abbrev bn_Parts_addLink : ByteArray := prog_10_method_5_code
def yn_Parts_clear : MethodName := ⟨rn_Parts, "clear", "()V"⟩
abbrev bn_Parts_clear : ByteArray := prog_10_method_2_code
def yn_Parts_isLinked : MethodName := ⟨rn_Parts, "isLinked", "(II)Z"⟩
abbrev bn_Parts_isLinked : ByteArray := prog_10_method_7_code
def yn_Parts_linksEnd : MethodName := ⟨rn_Parts, "linksEnd", "(I)I"⟩
abbrev bn_Parts_linksEnd : ByteArray := prog_10_method_6_code
def yn_Scanner_added : MethodName := ⟨rn_Scanner, "added", "(III)I"⟩
abbrev bn_Scanner_added : ByteArray := prog_11_method_10_code
def yn_Scanner_byteAt : MethodName := ⟨rn_Scanner, "byteAt", "(I)I"⟩
abbrev bn_Scanner_byteAt : ByteArray := prog_11_method_3_code
def yn_Scanner_decimal : MethodName := ⟨rn_Scanner, "decimal", "(III)I"⟩
abbrev bn_Scanner_decimal : ByteArray := prog_11_method_14_code
def yn_Scanner_digitOf : MethodName := ⟨rn_Scanner, "digitOf", "(I)I"⟩
abbrev bn_Scanner_digitOf : ByteArray := prog_11_method_17_code
def yn_Scanner_kindOf : MethodName := ⟨rn_Scanner, "kindOf", "(II)I"⟩
abbrev bn_Scanner_kindOf : ByteArray := prog_11_method_11_code
def yn_Scanner_known : MethodName := ⟨rn_Scanner, "known", "(III)I"⟩
abbrev bn_Scanner_known : ByteArray := prog_11_method_8_code
def yn_Scanner_number : MethodName := ⟨rn_Scanner, "number", "(I)I"⟩
abbrev bn_Scanner_number : ByteArray := prog_11_method_13_code
def yn_Scanner_pair : MethodName := ⟨rn_Scanner, "pair", "(II)I"⟩
abbrev bn_Scanner_pair : ByteArray := prog_11_method_6_code
def yn_Scanner_repeats : MethodName := ⟨rn_Scanner, "repeats", "(III)Z"⟩
abbrev bn_Scanner_repeats : ByteArray := prog_11_method_9_code
def yn_Scanner_scan : MethodName := ⟨rn_Scanner, "scan", "(LCircuitCycles$Design;)V"⟩
abbrev bn_Scanner_scan : ByteArray := prog_11_method_2_code
def yn_Scanner_shiftOf : MethodName := ⟨rn_Scanner, "shiftOf", "(I)I"⟩
abbrev bn_Scanner_shiftOf : ByteArray := prog_11_method_16_code
def yn_Scanner_sized : MethodName := ⟨rn_Scanner, "sized", "(III)Z"⟩
abbrev bn_Scanner_sized : ByteArray := prog_11_method_15_code
def yn_Scanner_skipped : MethodName := ⟨rn_Scanner, "skipped", "(I)I"⟩
abbrev bn_Scanner_skipped : ByteArray := prog_11_method_4_code
def yn_Scanner_spells : MethodName := ⟨rn_Scanner, "spells", "(III)Z"⟩
abbrev bn_Scanner_spells : ByteArray := prog_11_method_12_code
def yn_Scanner_token : MethodName := ⟨rn_Scanner, "token", "(I)I"⟩
abbrev bn_Scanner_token : ByteArray := prog_11_method_5_code
def yn_Scanner_word : MethodName := ⟨rn_Scanner, "word", "(I)I"⟩
abbrev bn_Scanner_word : ByteArray := prog_11_method_7_code
def yn_Tokens_add : MethodName := ⟨rn_Tokens, "add", "(III)V"⟩
abbrev bn_Tokens_add : ByteArray := prog_12_method_3_code
def yn_Tokens_clear : MethodName := ⟨rn_Tokens, "clear", "()V"⟩
abbrev bn_Tokens_clear : ByteArray := prog_12_method_2_code
def yn_Tokens_due : MethodName := ⟨rn_Tokens, "due", "(I)Z"⟩
abbrev bn_Tokens_due : ByteArray := prog_12_method_9_code
def yn_Tokens_extraAt : MethodName := ⟨rn_Tokens, "extraAt", "(I)I"⟩
abbrev bn_Tokens_extraAt : ByteArray := prog_12_method_15_code
def yn_Tokens_kindAt : MethodName := ⟨rn_Tokens, "kindAt", "(I)I"⟩
abbrev bn_Tokens_kindAt : ByteArray := prog_12_method_14_code
def yn_Tokens_misfit : MethodName := ⟨rn_Tokens, "misfit", "()I"⟩
abbrev bn_Tokens_misfit : ByteArray := prog_12_method_7_code
def yn_Tokens_need : MethodName := ⟨rn_Tokens, "need", "(I)V"⟩
abbrev bn_Tokens_need : ByteArray := prog_12_method_10_code
def yn_Tokens_open : MethodName := ⟨rn_Tokens, "open", "(I)V"⟩
abbrev bn_Tokens_open : ByteArray := prog_12_method_11_code
def yn_Tokens_refuse : MethodName := ⟨rn_Tokens, "refuse", "()V"⟩
abbrev bn_Tokens_refuse : ByteArray := prog_12_method_8_code
def yn_Tokens_shut : MethodName := ⟨rn_Tokens, "shut", "(I)V"⟩
abbrev bn_Tokens_shut : ByteArray := prog_12_method_12_code
def yn_Tokens_shutQuietly : MethodName := ⟨rn_Tokens, "shutQuietly", "()V"⟩
abbrev bn_Tokens_shutQuietly : ByteArray := prog_12_method_13_code
def yn_Tokens_start : MethodName := ⟨rn_Tokens, "start", "()V"⟩
abbrev bn_Tokens_start : ByteArray := prog_12_method_4_code
def yn_Tokens_stop : MethodName := ⟨rn_Tokens, "stop", "(I)V"⟩
abbrev bn_Tokens_stop : ByteArray := prog_12_method_6_code
def yn_Tokens_take : MethodName := ⟨rn_Tokens, "take", "()V"⟩
abbrev bn_Tokens_take : ByteArray := prog_12_method_5_code
theorem nl_Checker_79 : Cond.methodLinkNest rn_Checker 79 yn_C_capped "CircuitCycles" ∈ xn_L := List.mem_filter.mpr ⟨List.mem_append_right _ (List.mem_append_right _ (List.mem_append_right _ (List.mem_append_right _ (List.mem_append_left _ (List.mem_of_getElem? (i := 231) rfl))))), rfl⟩
theorem nl_Design_105 : Cond.methodLinkNest rn_Design 105 yn_C_capped "CircuitCycles" ∈ xn_L := List.mem_filter.mpr ⟨List.mem_append_right _ (List.mem_append_right _ (List.mem_append_right _ (List.mem_append_right _ (List.mem_append_left _ (List.mem_of_getElem? (i := 107) rfl))))), rfl⟩
theorem nl_Design_120 : Cond.methodLinkNest rn_Design 120 yn_C_continuesWord "CircuitCycles" ∈ xn_L := List.mem_filter.mpr ⟨List.mem_append_right _ (List.mem_append_right _ (List.mem_append_right _ (List.mem_append_right _ (List.mem_append_right _ (List.mem_append_right _ (List.mem_append_left _ (List.mem_of_getElem? (i := 163) rfl))))))), rfl⟩
theorem nl_Machine_142 : Cond.methodLinkNest rn_Machine 142 yn_C_mask "CircuitCycles" ∈ xn_L := List.mem_filter.mpr ⟨List.mem_append_right _ (List.mem_append_right _ (List.mem_append_right _ (List.mem_append_right _ (List.mem_append_right _ (List.mem_append_right _ (List.mem_append_right _ (List.mem_append_left _ (List.mem_of_getElem? (i := 5) rfl)))))))), rfl⟩
theorem nl_Scanner_79 : Cond.methodLinkNest rn_Scanner 79 yn_C_beginsWord "CircuitCycles" ∈ xn_L := List.mem_filter.mpr ⟨List.mem_append_right _ (List.mem_append_right _ (List.mem_append_left _ (List.mem_of_getElem? (i := 202) rfl))), rfl⟩
theorem nl_Scanner_86 : Cond.methodLinkNest rn_Scanner 86 yn_C_isDigit "CircuitCycles" ∈ xn_L := List.mem_filter.mpr ⟨List.mem_append_right _ (List.mem_append_right _ (List.mem_append_right _ (List.mem_append_left _ (List.mem_of_getElem? (i := 49) rfl)))), rfl⟩
theorem nl_Scanner_102 : Cond.methodLinkNest rn_Scanner 102 yn_C_continuesWord "CircuitCycles" ∈ xn_L := List.mem_filter.mpr ⟨List.mem_append_right _ (List.mem_append_right _ (List.mem_append_left _ (List.mem_of_getElem? (i := 209) rfl))), rfl⟩
theorem nl_Scanner_148 : Cond.methodLinkNest rn_Scanner 148 yn_C_mask "CircuitCycles" ∈ xn_L := List.mem_filter.mpr ⟨List.mem_append_right _ (List.mem_append_right _ (List.mem_append_right _ (List.mem_append_left _ (List.mem_of_getElem? (i := 70) rfl)))), rfl⟩
theorem sn_C_append : Cond.selects rn_C yn_C_append yn_C_append ∈ xw_G := xw_s4 (q := (yn_C_append, 11)) (List.mem_of_getElem? (i := 11) rfl)
theorem sn_Checker_pop : Cond.selects rn_Checker yn_Checker_pop yn_Checker_pop ∈ xw_G := xw_s3 (q := (yn_Checker_pop, 15)) (List.mem_of_getElem? (i := 9) rfl)
theorem sn_Checker_push : Cond.selects rn_Checker yn_Checker_push yn_Checker_push ∈ xw_G := xw_s3 (q := (yn_Checker_push, 15)) (List.mem_of_getElem? (i := 7) rfl)
theorem sn_Circuit_childCalled : Cond.selects rn_Circuit yn_Circuit_childCalled yn_Circuit_childCalled ∈ xw_G := xw_s4 (q := (yn_Circuit_childCalled, 14)) (List.mem_of_getElem? (i := 12) rfl)
theorem sn_Circuit_isSignal : Cond.selects rn_Circuit yn_Circuit_isSignal yn_Circuit_isSignal ∈ xw_G := xw_s4 (q := (yn_Circuit_isSignal, 14)) (List.mem_of_getElem? (i := 4) rfl)
theorem sn_Circuit_layChildren : Cond.selects rn_Circuit yn_Circuit_layChildren yn_Circuit_layChildren ∈ xw_G := xw_s4 (q := (yn_Circuit_layChildren, 14)) (List.mem_of_getElem? (i := 0) rfl)
theorem sn_Circuit_layLinks : Cond.selects rn_Circuit yn_Circuit_layLinks yn_Circuit_layLinks ∈ xw_G := xw_s4 (q := (yn_Circuit_layLinks, 14)) (List.mem_of_getElem? (i := 3) rfl)
theorem sn_Circuit_laySignals : Cond.selects rn_Circuit yn_Circuit_laySignals yn_Circuit_laySignals ∈ xw_G := xw_s4 (q := (yn_Circuit_laySignals, 14)) (List.mem_of_getElem? (i := 2) rfl)
theorem sn_Circuit_ownSignals : Cond.selects rn_Circuit yn_Circuit_ownSignals yn_Circuit_ownSignals ∈ xw_G := xw_s4 (q := (yn_Circuit_ownSignals, 14)) (List.mem_of_getElem? (i := 1) rfl)
theorem sn_Circuit_signalCalled : Cond.selects rn_Circuit yn_Circuit_signalCalled yn_Circuit_signalCalled ∈ xw_G := xw_s4 (q := (yn_Circuit_signalCalled, 14)) (List.mem_of_getElem? (i := 13) rfl)
theorem sn_Design_isModule : Cond.selects rn_Design yn_Design_isModule yn_Design_isModule ∈ xw_G := xw_s2 (q := (yn_Design_isModule, 16)) (List.mem_of_getElem? (i := 7) rfl)
theorem sn_Grammar_always : Cond.selects rn_Grammar yn_Grammar_always yn_Grammar_always ∈ xw_G := xw_s2 (q := (yn_Grammar_always, 15)) (List.mem_of_getElem? (i := 4) rfl)
theorem sn_Grammar_apply : Cond.selects rn_Grammar yn_Grammar_apply yn_Grammar_apply ∈ xw_G := xw_s3 (q := (yn_Grammar_apply, 15)) (List.mem_of_getElem? (i := 11) rfl)
theorem sn_Grammar_arm : Cond.selects rn_Grammar yn_Grammar_arm yn_Grammar_arm ∈ xw_G := xw_s3 (q := (yn_Grammar_arm, 15)) (List.mem_of_getElem? (i := 1) rfl)
theorem sn_Grammar_assignment : Cond.selects rn_Grammar yn_Grammar_assignment yn_Grammar_assignment ∈ xw_G := xw_s2 (q := (yn_Grammar_assignment, 15)) (List.mem_of_getElem? (i := 2) rfl)
theorem sn_Grammar_behindExp : Cond.selects rn_Grammar yn_Grammar_behindExp yn_Grammar_behindExp ∈ xw_G := xw_s3 (q := (yn_Grammar_behindExp, 15)) (List.mem_of_getElem? (i := 14) rfl)
theorem sn_Grammar_behindOperand : Cond.selects rn_Grammar yn_Grammar_behindOperand yn_Grammar_behindOperand ∈ xw_G := xw_s3 (q := (yn_Grammar_behindOperand, 15)) (List.mem_of_getElem? (i := 10) rfl)
theorem sn_Grammar_behindStatement : Cond.selects rn_Grammar yn_Grammar_behindStatement yn_Grammar_behindStatement ∈ xw_G := xw_s2 (q := (yn_Grammar_behindStatement, 15)) (List.mem_of_getElem? (i := 14) rfl)
theorem sn_Grammar_brace : Cond.selects rn_Grammar yn_Grammar_brace yn_Grammar_brace ∈ xw_G := xw_s3 (q := (yn_Grammar_brace, 15)) (List.mem_of_getElem? (i := 6) rfl)
theorem sn_Grammar_caseEnd : Cond.selects rn_Grammar yn_Grammar_caseEnd yn_Grammar_caseEnd ∈ xw_G := xw_s3 (q := (yn_Grammar_caseEnd, 15)) (List.mem_of_getElem? (i := 2) rfl)
theorem sn_Grammar_close : Cond.selects rn_Grammar yn_Grammar_close yn_Grammar_close ∈ xw_G := xw_s3 (q := (yn_Grammar_close, 15)) (List.mem_of_getElem? (i := 12) rfl)
theorem sn_Grammar_closeBrace : Cond.selects rn_Grammar yn_Grammar_closeBrace yn_Grammar_closeBrace ∈ xw_G := xw_s3 (q := (yn_Grammar_closeBrace, 15)) (List.mem_of_getElem? (i := 13) rfl)
theorem sn_Grammar_declaration : Cond.selects rn_Grammar yn_Grammar_declaration yn_Grammar_declaration ∈ xw_G := xw_s2 (q := (yn_Grammar_declaration, 15)) (List.mem_of_getElem? (i := 0) rfl)
theorem sn_Grammar_enter : Cond.selects rn_Grammar yn_Grammar_enter yn_Grammar_enter ∈ xw_G := xw_s2 (q := (yn_Grammar_enter, 15)) (List.mem_of_getElem? (i := 10) rfl)
theorem sn_Grammar_expFor : Cond.selects rn_Grammar yn_Grammar_expFor yn_Grammar_expFor ∈ xw_G := xw_s2 (q := (yn_Grammar_expFor, 15)) (List.mem_of_getElem? (i := 3) rfl)
theorem sn_Grammar_goOnIn : Cond.selects rn_Grammar yn_Grammar_goOnIn yn_Grammar_goOnIn ∈ xw_G := xw_s2 (q := (yn_Grammar_goOnIn, 15)) (List.mem_of_getElem? (i := 11) rfl)
theorem sn_Grammar_hold : Cond.selects rn_Grammar yn_Grammar_hold yn_Grammar_hold ∈ xw_G := xw_s3 (q := (yn_Grammar_hold, 15)) (List.mem_of_getElem? (i := 5) rfl)
theorem sn_Grammar_ifEnd : Cond.selects rn_Grammar yn_Grammar_ifEnd yn_Grammar_ifEnd ∈ xw_G := xw_s3 (q := (yn_Grammar_ifEnd, 15)) (List.mem_of_getElem? (i := 0) rfl)
theorem sn_Grammar_instance : Cond.selects rn_Grammar yn_Grammar_instance yn_Grammar_instance ∈ xw_G := xw_s2 (q := (yn_Grammar_instance, 15)) (List.mem_of_getElem? (i := 5) rfl)
theorem sn_Grammar_instanceEnd : Cond.selects rn_Grammar yn_Grammar_instanceEnd yn_Grammar_instanceEnd ∈ xw_G := xw_s2 (q := (yn_Grammar_instanceEnd, 15)) (List.mem_of_getElem? (i := 6) rfl)
theorem sn_Grammar_item : Cond.selects rn_Grammar yn_Grammar_item yn_Grammar_item ∈ xw_G := xw_s2 (q := (yn_Grammar_item, 15)) (List.mem_of_getElem? (i := 1) rfl)
theorem sn_Grammar_link : Cond.selects rn_Grammar yn_Grammar_link yn_Grammar_link ∈ xw_G := xw_s2 (q := (yn_Grammar_link, 15)) (List.mem_of_getElem? (i := 8) rfl)
theorem sn_Grammar_linkEnd : Cond.selects rn_Grammar yn_Grammar_linkEnd yn_Grammar_linkEnd ∈ xw_G := xw_s3 (q := (yn_Grammar_linkEnd, 15)) (List.mem_of_getElem? (i := 15) rfl)
theorem sn_Grammar_moduleHead : Cond.selects rn_Grammar yn_Grammar_moduleHead yn_Grammar_moduleHead ∈ xw_G := xw_s1 (q := (yn_Grammar_moduleHead, 15)) (List.mem_of_getElem? (i := 12) rfl)
theorem sn_Grammar_named : Cond.selects rn_Grammar yn_Grammar_named yn_Grammar_named ∈ xw_G := xw_s3 (q := (yn_Grammar_named, 15)) (List.mem_of_getElem? (i := 8) rfl)
theorem sn_Grammar_operand : Cond.selects rn_Grammar yn_Grammar_operand yn_Grammar_operand ∈ xw_G := xw_s3 (q := (yn_Grammar_operand, 15)) (List.mem_of_getElem? (i := 3) rfl)
theorem sn_Grammar_otherwise : Cond.selects rn_Grammar yn_Grammar_otherwise yn_Grammar_otherwise ∈ xw_G := xw_s2 (q := (yn_Grammar_otherwise, 15)) (List.mem_of_getElem? (i := 15) rfl)
theorem sn_Grammar_part : Cond.selects rn_Grammar yn_Grammar_part yn_Grammar_part ∈ xw_G := xw_s2 (q := (yn_Grammar_part, 15)) (List.mem_of_getElem? (i := 13) rfl)
theorem sn_Grammar_port : Cond.selects rn_Grammar yn_Grammar_port yn_Grammar_port ∈ xw_G := xw_s1 (q := (yn_Grammar_port, 15)) (List.mem_of_getElem? (i := 15) rfl)
theorem sn_Grammar_signsBefore : Cond.selects rn_Grammar yn_Grammar_signsBefore yn_Grammar_signsBefore ∈ xw_G := xw_s3 (q := (yn_Grammar_signsBefore, 15)) (List.mem_of_getElem? (i := 4) rfl)
theorem sn_Grammar_statement : Cond.selects rn_Grammar yn_Grammar_statement yn_Grammar_statement ∈ xw_G := xw_s2 (q := (yn_Grammar_statement, 15)) (List.mem_of_getElem? (i := 9) rfl)
theorem sn_Grammar_store : Cond.selects rn_Grammar yn_Grammar_store yn_Grammar_store ∈ xw_G := xw_s2 (q := (yn_Grammar_store, 15)) (List.mem_of_getElem? (i := 12) rfl)
theorem sn_Machine_run : Cond.selects rn_Machine yn_Machine_run yn_Machine_run ∈ xw_G := xw_s4 (q := (yn_Machine_run, 5)) (List.mem_of_getElem? (i := 15) rfl)
theorem sn_Machine_runPieces : Cond.selects rn_Machine yn_Machine_runPieces yn_Machine_runPieces ∈ xw_G := xw_s5 (q := (yn_Machine_runPieces, 5)) (List.mem_of_getElem? (i := 1) rfl)
theorem sn_Machine_settle : Cond.selects rn_Machine yn_Machine_settle yn_Machine_settle ∈ xw_G := xw_s4 (q := (yn_Machine_settle, 5)) (List.mem_of_getElem? (i := 14) rfl)
theorem sn_Machine_store : Cond.selects rn_Machine yn_Machine_store yn_Machine_store ∈ xw_G := xw_s5 (q := (yn_Machine_store, 5)) (List.mem_of_getElem? (i := 0) rfl)
theorem sn_Order_append : Cond.selects rn_Order yn_Order_append yn_Order_append ∈ xw_G := xw_s4 (q := (yn_Order_append, 10)) (List.mem_of_getElem? (i := 9) rfl)
theorem sn_Order_enter : Cond.selects rn_Order yn_Order_enter yn_Order_enter ∈ xw_G := xw_s4 (q := (yn_Order_enter, 10)) (List.mem_of_getElem? (i := 6) rfl)
theorem sn_Order_leave : Cond.selects rn_Order yn_Order_leave yn_Order_leave ∈ xw_G := xw_s4 (q := (yn_Order_leave, 10)) (List.mem_of_getElem? (i := 8) rfl)
theorem sn_Order_nextNeeded : Cond.selects rn_Order yn_Order_nextNeeded yn_Order_nextNeeded ∈ xw_G := xw_s4 (q := (yn_Order_nextNeeded, 10)) (List.mem_of_getElem? (i := 7) rfl)
theorem sn_Order_visit : Cond.selects rn_Order yn_Order_visit yn_Order_visit ∈ xw_G := xw_s4 (q := (yn_Order_visit, 10)) (List.mem_of_getElem? (i := 5) rfl)
theorem sn_Scanner_byteAt : Cond.selects rn_Scanner yn_Scanner_byteAt yn_Scanner_byteAt ∈ xw_G := xw_s1 (q := (yn_Scanner_byteAt, 9)) (List.mem_of_getElem? (i := 1) rfl)
theorem sn_Scanner_decimal : Cond.selects rn_Scanner yn_Scanner_decimal yn_Scanner_decimal ∈ xw_G := xw_s1 (q := (yn_Scanner_decimal, 9)) (List.mem_of_getElem? (i := 11) rfl)
theorem sn_Scanner_known : Cond.selects rn_Scanner yn_Scanner_known yn_Scanner_known ∈ xw_G := xw_s1 (q := (yn_Scanner_known, 9)) (List.mem_of_getElem? (i := 4) rfl)
theorem sn_Scanner_repeats : Cond.selects rn_Scanner yn_Scanner_repeats yn_Scanner_repeats ∈ xw_G := xw_s1 (q := (yn_Scanner_repeats, 9)) (List.mem_of_getElem? (i := 5) rfl)
theorem sn_Scanner_sized : Cond.selects rn_Scanner yn_Scanner_sized yn_Scanner_sized ∈ xw_G := xw_s1 (q := (yn_Scanner_sized, 9)) (List.mem_of_getElem? (i := 10) rfl)
theorem sn_Tokens_misfit : Cond.selects rn_Tokens yn_Tokens_misfit yn_Tokens_misfit ∈ xw_G := xw_s1 (q := (yn_Tokens_misfit, 9)) (List.mem_of_getElem? (i := 13) rfl)
theorem sn_Tokens_stop : Cond.selects rn_Tokens yn_Tokens_stop yn_Tokens_stop ∈ xw_G := xw_s1 (q := (yn_Tokens_stop, 9)) (List.mem_of_getElem? (i := 14) rfl)
theorem dn_C_append_0 : decode bn_C_append 0 = .ok (.aload_n 0, 1) := by decide +kernel
theorem dn_C_append_1 : decode bn_C_append 1 = .ok (.getfield 67, 3) := by decide +kernel
theorem dn_C_append_4 : decode bn_C_append 4 = .ok (.getfield 85, 3) := by decide +kernel
theorem dn_C_append_7 : decode bn_C_append 7 = .ok (.getfield 158, 3) := by decide +kernel
theorem dn_C_append_10 : decode bn_C_append 10 = .ok (.astore_n 2, 1) := by decide +kernel
theorem dn_C_append_11 : decode bn_C_append 11 = .ok (.bipush 24, 2) := by decide +kernel
theorem dn_C_append_13 : decode bn_C_append 13 = .ok (.istore_n 3, 1) := by decide +kernel
theorem dn_C_append_14 : decode bn_C_append 14 = .ok (.iload_n 3, 1) := by decide +kernel
theorem dn_C_append_15 : decode bn_C_append 15 = .ok (.ifCond .lt 38, 3) := by decide +kernel
theorem dn_C_append_18 : decode bn_C_append 18 = .ok (.aload_n 0, 1) := by decide +kernel
theorem dn_C_append_19 : decode bn_C_append 19 = .ok (.getfield 70, 3) := by decide +kernel
theorem dn_C_append_22 : decode bn_C_append 22 = .ok (.aload_n 2, 1) := by decide +kernel
theorem dn_C_append_23 : decode bn_C_append 23 = .ok (.arraylength, 1) := by decide +kernel
theorem dn_C_append_24 : decode bn_C_append 24 = .ok (.if_icmp .ge 29, 3) := by decide +kernel
theorem dn_C_append_27 : decode bn_C_append 27 = .ok (.aload_n 2, 1) := by decide +kernel
theorem dn_C_append_28 : decode bn_C_append 28 = .ok (.aload_n 0, 1) := by decide +kernel
theorem dn_C_append_29 : decode bn_C_append 29 = .ok (.getfield 70, 3) := by decide +kernel
theorem dn_C_append_32 : decode bn_C_append 32 = .ok (.iload_n 1, 1) := by decide +kernel
theorem dn_C_append_33 : decode bn_C_append 33 = .ok (.iload_n 3, 1) := by decide +kernel
theorem dn_C_append_34 : decode bn_C_append 34 = .ok (.iushr, 1) := by decide +kernel
theorem dn_C_append_35 : decode bn_C_append 35 = .ok (.i2b, 1) := by decide +kernel
theorem dn_C_append_36 : decode bn_C_append 36 = .ok (.bastore, 1) := by decide +kernel
theorem dn_C_append_37 : decode bn_C_append 37 = .ok (.aload_n 0, 1) := by decide +kernel
theorem dn_C_append_38 : decode bn_C_append 38 = .ok (.dup, 1) := by decide +kernel
theorem dn_C_append_39 : decode bn_C_append 39 = .ok (.getfield 70, 3) := by decide +kernel
theorem dn_C_append_42 : decode bn_C_append 42 = .ok (.iconst 1, 1) := by decide +kernel
theorem dn_C_append_43 : decode bn_C_append 43 = .ok (.iadd, 1) := by decide +kernel
theorem dn_C_append_44 : decode bn_C_append 44 = .ok (.putfield 70, 3) := by decide +kernel
theorem dn_C_append_47 : decode bn_C_append 47 = .ok (.iinc 3 (-8), 3) := by decide +kernel
theorem dn_C_append_50 : decode bn_C_append 50 = .ok (.goto (-36), 3) := by decide +kernel
theorem dn_C_append_53 : decode bn_C_append 53 = .ok (.return_, 1) := by decide +kernel
theorem dn_C_beginsWord_0 : decode bn_C_beginsWord 0 = .ok (.iload_n 0, 1) := by decide +kernel
theorem dn_C_beginsWord_1 : decode bn_C_beginsWord 1 = .ok (.bipush 97, 2) := by decide +kernel
theorem dn_C_beginsWord_3 : decode bn_C_beginsWord 3 = .ok (.if_icmp .lt 9, 3) := by decide +kernel
theorem dn_C_beginsWord_6 : decode bn_C_beginsWord 6 = .ok (.iload_n 0, 1) := by decide +kernel
theorem dn_C_beginsWord_7 : decode bn_C_beginsWord 7 = .ok (.bipush 122, 2) := by decide +kernel
theorem dn_C_beginsWord_9 : decode bn_C_beginsWord 9 = .ok (.if_icmp .le 21, 3) := by decide +kernel
theorem dn_C_beginsWord_12 : decode bn_C_beginsWord 12 = .ok (.iload_n 0, 1) := by decide +kernel
theorem dn_C_beginsWord_13 : decode bn_C_beginsWord 13 = .ok (.bipush 65, 2) := by decide +kernel
theorem dn_C_beginsWord_15 : decode bn_C_beginsWord 15 = .ok (.if_icmp .lt 9, 3) := by decide +kernel
theorem dn_C_beginsWord_18 : decode bn_C_beginsWord 18 = .ok (.iload_n 0, 1) := by decide +kernel
theorem dn_C_beginsWord_19 : decode bn_C_beginsWord 19 = .ok (.bipush 90, 2) := by decide +kernel
theorem dn_C_beginsWord_21 : decode bn_C_beginsWord 21 = .ok (.if_icmp .le 9, 3) := by decide +kernel
theorem dn_C_beginsWord_24 : decode bn_C_beginsWord 24 = .ok (.iload_n 0, 1) := by decide +kernel
theorem dn_C_beginsWord_25 : decode bn_C_beginsWord 25 = .ok (.bipush 95, 2) := by decide +kernel
theorem dn_C_beginsWord_27 : decode bn_C_beginsWord 27 = .ok (.if_icmp .ne 7, 3) := by decide +kernel
theorem dn_C_beginsWord_30 : decode bn_C_beginsWord 30 = .ok (.iconst 1, 1) := by decide +kernel
theorem dn_C_beginsWord_31 : decode bn_C_beginsWord 31 = .ok (.goto 4, 3) := by decide +kernel
theorem dn_C_beginsWord_34 : decode bn_C_beginsWord 34 = .ok (.iconst 0, 1) := by decide +kernel
theorem dn_C_beginsWord_35 : decode bn_C_beginsWord 35 = .ok (.ireturn, 1) := by decide +kernel
theorem dn_C_capped_0 : decode bn_C_capped 0 = .ok (.ldc 193, 2) := by decide +kernel
theorem dn_C_capped_2 : decode bn_C_capped 2 = .ok (.iload_n 0, 1) := by decide +kernel
theorem dn_C_capped_3 : decode bn_C_capped 3 = .ok (.ldc 193, 2) := by decide +kernel
theorem dn_C_capped_5 : decode bn_C_capped 5 = .ok (.iload_n 1, 1) := by decide +kernel
theorem dn_C_capped_6 : decode bn_C_capped 6 = .ok (.invokestatic 194, 3) := by decide +kernel
theorem dn_C_capped_9 : decode bn_C_capped 9 = .ok (.iadd, 1) := by decide +kernel
theorem dn_C_capped_10 : decode bn_C_capped 10 = .ok (.invokestatic 194, 3) := by decide +kernel
theorem dn_C_capped_13 : decode bn_C_capped 13 = .ok (.ireturn, 1) := by decide +kernel
theorem dn_C_continuesWord_0 : decode bn_C_continuesWord 0 = .ok (.iload_n 0, 1) := by decide +kernel
theorem dn_C_continuesWord_1 : decode bn_C_continuesWord 1 = .ok (.invokestatic 202, 3) := by decide +kernel
theorem dn_C_continuesWord_4 : decode bn_C_continuesWord 4 = .ok (.ifCond .ne 16, 3) := by decide +kernel
theorem dn_C_continuesWord_7 : decode bn_C_continuesWord 7 = .ok (.iload_n 0, 1) := by decide +kernel
theorem dn_C_continuesWord_8 : decode bn_C_continuesWord 8 = .ok (.invokestatic 206, 3) := by decide +kernel
theorem dn_C_continuesWord_11 : decode bn_C_continuesWord 11 = .ok (.ifCond .ne 9, 3) := by decide +kernel
theorem dn_C_continuesWord_14 : decode bn_C_continuesWord 14 = .ok (.iload_n 0, 1) := by decide +kernel
theorem dn_C_continuesWord_15 : decode bn_C_continuesWord 15 = .ok (.bipush 36, 2) := by decide +kernel
theorem dn_C_continuesWord_17 : decode bn_C_continuesWord 17 = .ok (.if_icmp .ne 7, 3) := by decide +kernel
theorem dn_C_continuesWord_20 : decode bn_C_continuesWord 20 = .ok (.iconst 1, 1) := by decide +kernel
theorem dn_C_continuesWord_21 : decode bn_C_continuesWord 21 = .ok (.goto 4, 3) := by decide +kernel
theorem dn_C_continuesWord_24 : decode bn_C_continuesWord 24 = .ok (.iconst 0, 1) := by decide +kernel
theorem dn_C_continuesWord_25 : decode bn_C_continuesWord 25 = .ok (.ireturn, 1) := by decide +kernel
theorem dn_C_count_0 : decode bn_C_count 0 = .ok (.aload_n 0, 1) := by decide +kernel
theorem dn_C_count_1 : decode bn_C_count 1 = .ok (.getfield 132, 3) := by decide +kernel
theorem dn_C_count_4 : decode bn_C_count 4 = .ok (.ifCond .ne 11, 3) := by decide +kernel
theorem dn_C_count_7 : decode bn_C_count 7 = .ok (.new 140, 3) := by decide +kernel
theorem dn_C_count_15 : decode bn_C_count 15 = .ok (.aload_n 0, 1) := by decide +kernel
theorem dn_C_count_16 : decode bn_C_count 16 = .ok (.getfield 63, 3) := by decide +kernel
theorem dn_C_count_19 : decode bn_C_count 19 = .ok (.getfield 85, 3) := by decide +kernel
theorem dn_C_count_22 : decode bn_C_count 22 = .ok (.astore_n 2, 1) := by decide +kernel
theorem dn_C_count_23 : decode bn_C_count 23 = .ok (.iload_n 1, 1) := by decide +kernel
theorem dn_C_count_24 : decode bn_C_count 24 = .ok (.tableswitch 90 0 6 #[44, 49, 59, 67, 73, 78, 84], 44) := by decide +kernel
theorem dn_C_count_68 : decode bn_C_count 68 = .ok (.aload_n 2, 1) := by decide +kernel
theorem dn_C_count_69 : decode bn_C_count 69 = .ok (.getfield 143, 3) := by decide +kernel
theorem dn_C_count_72 : decode bn_C_count 72 = .ok (.ireturn, 1) := by decide +kernel
theorem dn_C_count_73 : decode bn_C_count 73 = .ok (.aload_n 0, 1) := by decide +kernel
theorem dn_C_count_74 : decode bn_C_count 74 = .ok (.getfield 63, 3) := by decide +kernel
theorem dn_C_count_77 : decode bn_C_count 77 = .ok (.getfield 146, 3) := by decide +kernel
theorem dn_C_count_80 : decode bn_C_count 80 = .ok (.iconst 1, 1) := by decide +kernel
theorem dn_C_count_81 : decode bn_C_count 81 = .ok (.isub, 1) := by decide +kernel
theorem dn_C_count_82 : decode bn_C_count 82 = .ok (.ireturn, 1) := by decide +kernel
theorem dn_C_count_83 : decode bn_C_count 83 = .ok (.aload_n 0, 1) := by decide +kernel
theorem dn_C_count_84 : decode bn_C_count 84 = .ok (.getfield 63, 3) := by decide +kernel
theorem dn_C_count_87 : decode bn_C_count 87 = .ok (.getfield 149, 3) := by decide +kernel
theorem dn_C_count_90 : decode bn_C_count 90 = .ok (.ireturn, 1) := by decide +kernel
theorem dn_C_count_91 : decode bn_C_count 91 = .ok (.aload_n 2, 1) := by decide +kernel
theorem dn_C_count_92 : decode bn_C_count 92 = .ok (.iconst 2, 1) := by decide +kernel
theorem dn_C_count_93 : decode bn_C_count 93 = .ok (.invokevirtual 152, 3) := by decide +kernel
theorem dn_C_count_96 : decode bn_C_count 96 = .ok (.ireturn, 1) := by decide +kernel
theorem dn_C_count_97 : decode bn_C_count 97 = .ok (.aload_n 2, 1) := by decide +kernel
theorem dn_C_count_98 : decode bn_C_count 98 = .ok (.getfield 155, 3) := by decide +kernel
theorem dn_C_count_101 : decode bn_C_count 101 = .ok (.ireturn, 1) := by decide +kernel
theorem dn_C_count_102 : decode bn_C_count 102 = .ok (.aload_n 2, 1) := by decide +kernel
theorem dn_C_count_103 : decode bn_C_count 103 = .ok (.iconst 3, 1) := by decide +kernel
theorem dn_C_count_104 : decode bn_C_count 104 = .ok (.invokevirtual 152, 3) := by decide +kernel
theorem dn_C_count_107 : decode bn_C_count 107 = .ok (.ireturn, 1) := by decide +kernel
theorem dn_C_count_108 : decode bn_C_count 108 = .ok (.aload_n 2, 1) := by decide +kernel
theorem dn_C_count_109 : decode bn_C_count 109 = .ok (.iconst 4, 1) := by decide +kernel
theorem dn_C_count_110 : decode bn_C_count 110 = .ok (.invokevirtual 152, 3) := by decide +kernel
theorem dn_C_count_113 : decode bn_C_count 113 = .ok (.ireturn, 1) := by decide +kernel
theorem dn_C_count_114 : decode bn_C_count 114 = .ok (.new 82, 3) := by decide +kernel
theorem dn_C_end_0 : decode bn_C_end 0 = .ok (.iload_n 1, 1) := by decide +kernel
theorem dn_C_end_1 : decode bn_C_end 1 = .ok (.ifCond .lt 11, 3) := by decide +kernel
theorem dn_C_end_4 : decode bn_C_end 4 = .ok (.iload_n 1, 1) := by decide +kernel
theorem dn_C_end_5 : decode bn_C_end 5 = .ok (.aload_n 0, 1) := by decide +kernel
theorem dn_C_end_6 : decode bn_C_end 6 = .ok (.getfield 70, 3) := by decide +kernel
theorem dn_C_end_9 : decode bn_C_end 9 = .ok (.if_icmp .le 11, 3) := by decide +kernel
theorem dn_C_end_12 : decode bn_C_end 12 = .ok (.new 82, 3) := by decide +kernel
theorem dn_C_end_20 : decode bn_C_end 20 = .ok (.aload_n 0, 1) := by decide +kernel
theorem dn_C_end_21 : decode bn_C_end 21 = .ok (.iload_n 1, 1) := by decide +kernel
theorem dn_C_end_22 : decode bn_C_end 22 = .ok (.putfield 70, 3) := by decide +kernel
theorem dn_C_end_25 : decode bn_C_end 25 = .ok (.return_, 1) := by decide +kernel
theorem dn_C_failing_0 : decode bn_C_failing 0 = .ok (.aload_n 0, 1) := by decide +kernel
theorem dn_C_failing_1 : decode bn_C_failing 1 = .ok (.getfield 132, 3) := by decide +kernel
theorem dn_C_failing_4 : decode bn_C_failing 4 = .ok (.ifCond .ne 11, 3) := by decide +kernel
theorem dn_C_failing_7 : decode bn_C_failing 7 = .ok (.new 140, 3) := by decide +kernel
theorem dn_C_failing_15 : decode bn_C_failing 15 = .ok (.aload_n 0, 1) := by decide +kernel
theorem dn_C_failing_16 : decode bn_C_failing 16 = .ok (.getfield 56, 3) := by decide +kernel
theorem dn_C_failing_19 : decode bn_C_failing 19 = .ok (.aload_n 0, 1) := by decide +kernel
theorem dn_C_failing_20 : decode bn_C_failing 20 = .ok (.getfield 63, 3) := by decide +kernel
theorem dn_C_failing_23 : decode bn_C_failing 23 = .ok (.invokevirtual 190, 3) := by decide +kernel
theorem dn_C_failing_26 : decode bn_C_failing 26 = .ok (.ireturn, 1) := by decide +kernel
theorem dn_C_fault_0 : decode bn_C_fault 0 = .ok (.aload_n 0, 1) := by decide +kernel
theorem dn_C_fault_1 : decode bn_C_fault 1 = .ok (.getfield 111, 3) := by decide +kernel
theorem dn_C_fault_4 : decode bn_C_fault 4 = .ok (.ireturn, 1) := by decide +kernel
theorem dn_C_feed_0 : decode bn_C_feed 0 = .ok (.aload_n 0, 1) := by decide +kernel
theorem dn_C_feed_1 : decode bn_C_feed 1 = .ok (.getfield 70, 3) := by decide +kernel
theorem dn_C_feed_4 : decode bn_C_feed 4 = .ok (.bipush 20, 2) := by decide +kernel
theorem dn_C_feed_6 : decode bn_C_feed 6 = .ok (.iadd, 1) := by decide +kernel
theorem dn_C_feed_7 : decode bn_C_feed 7 = .ok (.ldc 74, 2) := by decide +kernel
theorem dn_C_feed_9 : decode bn_C_feed 9 = .ok (.if_icmp .le 11, 3) := by decide +kernel
theorem dn_C_feed_12 : decode bn_C_feed 12 = .ok (.new 75, 3) := by decide +kernel
theorem dn_C_feed_20 : decode bn_C_feed 20 = .ok (.aload_n 0, 1) := by decide +kernel
theorem dn_C_feed_21 : decode bn_C_feed 21 = .ok (.iload_n 1, 1) := by decide +kernel
theorem dn_C_feed_22 : decode bn_C_feed 22 = .ok (.invokevirtual 78, 3) := by decide +kernel
theorem dn_C_feed_25 : decode bn_C_feed 25 = .ok (.aload_n 0, 1) := by decide +kernel
theorem dn_C_feed_26 : decode bn_C_feed 26 = .ok (.iload_n 2, 1) := by decide +kernel
theorem dn_C_feed_27 : decode bn_C_feed 27 = .ok (.invokevirtual 78, 3) := by decide +kernel
theorem dn_C_feed_30 : decode bn_C_feed 30 = .ok (.aload_n 0, 1) := by decide +kernel
theorem dn_C_feed_31 : decode bn_C_feed 31 = .ok (.iload_n 3, 1) := by decide +kernel
theorem dn_C_feed_32 : decode bn_C_feed 32 = .ok (.invokevirtual 78, 3) := by decide +kernel
theorem dn_C_feed_35 : decode bn_C_feed 35 = .ok (.aload_n 0, 1) := by decide +kernel
theorem dn_C_feed_36 : decode bn_C_feed 36 = .ok (.iload 4, 2) := by decide +kernel
theorem dn_C_feed_38 : decode bn_C_feed 38 = .ok (.invokevirtual 78, 3) := by decide +kernel
theorem dn_C_feed_41 : decode bn_C_feed 41 = .ok (.aload_n 0, 1) := by decide +kernel
theorem dn_C_feed_42 : decode bn_C_feed 42 = .ok (.iload 5, 2) := by decide +kernel
theorem dn_C_feed_44 : decode bn_C_feed 44 = .ok (.invokevirtual 78, 3) := by decide +kernel
theorem dn_C_feed_47 : decode bn_C_feed 47 = .ok (.aload_n 0, 1) := by decide +kernel
theorem dn_C_feed_48 : decode bn_C_feed 48 = .ok (.getfield 70, 3) := by decide +kernel
theorem dn_C_feed_51 : decode bn_C_feed 51 = .ok (.ireturn, 1) := by decide +kernel
theorem dn_C_find_0 : decode bn_C_find 0 = .ok (.aload_n 0, 1) := by decide +kernel
theorem dn_C_find_1 : decode bn_C_find 1 = .ok (.getfield 132, 3) := by decide +kernel
theorem dn_C_find_4 : decode bn_C_find 4 = .ok (.ifCond .ne 11, 3) := by decide +kernel
theorem dn_C_find_7 : decode bn_C_find 7 = .ok (.new 140, 3) := by decide +kernel
theorem dn_C_find_15 : decode bn_C_find 15 = .ok (.aload_n 0, 1) := by decide +kernel
theorem dn_C_find_16 : decode bn_C_find 16 = .ok (.getfield 63, 3) := by decide +kernel
theorem dn_C_find_19 : decode bn_C_find 19 = .ok (.aload_n 0, 1) := by decide +kernel
theorem dn_C_find_20 : decode bn_C_find 20 = .ok (.getfield 67, 3) := by decide +kernel
theorem dn_C_find_23 : decode bn_C_find 23 = .ok (.getfield 85, 3) := by decide +kernel
theorem dn_C_find_26 : decode bn_C_find 26 = .ok (.getfield 158, 3) := by decide +kernel
theorem dn_C_find_29 : decode bn_C_find 29 = .ok (.aload_n 0, 1) := by decide +kernel
theorem dn_C_find_30 : decode bn_C_find 30 = .ok (.getfield 70, 3) := by decide +kernel
theorem dn_C_find_33 : decode bn_C_find 33 = .ok (.invokevirtual 162, 3) := by decide +kernel
theorem dn_C_find_36 : decode bn_C_find 36 = .ok (.istore_n 1, 1) := by decide +kernel
theorem dn_C_find_37 : decode bn_C_find 37 = .ok (.aload_n 0, 1) := by decide +kernel
theorem dn_C_find_38 : decode bn_C_find 38 = .ok (.iconst 0, 1) := by decide +kernel
theorem dn_C_find_39 : decode bn_C_find 39 = .ok (.putfield 70, 3) := by decide +kernel
theorem dn_C_find_42 : decode bn_C_find 42 = .ok (.iload_n 1, 1) := by decide +kernel
theorem dn_C_find_43 : decode bn_C_find 43 = .ok (.ireturn, 1) := by decide +kernel
theorem dn_C_isDigit_0 : decode bn_C_isDigit 0 = .ok (.iload_n 0, 1) := by decide +kernel
theorem dn_C_isDigit_1 : decode bn_C_isDigit 1 = .ok (.bipush 48, 2) := by decide +kernel
theorem dn_C_isDigit_3 : decode bn_C_isDigit 3 = .ok (.if_icmp .lt 13, 3) := by decide +kernel
theorem dn_C_isDigit_6 : decode bn_C_isDigit 6 = .ok (.iload_n 0, 1) := by decide +kernel
theorem dn_C_isDigit_7 : decode bn_C_isDigit 7 = .ok (.bipush 57, 2) := by decide +kernel
theorem dn_C_isDigit_9 : decode bn_C_isDigit 9 = .ok (.if_icmp .gt 7, 3) := by decide +kernel
theorem dn_C_isDigit_12 : decode bn_C_isDigit 12 = .ok (.iconst 1, 1) := by decide +kernel
theorem dn_C_isDigit_13 : decode bn_C_isDigit 13 = .ok (.goto 4, 3) := by decide +kernel
theorem dn_C_isDigit_16 : decode bn_C_isDigit 16 = .ok (.iconst 0, 1) := by decide +kernel
theorem dn_C_isDigit_17 : decode bn_C_isDigit 17 = .ok (.ireturn, 1) := by decide +kernel
theorem dn_C_mask_0 : decode bn_C_mask 0 = .ok (.iload_n 0, 1) := by decide +kernel
theorem dn_C_mask_1 : decode bn_C_mask 1 = .ok (.bipush 64, 2) := by decide +kernel
theorem dn_C_mask_3 : decode bn_C_mask 3 = .ok (.if_icmp .lt 9, 3) := by decide +kernel
theorem dn_C_mask_6 : decode bn_C_mask 6 = .ok (.ldc2_w 200, 3) := by decide +kernel
theorem dn_C_mask_9 : decode bn_C_mask 9 = .ok (.goto 8, 3) := by decide +kernel
theorem dn_C_mask_12 : decode bn_C_mask 12 = .ok (.lconst 1, 1) := by decide +kernel
theorem dn_C_mask_13 : decode bn_C_mask 13 = .ok (.iload_n 0, 1) := by decide +kernel
theorem dn_C_mask_14 : decode bn_C_mask 14 = .ok (.lshl, 1) := by decide +kernel
theorem dn_C_mask_15 : decode bn_C_mask 15 = .ok (.lconst 1, 1) := by decide +kernel
theorem dn_C_mask_16 : decode bn_C_mask 16 = .ok (.lsub, 1) := by decide +kernel
theorem dn_C_mask_17 : decode bn_C_mask 17 = .ok (.lreturn, 1) := by decide +kernel
theorem dn_C_read_0 : decode bn_C_read 0 = .ok (.aload_n 0, 1) := by decide +kernel
theorem dn_C_read_1 : decode bn_C_read 1 = .ok (.getfield 67, 3) := by decide +kernel
theorem dn_C_read_4 : decode bn_C_read 4 = .ok (.getfield 85, 3) := by decide +kernel
theorem dn_C_read_7 : decode bn_C_read 7 = .ok (.astore_n 1, 1) := by decide +kernel
theorem dn_C_read_8 : decode bn_C_read 8 = .ok (.aload_n 1, 1) := by decide +kernel
theorem dn_C_read_9 : decode bn_C_read 9 = .ok (.aload_n 0, 1) := by decide +kernel
theorem dn_C_read_10 : decode bn_C_read 10 = .ok (.getfield 70, 3) := by decide +kernel
theorem dn_C_read_13 : decode bn_C_read 13 = .ok (.invokevirtual 89, 3) := by decide +kernel
theorem dn_C_read_16 : decode bn_C_read 16 = .ok (.aload_n 0, 1) := by decide +kernel
theorem dn_C_read_17 : decode bn_C_read 17 = .ok (.iconst 0, 1) := by decide +kernel
theorem dn_C_read_18 : decode bn_C_read 18 = .ok (.putfield 70, 3) := by decide +kernel
theorem dn_C_read_21 : decode bn_C_read 21 = .ok (.aload_n 0, 1) := by decide +kernel
theorem dn_C_read_22 : decode bn_C_read 22 = .ok (.getfield 21, 3) := by decide +kernel
theorem dn_C_read_25 : decode bn_C_read 25 = .ok (.aload_n 1, 1) := by decide +kernel
theorem dn_C_read_26 : decode bn_C_read 26 = .ok (.invokevirtual 94, 3) := by decide +kernel
theorem dn_C_reset_0 : decode bn_C_reset 0 = .ok (.aload_n 0, 1) := by decide +kernel
theorem dn_C_reset_1 : decode bn_C_reset 1 = .ok (.getfield 132, 3) := by decide +kernel
theorem dn_C_reset_4 : decode bn_C_reset 4 = .ok (.ifCond .ne 11, 3) := by decide +kernel
theorem dn_C_reset_7 : decode bn_C_reset 7 = .ok (.new 140, 3) := by decide +kernel
theorem dn_C_reset_15 : decode bn_C_reset 15 = .ok (.aload_n 0, 1) := by decide +kernel
theorem dn_C_reset_16 : decode bn_C_reset 16 = .ok (.getfield 56, 3) := by decide +kernel
theorem dn_C_reset_19 : decode bn_C_reset 19 = .ok (.aload_n 0, 1) := by decide +kernel
theorem dn_C_reset_20 : decode bn_C_reset 20 = .ok (.getfield 63, 3) := by decide +kernel
theorem dn_C_reset_23 : decode bn_C_reset 23 = .ok (.invokevirtual 136, 3) := by decide +kernel
theorem dn_C_reset_26 : decode bn_C_reset 26 = .ok (.return_, 1) := by decide +kernel
theorem dn_C_set_0 : decode bn_C_set 0 = .ok (.aload_n 0, 1) := by decide +kernel
theorem dn_C_set_1 : decode bn_C_set 1 = .ok (.getfield 132, 3) := by decide +kernel
theorem dn_C_set_4 : decode bn_C_set 4 = .ok (.ifCond .ne 11, 3) := by decide +kernel
theorem dn_C_set_7 : decode bn_C_set 7 = .ok (.new 140, 3) := by decide +kernel
theorem dn_C_set_15 : decode bn_C_set 15 = .ok (.iload_n 1, 1) := by decide +kernel
theorem dn_C_set_16 : decode bn_C_set 16 = .ok (.ifCond .lt 14, 3) := by decide +kernel
theorem dn_C_set_19 : decode bn_C_set 19 = .ok (.iload_n 1, 1) := by decide +kernel
theorem dn_C_set_20 : decode bn_C_set 20 = .ok (.aload_n 0, 1) := by decide +kernel
theorem dn_C_set_21 : decode bn_C_set 21 = .ok (.getfield 63, 3) := by decide +kernel
theorem dn_C_set_24 : decode bn_C_set 24 = .ok (.getfield 149, 3) := by decide +kernel
theorem dn_C_set_27 : decode bn_C_set 27 = .ok (.if_icmp .lt 11, 3) := by decide +kernel
theorem dn_C_set_30 : decode bn_C_set 30 = .ok (.new 166, 3) := by decide +kernel
theorem dn_C_set_38 : decode bn_C_set 38 = .ok (.aload_n 0, 1) := by decide +kernel
theorem dn_C_set_39 : decode bn_C_set 39 = .ok (.getfield 63, 3) := by decide +kernel
theorem dn_C_set_42 : decode bn_C_set 42 = .ok (.iload_n 1, 1) := by decide +kernel
theorem dn_C_set_43 : decode bn_C_set 43 = .ok (.invokevirtual 172, 3) := by decide +kernel
theorem dn_C_set_46 : decode bn_C_set 46 = .ok (.ifCond .eq 11, 3) := by decide +kernel
theorem dn_C_set_49 : decode bn_C_set 49 = .ok (.new 82, 3) := by decide +kernel
theorem dn_C_set_57 : decode bn_C_set 57 = .ok (.iload_n 2, 1) := by decide +kernel
theorem dn_C_set_58 : decode bn_C_set 58 = .ok (.ifCond .lt 20, 3) := by decide +kernel
theorem dn_C_set_61 : decode bn_C_set 61 = .ok (.iload_n 2, 1) := by decide +kernel
theorem dn_C_set_62 : decode bn_C_set 62 = .ok (.i2l, 1) := by decide +kernel
theorem dn_C_set_63 : decode bn_C_set 63 = .ok (.aload_n 0, 1) := by decide +kernel
theorem dn_C_set_64 : decode bn_C_set 64 = .ok (.getfield 63, 3) := by decide +kernel
theorem dn_C_set_67 : decode bn_C_set 67 = .ok (.iload_n 1, 1) := by decide +kernel
theorem dn_C_set_68 : decode bn_C_set 68 = .ok (.invokevirtual 169, 3) := by decide +kernel
theorem dn_C_set_71 : decode bn_C_set 71 = .ok (.invokestatic 175, 3) := by decide +kernel
theorem dn_C_set_74 : decode bn_C_set 74 = .ok (.lcmp, 1) := by decide +kernel
theorem dn_C_set_75 : decode bn_C_set 75 = .ok (.ifCond .le 11, 3) := by decide +kernel
theorem dn_C_set_78 : decode bn_C_set 78 = .ok (.new 82, 3) := by decide +kernel
theorem dn_C_set_86 : decode bn_C_set 86 = .ok (.aload_n 0, 1) := by decide +kernel
theorem dn_C_set_87 : decode bn_C_set 87 = .ok (.getfield 56, 3) := by decide +kernel
theorem dn_C_set_90 : decode bn_C_set 90 = .ok (.iload_n 1, 1) := by decide +kernel
theorem dn_C_set_91 : decode bn_C_set 91 = .ok (.iload_n 2, 1) := by decide +kernel
theorem dn_C_set_92 : decode bn_C_set 92 = .ok (.i2l, 1) := by decide +kernel
theorem dn_C_set_93 : decode bn_C_set 93 = .ok (.invokevirtual 179, 3) := by decide +kernel
theorem dn_C_set_96 : decode bn_C_set 96 = .ok (.return_, 1) := by decide +kernel
theorem dn_C_signal_0 : decode bn_C_signal 0 = .ok (.aload_n 0, 1) := by decide +kernel
theorem dn_C_signal_1 : decode bn_C_signal 1 = .ok (.getfield 132, 3) := by decide +kernel
theorem dn_C_signal_4 : decode bn_C_signal 4 = .ok (.ifCond .ne 11, 3) := by decide +kernel
theorem dn_C_signal_7 : decode bn_C_signal 7 = .ok (.new 140, 3) := by decide +kernel
theorem dn_C_signal_15 : decode bn_C_signal 15 = .ok (.iload_n 1, 1) := by decide +kernel
theorem dn_C_signal_16 : decode bn_C_signal 16 = .ok (.ifCond .lt 14, 3) := by decide +kernel
theorem dn_C_signal_19 : decode bn_C_signal 19 = .ok (.iload_n 1, 1) := by decide +kernel
theorem dn_C_signal_20 : decode bn_C_signal 20 = .ok (.aload_n 0, 1) := by decide +kernel
theorem dn_C_signal_21 : decode bn_C_signal 21 = .ok (.getfield 63, 3) := by decide +kernel
theorem dn_C_signal_24 : decode bn_C_signal 24 = .ok (.getfield 149, 3) := by decide +kernel
theorem dn_C_signal_27 : decode bn_C_signal 27 = .ok (.if_icmp .lt 11, 3) := by decide +kernel
theorem dn_C_signal_30 : decode bn_C_signal 30 = .ok (.new 166, 3) := by decide +kernel
theorem dn_C_signal_38 : decode bn_C_signal 38 = .ok (.iload_n 2, 1) := by decide +kernel
theorem dn_C_signal_39 : decode bn_C_signal 39 = .ok (.tableswitch 52 0 2 #[25, 34, 43], 25) := by decide +kernel
theorem dn_C_signal_64 : decode bn_C_signal 64 = .ok (.aload_n 0, 1) := by decide +kernel
theorem dn_C_signal_65 : decode bn_C_signal 65 = .ok (.getfield 63, 3) := by decide +kernel
theorem dn_C_signal_68 : decode bn_C_signal 68 = .ok (.iload_n 1, 1) := by decide +kernel
theorem dn_C_signal_69 : decode bn_C_signal 69 = .ok (.invokevirtual 169, 3) := by decide +kernel
theorem dn_C_signal_72 : decode bn_C_signal 72 = .ok (.ireturn, 1) := by decide +kernel
theorem dn_C_signal_73 : decode bn_C_signal 73 = .ok (.aload_n 0, 1) := by decide +kernel
theorem dn_C_signal_74 : decode bn_C_signal 74 = .ok (.getfield 63, 3) := by decide +kernel
theorem dn_C_signal_77 : decode bn_C_signal 77 = .ok (.iload_n 1, 1) := by decide +kernel
theorem dn_C_signal_78 : decode bn_C_signal 78 = .ok (.invokevirtual 172, 3) := by decide +kernel
theorem dn_C_signal_81 : decode bn_C_signal 81 = .ok (.ireturn, 1) := by decide +kernel
theorem dn_C_signal_82 : decode bn_C_signal 82 = .ok (.aload_n 0, 1) := by decide +kernel
theorem dn_C_signal_83 : decode bn_C_signal 83 = .ok (.getfield 63, 3) := by decide +kernel
theorem dn_C_signal_86 : decode bn_C_signal 86 = .ok (.iload_n 1, 1) := by decide +kernel
theorem dn_C_signal_87 : decode bn_C_signal 87 = .ok (.invokevirtual 128, 3) := by decide +kernel
theorem dn_C_signal_90 : decode bn_C_signal 90 = .ok (.ireturn, 1) := by decide +kernel
theorem dn_C_signal_91 : decode bn_C_signal 91 = .ok (.new 82, 3) := by decide +kernel
theorem dn_C_step_0 : decode bn_C_step 0 = .ok (.aload_n 0, 1) := by decide +kernel
theorem dn_C_step_1 : decode bn_C_step 1 = .ok (.getfield 132, 3) := by decide +kernel
theorem dn_C_step_4 : decode bn_C_step 4 = .ok (.ifCond .ne 11, 3) := by decide +kernel
theorem dn_C_step_7 : decode bn_C_step 7 = .ok (.new 140, 3) := by decide +kernel
theorem dn_C_step_15 : decode bn_C_step 15 = .ok (.aload_n 0, 1) := by decide +kernel
theorem dn_C_step_16 : decode bn_C_step 16 = .ok (.getfield 56, 3) := by decide +kernel
theorem dn_C_step_19 : decode bn_C_step 19 = .ok (.aload_n 0, 1) := by decide +kernel
theorem dn_C_step_20 : decode bn_C_step 20 = .ok (.getfield 63, 3) := by decide +kernel
theorem dn_C_step_23 : decode bn_C_step 23 = .ok (.invokevirtual 183, 3) := by decide +kernel
theorem dn_C_step_26 : decode bn_C_step 26 = .ok (.ireturn, 1) := by decide +kernel
theorem dn_C_value_0 : decode bn_C_value 0 = .ok (.aload_n 0, 1) := by decide +kernel
theorem dn_C_value_1 : decode bn_C_value 1 = .ok (.getfield 132, 3) := by decide +kernel
theorem dn_C_value_4 : decode bn_C_value 4 = .ok (.ifCond .ne 11, 3) := by decide +kernel
theorem dn_C_value_7 : decode bn_C_value 7 = .ok (.new 140, 3) := by decide +kernel
theorem dn_C_value_15 : decode bn_C_value 15 = .ok (.iload_n 1, 1) := by decide +kernel
theorem dn_C_value_16 : decode bn_C_value 16 = .ok (.ifCond .lt 14, 3) := by decide +kernel
theorem dn_C_value_19 : decode bn_C_value 19 = .ok (.iload_n 1, 1) := by decide +kernel
theorem dn_C_value_20 : decode bn_C_value 20 = .ok (.aload_n 0, 1) := by decide +kernel
theorem dn_C_value_21 : decode bn_C_value 21 = .ok (.getfield 63, 3) := by decide +kernel
theorem dn_C_value_24 : decode bn_C_value 24 = .ok (.getfield 149, 3) := by decide +kernel
theorem dn_C_value_27 : decode bn_C_value 27 = .ok (.if_icmp .lt 11, 3) := by decide +kernel
theorem dn_C_value_30 : decode bn_C_value 30 = .ok (.new 166, 3) := by decide +kernel
theorem dn_C_value_38 : decode bn_C_value 38 = .ok (.aload_n 0, 1) := by decide +kernel
theorem dn_C_value_39 : decode bn_C_value 39 = .ok (.getfield 56, 3) := by decide +kernel
theorem dn_C_value_42 : decode bn_C_value 42 = .ok (.aload_n 0, 1) := by decide +kernel
theorem dn_C_value_43 : decode bn_C_value 43 = .ok (.getfield 63, 3) := by decide +kernel
theorem dn_C_value_46 : decode bn_C_value 46 = .ok (.iload_n 1, 1) := by decide +kernel
theorem dn_C_value_47 : decode bn_C_value 47 = .ok (.invokevirtual 186, 3) := by decide +kernel
theorem dn_C_value_50 : decode bn_C_value 50 = .ok (.lreturn, 1) := by decide +kernel
theorem dn_Checker_asks_0 : decode bn_Checker_asks 0 = .ok (.iload_n 0, 1) := by decide +kernel
theorem dn_Checker_asks_1 : decode bn_Checker_asks 1 = .ok (.lookupswitch 77 #[(5, 75), (6, 75), (7, 75), (8, 75), (9, 75), (10, 75), (60, 75), (62, 75)], 75) := by decide +kernel
theorem dn_Checker_asks_76 : decode bn_Checker_asks 76 = .ok (.iconst 1, 1) := by decide +kernel
theorem dn_Checker_asks_77 : decode bn_Checker_asks 77 = .ok (.ireturn, 1) := by decide +kernel
theorem dn_Checker_asks_78 : decode bn_Checker_asks 78 = .ok (.iconst 0, 1) := by decide +kernel
theorem dn_Checker_asks_79 : decode bn_Checker_asks 79 = .ok (.ireturn, 1) := by decide +kernel
theorem dn_Checker_binary_0 : decode bn_Checker_binary 0 = .ok (.aload_n 0, 1) := by decide +kernel
theorem dn_Checker_binary_1 : decode bn_Checker_binary 1 = .ok (.invokevirtual 82, 3) := by decide +kernel
theorem dn_Checker_binary_4 : decode bn_Checker_binary 4 = .ok (.ifCond .eq 4, 3) := by decide +kernel
theorem dn_Checker_binary_7 : decode bn_Checker_binary 7 = .ok (.return_, 1) := by decide +kernel
theorem dn_Checker_binary_8 : decode bn_Checker_binary 8 = .ok (.aload_n 0, 1) := by decide +kernel
theorem dn_Checker_binary_9 : decode bn_Checker_binary 9 = .ok (.invokevirtual 94, 3) := by decide +kernel
theorem dn_Checker_binary_12 : decode bn_Checker_binary 12 = .ok (.istore_n 3, 1) := by decide +kernel
theorem dn_Checker_binary_13 : decode bn_Checker_binary 13 = .ok (.aload_n 0, 1) := by decide +kernel
theorem dn_Checker_binary_14 : decode bn_Checker_binary 14 = .ok (.invokevirtual 94, 3) := by decide +kernel
theorem dn_Checker_binary_17 : decode bn_Checker_binary 17 = .ok (.istore 4, 2) := by decide +kernel
theorem dn_Checker_binary_19 : decode bn_Checker_binary 19 = .ok (.iload_n 1, 1) := by decide +kernel
theorem dn_Checker_binary_20 : decode bn_Checker_binary 20 = .ok (.bipush 11, 2) := by decide +kernel
theorem dn_Checker_binary_22 : decode bn_Checker_binary 22 = .ok (.if_icmp .eq 9, 3) := by decide +kernel
theorem dn_Checker_binary_25 : decode bn_Checker_binary 25 = .ok (.iload_n 1, 1) := by decide +kernel
theorem dn_Checker_binary_26 : decode bn_Checker_binary 26 = .ok (.bipush 12, 2) := by decide +kernel
theorem dn_Checker_binary_28 : decode bn_Checker_binary 28 = .ok (.if_icmp .ne 7, 3) := by decide +kernel
theorem dn_Checker_binary_31 : decode bn_Checker_binary 31 = .ok (.iconst 1, 1) := by decide +kernel
theorem dn_Checker_binary_32 : decode bn_Checker_binary 32 = .ok (.goto 4, 3) := by decide +kernel
theorem dn_Checker_binary_35 : decode bn_Checker_binary 35 = .ok (.iconst 0, 1) := by decide +kernel
theorem dn_Checker_binary_36 : decode bn_Checker_binary 36 = .ok (.istore 5, 2) := by decide +kernel
theorem dn_Checker_binary_38 : decode bn_Checker_binary 38 = .ok (.iload 5, 2) := by decide +kernel
theorem dn_Checker_binary_40 : decode bn_Checker_binary 40 = .ok (.ifCond .ne 14, 3) := by decide +kernel
theorem dn_Checker_binary_43 : decode bn_Checker_binary 43 = .ok (.iload_n 1, 1) := by decide +kernel
theorem dn_Checker_binary_44 : decode bn_Checker_binary 44 = .ok (.iconst 5, 1) := by decide +kernel
theorem dn_Checker_binary_45 : decode bn_Checker_binary 45 = .ok (.if_icmp .eq 9, 3) := by decide +kernel
theorem dn_Checker_binary_48 : decode bn_Checker_binary 48 = .ok (.iload_n 1, 1) := by decide +kernel
theorem dn_Checker_binary_49 : decode bn_Checker_binary 49 = .ok (.bipush 6, 2) := by decide +kernel
theorem dn_Checker_binary_51 : decode bn_Checker_binary 51 = .ok (.if_icmp .ne 7, 3) := by decide +kernel
theorem dn_Checker_binary_54 : decode bn_Checker_binary 54 = .ok (.iconst 1, 1) := by decide +kernel
theorem dn_Checker_binary_55 : decode bn_Checker_binary 55 = .ok (.goto 4, 3) := by decide +kernel
theorem dn_Checker_binary_58 : decode bn_Checker_binary 58 = .ok (.iconst 0, 1) := by decide +kernel
theorem dn_Checker_binary_59 : decode bn_Checker_binary 59 = .ok (.istore 6, 2) := by decide +kernel
theorem dn_Checker_binary_61 : decode bn_Checker_binary 61 = .ok (.iload 6, 2) := by decide +kernel
theorem dn_Checker_binary_63 : decode bn_Checker_binary 63 = .ok (.ifCond .ne 17, 3) := by decide +kernel
theorem dn_Checker_binary_66 : decode bn_Checker_binary 66 = .ok (.iload 4, 2) := by decide +kernel
theorem dn_Checker_binary_68 : decode bn_Checker_binary 68 = .ok (.iload_n 3, 1) := by decide +kernel
theorem dn_Checker_binary_69 : decode bn_Checker_binary 69 = .ok (.if_icmp .eq 11, 3) := by decide +kernel
theorem dn_Checker_binary_72 : decode bn_Checker_binary 72 = .ok (.aload_n 0, 1) := by decide +kernel
theorem dn_Checker_binary_73 : decode bn_Checker_binary 73 = .ok (.bipush 30, 2) := by decide +kernel
theorem dn_Checker_binary_75 : decode bn_Checker_binary 75 = .ok (.iload_n 2, 1) := by decide +kernel
theorem dn_Checker_binary_76 : decode bn_Checker_binary 76 = .ok (.invokevirtual 115, 3) := by decide +kernel
theorem dn_Checker_binary_79 : decode bn_Checker_binary 79 = .ok (.return_, 1) := by decide +kernel
theorem dn_Checker_binary_80 : decode bn_Checker_binary 80 = .ok (.iload 4, 2) := by decide +kernel
theorem dn_Checker_binary_82 : decode bn_Checker_binary 82 = .ok (.iload_n 3, 1) := by decide +kernel
theorem dn_Checker_binary_83 : decode bn_Checker_binary 83 = .ok (.invokestatic 70, 3) := by decide +kernel
theorem dn_Checker_binary_86 : decode bn_Checker_binary 86 = .ok (.istore 7, 2) := by decide +kernel
theorem dn_Checker_binary_88 : decode bn_Checker_binary 88 = .ok (.iload 5, 2) := by decide +kernel
theorem dn_Checker_binary_90 : decode bn_Checker_binary 90 = .ok (.ifCond .eq 16, 3) := by decide +kernel
theorem dn_Checker_binary_93 : decode bn_Checker_binary 93 = .ok (.aload_n 0, 1) := by decide +kernel
theorem dn_Checker_binary_94 : decode bn_Checker_binary 94 = .ok (.iconst 3, 1) := by decide +kernel
theorem dn_Checker_binary_95 : decode bn_Checker_binary 95 = .ok (.iload 4, 2) := by decide +kernel
theorem dn_Checker_binary_97 : decode bn_Checker_binary 97 = .ok (.imul, 1) := by decide +kernel
theorem dn_Checker_binary_98 : decode bn_Checker_binary 98 = .ok (.iload_n 3, 1) := by decide +kernel
theorem dn_Checker_binary_99 : decode bn_Checker_binary 99 = .ok (.iadd, 1) := by decide +kernel
theorem dn_Checker_binary_100 : decode bn_Checker_binary 100 = .ok (.invokevirtual 130, 3) := by decide +kernel
theorem dn_Checker_binary_103 : decode bn_Checker_binary 103 = .ok (.goto 23, 3) := by decide +kernel
theorem dn_Checker_binary_106 : decode bn_Checker_binary 106 = .ok (.aload_n 0, 1) := by decide +kernel
theorem dn_Checker_binary_107 : decode bn_Checker_binary 107 = .ok (.iload_n 1, 1) := by decide +kernel
theorem dn_Checker_binary_108 : decode bn_Checker_binary 108 = .ok (.bipush 42, 2) := by decide +kernel
theorem dn_Checker_binary_110 : decode bn_Checker_binary 110 = .ok (.if_icmp .ne 11, 3) := by decide +kernel
theorem dn_Checker_binary_113 : decode bn_Checker_binary 113 = .ok (.iload 7, 2) := by decide +kernel
theorem dn_Checker_binary_115 : decode bn_Checker_binary 115 = .ok (.iload 7, 2) := by decide +kernel
theorem dn_Checker_binary_117 : decode bn_Checker_binary 117 = .ok (.imul, 1) := by decide +kernel
theorem dn_Checker_binary_118 : decode bn_Checker_binary 118 = .ok (.goto 5, 3) := by decide +kernel
theorem dn_Checker_binary_121 : decode bn_Checker_binary 121 = .ok (.iload 7, 2) := by decide +kernel
theorem dn_Checker_binary_123 : decode bn_Checker_binary 123 = .ok (.invokevirtual 130, 3) := by decide +kernel
theorem dn_Checker_binary_126 : decode bn_Checker_binary 126 = .ok (.aload_n 0, 1) := by decide +kernel
theorem dn_Checker_binary_127 : decode bn_Checker_binary 127 = .ok (.iload_n 1, 1) := by decide +kernel
theorem dn_Checker_binary_128 : decode bn_Checker_binary 128 = .ok (.invokestatic 133, 3) := by decide +kernel
theorem dn_Checker_binary_131 : decode bn_Checker_binary 131 = .ok (.ifCond .eq 7, 3) := by decide +kernel
theorem dn_Checker_binary_134 : decode bn_Checker_binary 134 = .ok (.iconst 1, 1) := by decide +kernel
theorem dn_Checker_binary_135 : decode bn_Checker_binary 135 = .ok (.goto 5, 3) := by decide +kernel
theorem dn_Checker_binary_138 : decode bn_Checker_binary 138 = .ok (.iload 4, 2) := by decide +kernel
theorem dn_Checker_binary_140 : decode bn_Checker_binary 140 = .ok (.invokevirtual 102, 3) := by decide +kernel
theorem dn_Checker_binary_143 : decode bn_Checker_binary 143 = .ok (.aload_n 0, 1) := by decide +kernel
theorem dn_Checker_binary_144 : decode bn_Checker_binary 144 = .ok (.getfield 42, 3) := by decide +kernel
theorem dn_Checker_binary_147 : decode bn_Checker_binary 147 = .ok (.iload_n 1, 1) := by decide +kernel
theorem dn_Checker_binary_148 : decode bn_Checker_binary 148 = .ok (.iload 4, 2) := by decide +kernel
theorem dn_Checker_binary_150 : decode bn_Checker_binary 150 = .ok (.invokevirtual 106, 3) := by decide +kernel
theorem dn_Checker_binary_153 : decode bn_Checker_binary 153 = .ok (.pop, 1) := by decide +kernel
theorem dn_Checker_binary_154 : decode bn_Checker_binary 154 = .ok (.return_, 1) := by decide +kernel
theorem dn_Checker_braces_0 : decode bn_Checker_braces 0 = .ok (.aload_n 0, 1) := by decide +kernel
theorem dn_Checker_braces_1 : decode bn_Checker_braces 1 = .ok (.invokevirtual 82, 3) := by decide +kernel
theorem dn_Checker_braces_4 : decode bn_Checker_braces 4 = .ok (.ifCond .eq 4, 3) := by decide +kernel
theorem dn_Checker_braces_7 : decode bn_Checker_braces 7 = .ok (.return_, 1) := by decide +kernel
theorem dn_Checker_braces_8 : decode bn_Checker_braces 8 = .ok (.aload_n 0, 1) := by decide +kernel
theorem dn_Checker_braces_9 : decode bn_Checker_braces 9 = .ok (.invokevirtual 94, 3) := by decide +kernel
theorem dn_Checker_braces_12 : decode bn_Checker_braces 12 = .ok (.istore_n 2, 1) := by decide +kernel
theorem dn_Checker_braces_13 : decode bn_Checker_braces 13 = .ok (.iload_n 2, 1) := by decide +kernel
theorem dn_Checker_braces_14 : decode bn_Checker_braces 14 = .ok (.bipush 64, 2) := by decide +kernel
theorem dn_Checker_braces_16 : decode bn_Checker_braces 16 = .ok (.if_icmp .le 10, 3) := by decide +kernel
theorem dn_Checker_braces_19 : decode bn_Checker_braces 19 = .ok (.aload_n 0, 1) := by decide +kernel
theorem dn_Checker_braces_20 : decode bn_Checker_braces 20 = .ok (.bipush 30, 2) := by decide +kernel
theorem dn_Checker_braces_22 : decode bn_Checker_braces 22 = .ok (.iload_n 1, 1) := by decide +kernel
theorem dn_Checker_braces_23 : decode bn_Checker_braces 23 = .ok (.invokevirtual 115, 3) := by decide +kernel
theorem dn_Checker_braces_26 : decode bn_Checker_braces 26 = .ok (.aload_n 0, 1) := by decide +kernel
theorem dn_Checker_braces_27 : decode bn_Checker_braces 27 = .ok (.iload_n 2, 1) := by decide +kernel
theorem dn_Checker_braces_28 : decode bn_Checker_braces 28 = .ok (.invokevirtual 102, 3) := by decide +kernel
theorem dn_Checker_braces_31 : decode bn_Checker_braces 31 = .ok (.return_, 1) := by decide +kernel
theorem dn_Checker_choose_0 : decode bn_Checker_choose 0 = .ok (.aload_n 0, 1) := by decide +kernel
theorem dn_Checker_choose_1 : decode bn_Checker_choose 1 = .ok (.invokevirtual 82, 3) := by decide +kernel
theorem dn_Checker_choose_4 : decode bn_Checker_choose 4 = .ok (.ifCond .eq 4, 3) := by decide +kernel
theorem dn_Checker_choose_7 : decode bn_Checker_choose 7 = .ok (.return_, 1) := by decide +kernel
theorem dn_Checker_choose_8 : decode bn_Checker_choose 8 = .ok (.aload_n 0, 1) := by decide +kernel
theorem dn_Checker_choose_9 : decode bn_Checker_choose 9 = .ok (.invokevirtual 94, 3) := by decide +kernel
theorem dn_Checker_choose_12 : decode bn_Checker_choose 12 = .ok (.istore_n 2, 1) := by decide +kernel
theorem dn_Checker_choose_13 : decode bn_Checker_choose 13 = .ok (.aload_n 0, 1) := by decide +kernel
theorem dn_Checker_choose_14 : decode bn_Checker_choose 14 = .ok (.invokevirtual 94, 3) := by decide +kernel
theorem dn_Checker_choose_17 : decode bn_Checker_choose 17 = .ok (.istore_n 3, 1) := by decide +kernel
theorem dn_Checker_choose_18 : decode bn_Checker_choose 18 = .ok (.iload_n 3, 1) := by decide +kernel
theorem dn_Checker_choose_19 : decode bn_Checker_choose 19 = .ok (.iload_n 2, 1) := by decide +kernel
theorem dn_Checker_choose_20 : decode bn_Checker_choose 20 = .ok (.if_icmp .eq 11, 3) := by decide +kernel
theorem dn_Checker_choose_23 : decode bn_Checker_choose 23 = .ok (.aload_n 0, 1) := by decide +kernel
theorem dn_Checker_choose_24 : decode bn_Checker_choose 24 = .ok (.bipush 30, 2) := by decide +kernel
theorem dn_Checker_choose_26 : decode bn_Checker_choose 26 = .ok (.iload_n 1, 1) := by decide +kernel
theorem dn_Checker_choose_27 : decode bn_Checker_choose 27 = .ok (.invokevirtual 115, 3) := by decide +kernel
theorem dn_Checker_choose_30 : decode bn_Checker_choose 30 = .ok (.return_, 1) := by decide +kernel
theorem dn_Checker_choose_31 : decode bn_Checker_choose 31 = .ok (.aload_n 0, 1) := by decide +kernel
theorem dn_Checker_choose_32 : decode bn_Checker_choose 32 = .ok (.aload_n 0, 1) := by decide +kernel
theorem dn_Checker_choose_33 : decode bn_Checker_choose 33 = .ok (.invokevirtual 94, 3) := by decide +kernel
theorem dn_Checker_choose_36 : decode bn_Checker_choose 36 = .ok (.iload_n 3, 1) := by decide +kernel
theorem dn_Checker_choose_37 : decode bn_Checker_choose 37 = .ok (.invokestatic 70, 3) := by decide +kernel
theorem dn_Checker_choose_40 : decode bn_Checker_choose 40 = .ok (.invokevirtual 130, 3) := by decide +kernel
theorem dn_Checker_choose_43 : decode bn_Checker_choose 43 = .ok (.aload_n 0, 1) := by decide +kernel
theorem dn_Checker_choose_44 : decode bn_Checker_choose 44 = .ok (.iload_n 3, 1) := by decide +kernel
theorem dn_Checker_choose_45 : decode bn_Checker_choose 45 = .ok (.invokevirtual 102, 3) := by decide +kernel
theorem dn_Checker_choose_48 : decode bn_Checker_choose 48 = .ok (.aload_n 0, 1) := by decide +kernel
theorem dn_Checker_choose_49 : decode bn_Checker_choose 49 = .ok (.getfield 42, 3) := by decide +kernel
theorem dn_Checker_choose_52 : decode bn_Checker_choose 52 = .ok (.sipush 512, 3) := by decide +kernel
theorem dn_Checker_choose_55 : decode bn_Checker_choose 55 = .ok (.iload_n 3, 1) := by decide +kernel
theorem dn_Checker_choose_56 : decode bn_Checker_choose 56 = .ok (.invokevirtual 106, 3) := by decide +kernel
theorem dn_Checker_choose_59 : decode bn_Checker_choose 59 = .ok (.pop, 1) := by decide +kernel
theorem dn_Checker_choose_60 : decode bn_Checker_choose 60 = .ok (.return_, 1) := by decide +kernel
theorem dn_Checker_declCalled_0 : decode bn_Checker_declCalled 0 = .ok (.iload_n 2, 1) := by decide +kernel
theorem dn_Checker_declCalled_1 : decode bn_Checker_declCalled 1 = .ok (.iconst 0, 1) := by decide +kernel
theorem dn_Checker_declCalled_2 : decode bn_Checker_declCalled 2 = .ok (.invokestatic 70, 3) := by decide +kernel
theorem dn_Checker_declCalled_5 : decode bn_Checker_declCalled 5 = .ok (.istore 4, 2) := by decide +kernel
theorem dn_Checker_declCalled_7 : decode bn_Checker_declCalled 7 = .ok (.iload 4, 2) := by decide +kernel
theorem dn_Checker_declCalled_9 : decode bn_Checker_declCalled 9 = .ok (.iload_n 3, 1) := by decide +kernel
theorem dn_Checker_declCalled_10 : decode bn_Checker_declCalled 10 = .ok (.if_icmp .ge 33, 3) := by decide +kernel
theorem dn_Checker_declCalled_13 : decode bn_Checker_declCalled 13 = .ok (.iload 4, 2) := by decide +kernel
theorem dn_Checker_declCalled_15 : decode bn_Checker_declCalled 15 = .ok (.aload_n 0, 1) := by decide +kernel
theorem dn_Checker_declCalled_16 : decode bn_Checker_declCalled 16 = .ok (.getfield 21, 3) := by decide +kernel
theorem dn_Checker_declCalled_19 : decode bn_Checker_declCalled 19 = .ok (.arraylength, 1) := by decide +kernel
theorem dn_Checker_declCalled_20 : decode bn_Checker_declCalled 20 = .ok (.if_icmp .ge 23, 3) := by decide +kernel
theorem dn_Checker_declCalled_23 : decode bn_Checker_declCalled 23 = .ok (.aload_n 0, 1) := by decide +kernel
theorem dn_Checker_declCalled_24 : decode bn_Checker_declCalled 24 = .ok (.getfield 21, 3) := by decide +kernel
theorem dn_Checker_declCalled_27 : decode bn_Checker_declCalled 27 = .ok (.iload 4, 2) := by decide +kernel
theorem dn_Checker_declCalled_29 : decode bn_Checker_declCalled 29 = .ok (.iaload, 1) := by decide +kernel
theorem dn_Checker_declCalled_30 : decode bn_Checker_declCalled 30 = .ok (.iload_n 1, 1) := by decide +kernel
theorem dn_Checker_declCalled_31 : decode bn_Checker_declCalled 31 = .ok (.if_icmp .ne 6, 3) := by decide +kernel
theorem dn_Checker_declCalled_34 : decode bn_Checker_declCalled 34 = .ok (.iload 4, 2) := by decide +kernel
theorem dn_Checker_declCalled_36 : decode bn_Checker_declCalled 36 = .ok (.ireturn, 1) := by decide +kernel
theorem dn_Checker_declCalled_37 : decode bn_Checker_declCalled 37 = .ok (.iinc 4 1, 3) := by decide +kernel
theorem dn_Checker_declCalled_40 : decode bn_Checker_declCalled 40 = .ok (.goto (-33), 3) := by decide +kernel
theorem dn_Checker_declCalled_43 : decode bn_Checker_declCalled 43 = .ok (.iconst (-1), 1) := by decide +kernel
theorem dn_Checker_declCalled_44 : decode bn_Checker_declCalled 44 = .ok (.ireturn, 1) := by decide +kernel
theorem dn_Checker_expBegins_0 : decode bn_Checker_expBegins 0 = .ok (.aload_n 0, 1) := by decide +kernel
theorem dn_Checker_expBegins_1 : decode bn_Checker_expBegins 1 = .ok (.invokevirtual 82, 3) := by decide +kernel
theorem dn_Checker_expBegins_4 : decode bn_Checker_expBegins 4 = .ok (.ifCond .eq 4, 3) := by decide +kernel
theorem dn_Checker_expBegins_7 : decode bn_Checker_expBegins 7 = .ok (.return_, 1) := by decide +kernel
theorem dn_Checker_expBegins_8 : decode bn_Checker_expBegins 8 = .ok (.aload_n 0, 1) := by decide +kernel
theorem dn_Checker_expBegins_9 : decode bn_Checker_expBegins 9 = .ok (.iconst 0, 1) := by decide +kernel
theorem dn_Checker_expBegins_10 : decode bn_Checker_expBegins 10 = .ok (.putfield 53, 3) := by decide +kernel
theorem dn_Checker_expBegins_13 : decode bn_Checker_expBegins 13 = .ok (.aload_n 0, 1) := by decide +kernel
theorem dn_Checker_expBegins_14 : decode bn_Checker_expBegins 14 = .ok (.aload_n 0, 1) := by decide +kernel
theorem dn_Checker_expBegins_15 : decode bn_Checker_expBegins 15 = .ok (.getfield 42, 3) := by decide +kernel
theorem dn_Checker_expBegins_18 : decode bn_Checker_expBegins 18 = .ok (.getfield 86, 3) := by decide +kernel
theorem dn_Checker_expBegins_21 : decode bn_Checker_expBegins 21 = .ok (.putfield 91, 3) := by decide +kernel
theorem dn_Checker_expBegins_24 : decode bn_Checker_expBegins 24 = .ok (.return_, 1) := by decide +kernel
theorem dn_Checker_expWidth_0 : decode bn_Checker_expWidth 0 = .ok (.aload_n 0, 1) := by decide +kernel
theorem dn_Checker_expWidth_1 : decode bn_Checker_expWidth 1 = .ok (.invokevirtual 94, 3) := by decide +kernel
theorem dn_Checker_expWidth_4 : decode bn_Checker_expWidth 4 = .ok (.ireturn, 1) := by decide +kernel
theorem dn_Checker_index_0 : decode bn_Checker_index 0 = .ok (.aload_n 0, 1) := by decide +kernel
theorem dn_Checker_index_1 : decode bn_Checker_index 1 = .ok (.invokevirtual 82, 3) := by decide +kernel
theorem dn_Checker_index_4 : decode bn_Checker_index 4 = .ok (.ifCond .eq 4, 3) := by decide +kernel
theorem dn_Checker_index_7 : decode bn_Checker_index 7 = .ok (.return_, 1) := by decide +kernel
theorem dn_Checker_index_8 : decode bn_Checker_index 8 = .ok (.aload_n 0, 1) := by decide +kernel
theorem dn_Checker_index_9 : decode bn_Checker_index 9 = .ok (.invokevirtual 94, 3) := by decide +kernel
theorem dn_Checker_index_12 : decode bn_Checker_index 12 = .ok (.aload_n 0, 1) := by decide +kernel
theorem dn_Checker_index_13 : decode bn_Checker_index 13 = .ok (.invokevirtual 94, 3) := by decide +kernel
theorem dn_Checker_index_16 : decode bn_Checker_index 16 = .ok (.invokestatic 70, 3) := by decide +kernel
theorem dn_Checker_index_19 : decode bn_Checker_index 19 = .ok (.istore_n 1, 1) := by decide +kernel
theorem dn_Checker_index_20 : decode bn_Checker_index 20 = .ok (.aload_n 0, 1) := by decide +kernel
theorem dn_Checker_index_21 : decode bn_Checker_index 21 = .ok (.iload_n 1, 1) := by decide +kernel
theorem dn_Checker_index_22 : decode bn_Checker_index 22 = .ok (.invokevirtual 130, 3) := by decide +kernel
theorem dn_Checker_index_25 : decode bn_Checker_index 25 = .ok (.aload_n 0, 1) := by decide +kernel
theorem dn_Checker_index_26 : decode bn_Checker_index 26 = .ok (.iconst 1, 1) := by decide +kernel
theorem dn_Checker_index_27 : decode bn_Checker_index 27 = .ok (.invokevirtual 102, 3) := by decide +kernel
theorem dn_Checker_index_30 : decode bn_Checker_index 30 = .ok (.aload_n 0, 1) := by decide +kernel
theorem dn_Checker_index_31 : decode bn_Checker_index 31 = .ok (.getfield 42, 3) := by decide +kernel
theorem dn_Checker_index_34 : decode bn_Checker_index 34 = .ok (.bipush 91, 2) := by decide +kernel
theorem dn_Checker_index_36 : decode bn_Checker_index 36 = .ok (.iload_n 1, 1) := by decide +kernel
theorem dn_Checker_index_37 : decode bn_Checker_index 37 = .ok (.invokevirtual 106, 3) := by decide +kernel
theorem dn_Checker_index_40 : decode bn_Checker_index 40 = .ok (.pop, 1) := by decide +kernel
theorem dn_Checker_index_41 : decode bn_Checker_index 41 = .ok (.return_, 1) := by decide +kernel
theorem dn_Checker_isOff_0 : decode bn_Checker_isOff 0 = .ok (.aload_n 0, 1) := by decide +kernel
theorem dn_Checker_isOff_1 : decode bn_Checker_isOff 1 = .ok (.getfield 47, 3) := by decide +kernel
theorem dn_Checker_isOff_4 : decode bn_Checker_isOff 4 = .ok (.ifCond .ne 13, 3) := by decide +kernel
theorem dn_Checker_isOff_7 : decode bn_Checker_isOff 7 = .ok (.aload_n 0, 1) := by decide +kernel
theorem dn_Checker_isOff_8 : decode bn_Checker_isOff 8 = .ok (.getfield 27, 3) := by decide +kernel
theorem dn_Checker_isOff_11 : decode bn_Checker_isOff 11 = .ok (.getfield 67, 3) := by decide +kernel
theorem dn_Checker_isOff_14 : decode bn_Checker_isOff 14 = .ok (.ifCond .eq 7, 3) := by decide +kernel
theorem dn_Checker_isOff_17 : decode bn_Checker_isOff 17 = .ok (.iconst 1, 1) := by decide +kernel
theorem dn_Checker_isOff_18 : decode bn_Checker_isOff 18 = .ok (.goto 4, 3) := by decide +kernel
theorem dn_Checker_isOff_21 : decode bn_Checker_isOff 21 = .ok (.iconst 0, 1) := by decide +kernel
theorem dn_Checker_isOff_22 : decode bn_Checker_isOff 22 = .ok (.ireturn, 1) := by decide +kernel
theorem dn_Checker_join_0 : decode bn_Checker_join 0 = .ok (.aload_n 0, 1) := by decide +kernel
theorem dn_Checker_join_1 : decode bn_Checker_join 1 = .ok (.invokevirtual 82, 3) := by decide +kernel
theorem dn_Checker_join_4 : decode bn_Checker_join 4 = .ok (.ifCond .eq 4, 3) := by decide +kernel
theorem dn_Checker_join_7 : decode bn_Checker_join 7 = .ok (.return_, 1) := by decide +kernel
theorem dn_Checker_join_8 : decode bn_Checker_join 8 = .ok (.aload_n 0, 1) := by decide +kernel
theorem dn_Checker_join_9 : decode bn_Checker_join 9 = .ok (.invokevirtual 94, 3) := by decide +kernel
theorem dn_Checker_join_12 : decode bn_Checker_join 12 = .ok (.istore_n 1, 1) := by decide +kernel
theorem dn_Checker_join_13 : decode bn_Checker_join 13 = .ok (.aload_n 0, 1) := by decide +kernel
theorem dn_Checker_join_14 : decode bn_Checker_join 14 = .ok (.aload_n 0, 1) := by decide +kernel
theorem dn_Checker_join_15 : decode bn_Checker_join 15 = .ok (.invokevirtual 94, 3) := by decide +kernel
theorem dn_Checker_join_18 : decode bn_Checker_join 18 = .ok (.iload_n 1, 1) := by decide +kernel
theorem dn_Checker_join_19 : decode bn_Checker_join 19 = .ok (.invokestatic 79, 3) := by decide +kernel
theorem dn_Checker_join_22 : decode bn_Checker_join 22 = .ok (.invokevirtual 102, 3) := by decide +kernel
theorem dn_Checker_join_25 : decode bn_Checker_join 25 = .ok (.aload_n 0, 1) := by decide +kernel
theorem dn_Checker_join_26 : decode bn_Checker_join 26 = .ok (.getfield 42, 3) := by decide +kernel
theorem dn_Checker_join_29 : decode bn_Checker_join 29 = .ok (.bipush 44, 2) := by decide +kernel
theorem dn_Checker_join_31 : decode bn_Checker_join 31 = .ok (.iload_n 1, 1) := by decide +kernel
theorem dn_Checker_join_32 : decode bn_Checker_join 32 = .ok (.invokevirtual 106, 3) := by decide +kernel
theorem dn_Checker_join_35 : decode bn_Checker_join 35 = .ok (.pop, 1) := by decide +kernel
theorem dn_Checker_join_36 : decode bn_Checker_join 36 = .ok (.return_, 1) := by decide +kernel
theorem dn_Checker_literal_0 : decode bn_Checker_literal 0 = .ok (.aload_n 0, 1) := by decide +kernel
theorem dn_Checker_literal_1 : decode bn_Checker_literal 1 = .ok (.invokevirtual 82, 3) := by decide +kernel
theorem dn_Checker_literal_4 : decode bn_Checker_literal 4 = .ok (.ifCond .eq 4, 3) := by decide +kernel
theorem dn_Checker_literal_7 : decode bn_Checker_literal 7 = .ok (.return_, 1) := by decide +kernel
theorem dn_Checker_literal_8 : decode bn_Checker_literal 8 = .ok (.aload_n 0, 1) := by decide +kernel
theorem dn_Checker_literal_9 : decode bn_Checker_literal 9 = .ok (.aload_n 0, 1) := by decide +kernel
theorem dn_Checker_literal_10 : decode bn_Checker_literal 10 = .ok (.getfield 42, 3) := by decide +kernel
theorem dn_Checker_literal_13 : decode bn_Checker_literal 13 = .ok (.iload_n 1, 1) := by decide +kernel
theorem dn_Checker_literal_14 : decode bn_Checker_literal 14 = .ok (.invokevirtual 98, 3) := by decide +kernel
theorem dn_Checker_literal_17 : decode bn_Checker_literal 17 = .ok (.invokevirtual 102, 3) := by decide +kernel
theorem dn_Checker_literal_20 : decode bn_Checker_literal 20 = .ok (.aload_n 0, 1) := by decide +kernel
theorem dn_Checker_literal_21 : decode bn_Checker_literal 21 = .ok (.getfield 42, 3) := by decide +kernel
theorem dn_Checker_literal_24 : decode bn_Checker_literal 24 = .ok (.sipush 513, 3) := by decide +kernel
theorem dn_Checker_literal_27 : decode bn_Checker_literal 27 = .ok (.iload_n 1, 1) := by decide +kernel
theorem dn_Checker_literal_28 : decode bn_Checker_literal 28 = .ok (.invokevirtual 106, 3) := by decide +kernel
theorem dn_Checker_literal_31 : decode bn_Checker_literal 31 = .ok (.pop, 1) := by decide +kernel
theorem dn_Checker_literal_32 : decode bn_Checker_literal 32 = .ok (.return_, 1) := by decide +kernel
theorem dn_Checker_localOf_0 : decode bn_Checker_localOf 0 = .ok (.iload_n 1, 1) := by decide +kernel
theorem dn_Checker_localOf_1 : decode bn_Checker_localOf 1 = .ok (.aload_n 0, 1) := by decide +kernel
theorem dn_Checker_localOf_2 : decode bn_Checker_localOf 2 = .ok (.getfield 61, 3) := by decide +kernel
theorem dn_Checker_localOf_5 : decode bn_Checker_localOf 5 = .ok (.isub, 1) := by decide +kernel
theorem dn_Checker_localOf_6 : decode bn_Checker_localOf 6 = .ok (.ireturn, 1) := by decide +kernel
theorem dn_Checker_lowOf_0 : decode bn_Checker_lowOf 0 = .ok (.iload_n 0, 1) := by decide +kernel
theorem dn_Checker_lowOf_1 : decode bn_Checker_lowOf 1 = .ok (.ldc 123, 2) := by decide +kernel
theorem dn_Checker_lowOf_3 : decode bn_Checker_lowOf 3 = .ok (.iand, 1) := by decide +kernel
theorem dn_Checker_lowOf_4 : decode bn_Checker_lowOf 4 = .ok (.ireturn, 1) := by decide +kernel
theorem dn_Checker_mean_0 : decode bn_Checker_mean 0 = .ok (.iload_n 1, 1) := by decide +kernel
theorem dn_Checker_mean_1 : decode bn_Checker_mean 1 = .ok (.ifCond .lt 10, 3) := by decide +kernel
theorem dn_Checker_mean_4 : decode bn_Checker_mean 4 = .ok (.iload_n 1, 1) := by decide +kernel
theorem dn_Checker_mean_5 : decode bn_Checker_mean 5 = .ok (.sipush 19830, 3) := by decide +kernel
theorem dn_Checker_mean_8 : decode bn_Checker_mean 8 = .ok (.if_icmp .lt 4, 3) := by decide +kernel
theorem dn_Checker_mean_11 : decode bn_Checker_mean 11 = .ok (.return_, 1) := by decide +kernel
theorem dn_Checker_mean_12 : decode bn_Checker_mean 12 = .ok (.aload_n 0, 1) := by decide +kernel
theorem dn_Checker_mean_13 : decode bn_Checker_mean 13 = .ok (.getfield 18, 3) := by decide +kernel
theorem dn_Checker_mean_16 : decode bn_Checker_mean 16 = .ok (.iload_n 1, 1) := by decide +kernel
theorem dn_Checker_mean_17 : decode bn_Checker_mean 17 = .ok (.aload_n 0, 1) := by decide +kernel
theorem dn_Checker_mean_18 : decode bn_Checker_mean 18 = .ok (.getfield 43, 3) := by decide +kernel
theorem dn_Checker_mean_21 : decode bn_Checker_mean 21 = .ok (.iastore, 1) := by decide +kernel
theorem dn_Checker_mean_22 : decode bn_Checker_mean 22 = .ok (.aload_n 0, 1) := by decide +kernel
theorem dn_Checker_mean_23 : decode bn_Checker_mean 23 = .ok (.getfield 15, 3) := by decide +kernel
theorem dn_Checker_mean_26 : decode bn_Checker_mean 26 = .ok (.iload_n 1, 1) := by decide +kernel
theorem dn_Checker_mean_27 : decode bn_Checker_mean 27 = .ok (.iload_n 2, 1) := by decide +kernel
theorem dn_Checker_mean_28 : decode bn_Checker_mean 28 = .ok (.iastore, 1) := by decide +kernel
theorem dn_Checker_mean_29 : decode bn_Checker_mean 29 = .ok (.iload_n 2, 1) := by decide +kernel
theorem dn_Checker_mean_30 : decode bn_Checker_mean 30 = .ok (.ifCond .lt 19, 3) := by decide +kernel
theorem dn_Checker_mean_33 : decode bn_Checker_mean 33 = .ok (.iload_n 2, 1) := by decide +kernel
theorem dn_Checker_mean_34 : decode bn_Checker_mean 34 = .ok (.aload_n 0, 1) := by decide +kernel
theorem dn_Checker_mean_35 : decode bn_Checker_mean 35 = .ok (.getfield 21, 3) := by decide +kernel
theorem dn_Checker_mean_38 : decode bn_Checker_mean 38 = .ok (.arraylength, 1) := by decide +kernel
theorem dn_Checker_mean_39 : decode bn_Checker_mean 39 = .ok (.if_icmp .ge 10, 3) := by decide +kernel
theorem dn_Checker_mean_42 : decode bn_Checker_mean 42 = .ok (.aload_n 0, 1) := by decide +kernel
theorem dn_Checker_mean_43 : decode bn_Checker_mean 43 = .ok (.getfield 21, 3) := by decide +kernel
theorem dn_Checker_mean_46 : decode bn_Checker_mean 46 = .ok (.iload_n 2, 1) := by decide +kernel
theorem dn_Checker_mean_47 : decode bn_Checker_mean 47 = .ok (.iload_n 1, 1) := by decide +kernel
theorem dn_Checker_mean_48 : decode bn_Checker_mean 48 = .ok (.iastore, 1) := by decide +kernel
theorem dn_Checker_mean_49 : decode bn_Checker_mean 49 = .ok (.return_, 1) := by decide +kernel
theorem dn_Checker_meantBy_0 : decode bn_Checker_meantBy 0 = .ok (.iload_n 1, 1) := by decide +kernel
theorem dn_Checker_meantBy_1 : decode bn_Checker_meantBy 1 = .ok (.ifCond .lt 10, 3) := by decide +kernel
theorem dn_Checker_meantBy_4 : decode bn_Checker_meantBy 4 = .ok (.iload_n 1, 1) := by decide +kernel
theorem dn_Checker_meantBy_5 : decode bn_Checker_meantBy 5 = .ok (.sipush 19830, 3) := by decide +kernel
theorem dn_Checker_meantBy_8 : decode bn_Checker_meantBy 8 = .ok (.if_icmp .lt 5, 3) := by decide +kernel
theorem dn_Checker_meantBy_11 : decode bn_Checker_meantBy 11 = .ok (.iconst (-1), 1) := by decide +kernel
theorem dn_Checker_meantBy_12 : decode bn_Checker_meantBy 12 = .ok (.ireturn, 1) := by decide +kernel
theorem dn_Checker_meantBy_13 : decode bn_Checker_meantBy 13 = .ok (.aload_n 0, 1) := by decide +kernel
theorem dn_Checker_meantBy_14 : decode bn_Checker_meantBy 14 = .ok (.getfield 18, 3) := by decide +kernel
theorem dn_Checker_meantBy_17 : decode bn_Checker_meantBy 17 = .ok (.iload_n 1, 1) := by decide +kernel
theorem dn_Checker_meantBy_18 : decode bn_Checker_meantBy 18 = .ok (.iaload, 1) := by decide +kernel
theorem dn_Checker_meantBy_19 : decode bn_Checker_meantBy 19 = .ok (.aload_n 0, 1) := by decide +kernel
theorem dn_Checker_meantBy_20 : decode bn_Checker_meantBy 20 = .ok (.getfield 43, 3) := by decide +kernel
theorem dn_Checker_meantBy_23 : decode bn_Checker_meantBy 23 = .ok (.if_icmp .ne 12, 3) := by decide +kernel
theorem dn_Checker_meantBy_26 : decode bn_Checker_meantBy 26 = .ok (.aload_n 0, 1) := by decide +kernel
theorem dn_Checker_meantBy_27 : decode bn_Checker_meantBy 27 = .ok (.getfield 15, 3) := by decide +kernel
theorem dn_Checker_meantBy_30 : decode bn_Checker_meantBy 30 = .ok (.iload_n 1, 1) := by decide +kernel
theorem dn_Checker_meantBy_31 : decode bn_Checker_meantBy 31 = .ok (.iaload, 1) := by decide +kernel
theorem dn_Checker_meantBy_32 : decode bn_Checker_meantBy 32 = .ok (.goto 4, 3) := by decide +kernel
theorem dn_Checker_meantBy_35 : decode bn_Checker_meantBy 35 = .ok (.iconst (-1), 1) := by decide +kernel
theorem dn_Checker_meantBy_36 : decode bn_Checker_meantBy 36 = .ok (.ireturn, 1) := by decide +kernel
theorem dn_Checker_moduleBegins_0 : decode bn_Checker_moduleBegins 0 = .ok (.aload_n 0, 1) := by decide +kernel
theorem dn_Checker_moduleBegins_1 : decode bn_Checker_moduleBegins 1 = .ok (.dup, 1) := by decide +kernel
theorem dn_Checker_moduleBegins_2 : decode bn_Checker_moduleBegins 2 = .ok (.getfield 43, 3) := by decide +kernel
theorem dn_Checker_moduleBegins_5 : decode bn_Checker_moduleBegins 5 = .ok (.iconst 1, 1) := by decide +kernel
theorem dn_Checker_moduleBegins_6 : decode bn_Checker_moduleBegins 6 = .ok (.iadd, 1) := by decide +kernel
theorem dn_Checker_moduleBegins_7 : decode bn_Checker_moduleBegins 7 = .ok (.putfield 43, 3) := by decide +kernel
theorem dn_Checker_moduleBegins_10 : decode bn_Checker_moduleBegins 10 = .ok (.iload_n 1, 1) := by decide +kernel
theorem dn_Checker_moduleBegins_11 : decode bn_Checker_moduleBegins 11 = .ok (.ifCond .lt 22, 3) := by decide +kernel
theorem dn_Checker_moduleBegins_14 : decode bn_Checker_moduleBegins 14 = .ok (.iload_n 1, 1) := by decide +kernel
theorem dn_Checker_moduleBegins_15 : decode bn_Checker_moduleBegins 15 = .ok (.aload_n 0, 1) := by decide +kernel
theorem dn_Checker_moduleBegins_16 : decode bn_Checker_moduleBegins 16 = .ok (.getfield 9, 3) := by decide +kernel
theorem dn_Checker_moduleBegins_19 : decode bn_Checker_moduleBegins 19 = .ok (.arraylength, 1) := by decide +kernel
theorem dn_Checker_moduleBegins_20 : decode bn_Checker_moduleBegins 20 = .ok (.if_icmp .ge 13, 3) := by decide +kernel
theorem dn_Checker_moduleBegins_23 : decode bn_Checker_moduleBegins 23 = .ok (.aload_n 0, 1) := by decide +kernel
theorem dn_Checker_moduleBegins_24 : decode bn_Checker_moduleBegins 24 = .ok (.getfield 9, 3) := by decide +kernel
theorem dn_Checker_moduleBegins_27 : decode bn_Checker_moduleBegins 27 = .ok (.iload_n 1, 1) := by decide +kernel
theorem dn_Checker_moduleBegins_28 : decode bn_Checker_moduleBegins 28 = .ok (.aload_n 0, 1) := by decide +kernel
theorem dn_Checker_moduleBegins_29 : decode bn_Checker_moduleBegins 29 = .ok (.getfield 43, 3) := by decide +kernel
theorem dn_Checker_moduleBegins_32 : decode bn_Checker_moduleBegins 32 = .ok (.iastore, 1) := by decide +kernel
theorem dn_Checker_moduleBegins_33 : decode bn_Checker_moduleBegins 33 = .ok (.aload_n 0, 1) := by decide +kernel
theorem dn_Checker_moduleBegins_34 : decode bn_Checker_moduleBegins 34 = .ok (.aload_n 0, 1) := by decide +kernel
theorem dn_Checker_moduleBegins_35 : decode bn_Checker_moduleBegins 35 = .ok (.getfield 37, 3) := by decide +kernel
theorem dn_Checker_moduleBegins_38 : decode bn_Checker_moduleBegins 38 = .ok (.getfield 56, 3) := by decide +kernel
theorem dn_Checker_moduleBegins_41 : decode bn_Checker_moduleBegins 41 = .ok (.putfield 61, 3) := by decide +kernel
theorem dn_Checker_moduleBegins_44 : decode bn_Checker_moduleBegins 44 = .ok (.aload_n 0, 1) := by decide +kernel
theorem dn_Checker_moduleBegins_45 : decode bn_Checker_moduleBegins 45 = .ok (.iconst 0, 1) := by decide +kernel
theorem dn_Checker_moduleBegins_46 : decode bn_Checker_moduleBegins 46 = .ok (.putfield 64, 3) := by decide +kernel
theorem dn_Checker_moduleBegins_49 : decode bn_Checker_moduleBegins 49 = .ok (.return_, 1) := by decide +kernel
theorem dn_Checker_moduleOf_0 : decode bn_Checker_moduleOf 0 = .ok (.iload_n 1, 1) := by decide +kernel
theorem dn_Checker_moduleOf_1 : decode bn_Checker_moduleOf 1 = .ok (.ifCond .lt 21, 3) := by decide +kernel
theorem dn_Checker_moduleOf_4 : decode bn_Checker_moduleOf 4 = .ok (.iload_n 1, 1) := by decide +kernel
theorem dn_Checker_moduleOf_5 : decode bn_Checker_moduleOf 5 = .ok (.aload_n 0, 1) := by decide +kernel
theorem dn_Checker_moduleOf_6 : decode bn_Checker_moduleOf 6 = .ok (.getfield 9, 3) := by decide +kernel
theorem dn_Checker_moduleOf_9 : decode bn_Checker_moduleOf 9 = .ok (.arraylength, 1) := by decide +kernel
theorem dn_Checker_moduleOf_10 : decode bn_Checker_moduleOf 10 = .ok (.if_icmp .ge 12, 3) := by decide +kernel
theorem dn_Checker_moduleOf_13 : decode bn_Checker_moduleOf 13 = .ok (.aload_n 0, 1) := by decide +kernel
theorem dn_Checker_moduleOf_14 : decode bn_Checker_moduleOf 14 = .ok (.getfield 9, 3) := by decide +kernel
theorem dn_Checker_moduleOf_17 : decode bn_Checker_moduleOf 17 = .ok (.iload_n 1, 1) := by decide +kernel
theorem dn_Checker_moduleOf_18 : decode bn_Checker_moduleOf 18 = .ok (.iaload, 1) := by decide +kernel
theorem dn_Checker_moduleOf_19 : decode bn_Checker_moduleOf 19 = .ok (.goto 4, 3) := by decide +kernel
theorem dn_Checker_moduleOf_22 : decode bn_Checker_moduleOf 22 = .ok (.iconst (-1), 1) := by decide +kernel
theorem dn_Checker_moduleOf_23 : decode bn_Checker_moduleOf 23 = .ok (.ireturn, 1) := by decide +kernel
theorem dn_Checker_name_0 : decode bn_Checker_name 0 = .ok (.aload_n 0, 1) := by decide +kernel
theorem dn_Checker_name_1 : decode bn_Checker_name 1 = .ok (.invokevirtual 82, 3) := by decide +kernel
theorem dn_Checker_name_4 : decode bn_Checker_name 4 = .ok (.ifCond .eq 4, 3) := by decide +kernel
theorem dn_Checker_name_7 : decode bn_Checker_name 7 = .ok (.return_, 1) := by decide +kernel
theorem dn_Checker_name_8 : decode bn_Checker_name 8 = .ok (.aload_n 0, 1) := by decide +kernel
theorem dn_Checker_name_9 : decode bn_Checker_name 9 = .ok (.iload_n 1, 1) := by decide +kernel
theorem dn_Checker_name_10 : decode bn_Checker_name 10 = .ok (.invokevirtual 109, 3) := by decide +kernel
theorem dn_Checker_name_13 : decode bn_Checker_name 13 = .ok (.istore_n 3, 1) := by decide +kernel
theorem dn_Checker_name_14 : decode bn_Checker_name 14 = .ok (.aload_n 0, 1) := by decide +kernel
theorem dn_Checker_name_15 : decode bn_Checker_name 15 = .ok (.iload_n 3, 1) := by decide +kernel
theorem dn_Checker_name_16 : decode bn_Checker_name 16 = .ok (.invokevirtual 112, 3) := by decide +kernel
theorem dn_Checker_name_19 : decode bn_Checker_name 19 = .ok (.iconst (-1), 1) := by decide +kernel
theorem dn_Checker_name_20 : decode bn_Checker_name 20 = .ok (.if_icmp .ne 11, 3) := by decide +kernel
theorem dn_Checker_name_23 : decode bn_Checker_name 23 = .ok (.aload_n 0, 1) := by decide +kernel
theorem dn_Checker_name_24 : decode bn_Checker_name 24 = .ok (.bipush 22, 2) := by decide +kernel
theorem dn_Checker_name_26 : decode bn_Checker_name 26 = .ok (.iload_n 2, 1) := by decide +kernel
theorem dn_Checker_name_27 : decode bn_Checker_name 27 = .ok (.invokevirtual 115, 3) := by decide +kernel
theorem dn_Checker_name_30 : decode bn_Checker_name 30 = .ok (.return_, 1) := by decide +kernel
theorem dn_Checker_name_31 : decode bn_Checker_name 31 = .ok (.aload_n 0, 1) := by decide +kernel
theorem dn_Checker_name_32 : decode bn_Checker_name 32 = .ok (.aload_n 0, 1) := by decide +kernel
theorem dn_Checker_name_33 : decode bn_Checker_name 33 = .ok (.getfield 37, 3) := by decide +kernel
theorem dn_Checker_name_36 : decode bn_Checker_name 36 = .ok (.getfield 119, 3) := by decide +kernel
theorem dn_Checker_name_39 : decode bn_Checker_name 39 = .ok (.iload_n 3, 1) := by decide +kernel
theorem dn_Checker_name_40 : decode bn_Checker_name 40 = .ok (.iaload, 1) := by decide +kernel
theorem dn_Checker_name_41 : decode bn_Checker_name 41 = .ok (.invokevirtual 102, 3) := by decide +kernel
theorem dn_Checker_name_44 : decode bn_Checker_name 44 = .ok (.aload_n 0, 1) := by decide +kernel
theorem dn_Checker_name_45 : decode bn_Checker_name 45 = .ok (.getfield 42, 3) := by decide +kernel
theorem dn_Checker_name_48 : decode bn_Checker_name 48 = .ok (.sipush 514, 3) := by decide +kernel
theorem dn_Checker_name_51 : decode bn_Checker_name 51 = .ok (.aload_n 0, 1) := by decide +kernel
theorem dn_Checker_name_52 : decode bn_Checker_name 52 = .ok (.iload_n 3, 1) := by decide +kernel
theorem dn_Checker_name_53 : decode bn_Checker_name 53 = .ok (.invokevirtual 120, 3) := by decide +kernel
theorem dn_Checker_name_56 : decode bn_Checker_name 56 = .ok (.invokevirtual 106, 3) := by decide +kernel
theorem dn_Checker_name_59 : decode bn_Checker_name 59 = .ok (.pop, 1) := by decide +kernel
theorem dn_Checker_name_60 : decode bn_Checker_name 60 = .ok (.return_, 1) := by decide +kernel
theorem dn_Checker_part_0 : decode bn_Checker_part 0 = .ok (.aload_n 0, 1) := by decide +kernel
theorem dn_Checker_part_1 : decode bn_Checker_part 1 = .ok (.invokevirtual 82, 3) := by decide +kernel
theorem dn_Checker_part_4 : decode bn_Checker_part 4 = .ok (.ifCond .eq 4, 3) := by decide +kernel
theorem dn_Checker_part_7 : decode bn_Checker_part 7 = .ok (.return_, 1) := by decide +kernel
theorem dn_Checker_part_8 : decode bn_Checker_part 8 = .ok (.iload_n 1, 1) := by decide +kernel
theorem dn_Checker_part_9 : decode bn_Checker_part 9 = .ok (.aload_n 0, 1) := by decide +kernel
theorem dn_Checker_part_10 : decode bn_Checker_part 10 = .ok (.invokevirtual 94, 3) := by decide +kernel
theorem dn_Checker_part_13 : decode bn_Checker_part 13 = .ok (.invokestatic 124, 3) := by decide +kernel
theorem dn_Checker_part_16 : decode bn_Checker_part 16 = .ok (.istore_n 3, 1) := by decide +kernel
theorem dn_Checker_part_17 : decode bn_Checker_part 17 = .ok (.iload_n 3, 1) := by decide +kernel
theorem dn_Checker_part_18 : decode bn_Checker_part 18 = .ok (.iconst (-1), 1) := by decide +kernel
theorem dn_Checker_part_19 : decode bn_Checker_part 19 = .ok (.if_icmp .ne 11, 3) := by decide +kernel
theorem dn_Checker_part_22 : decode bn_Checker_part 22 = .ok (.aload_n 0, 1) := by decide +kernel
theorem dn_Checker_part_23 : decode bn_Checker_part 23 = .ok (.bipush 30, 2) := by decide +kernel
theorem dn_Checker_part_25 : decode bn_Checker_part 25 = .ok (.iload_n 2, 1) := by decide +kernel
theorem dn_Checker_part_26 : decode bn_Checker_part 26 = .ok (.invokevirtual 115, 3) := by decide +kernel
theorem dn_Checker_part_29 : decode bn_Checker_part 29 = .ok (.return_, 1) := by decide +kernel
theorem dn_Checker_part_30 : decode bn_Checker_part 30 = .ok (.aload_n 0, 1) := by decide +kernel
theorem dn_Checker_part_31 : decode bn_Checker_part 31 = .ok (.iload_n 3, 1) := by decide +kernel
theorem dn_Checker_part_32 : decode bn_Checker_part 32 = .ok (.invokevirtual 102, 3) := by decide +kernel
theorem dn_Checker_part_35 : decode bn_Checker_part 35 = .ok (.aload_n 0, 1) := by decide +kernel
theorem dn_Checker_part_36 : decode bn_Checker_part 36 = .ok (.getfield 42, 3) := by decide +kernel
theorem dn_Checker_part_39 : decode bn_Checker_part 39 = .ok (.sipush 347, 3) := by decide +kernel
theorem dn_Checker_part_42 : decode bn_Checker_part 42 = .ok (.iload_n 1, 1) := by decide +kernel
theorem dn_Checker_part_43 : decode bn_Checker_part 43 = .ok (.invokestatic 127, 3) := by decide +kernel
theorem dn_Checker_part_46 : decode bn_Checker_part 46 = .ok (.bipush 8, 2) := by decide +kernel
theorem dn_Checker_part_48 : decode bn_Checker_part 48 = .ok (.ishl, 1) := by decide +kernel
theorem dn_Checker_part_49 : decode bn_Checker_part 49 = .ok (.iload_n 3, 1) := by decide +kernel
theorem dn_Checker_part_50 : decode bn_Checker_part 50 = .ok (.ior, 1) := by decide +kernel
theorem dn_Checker_part_51 : decode bn_Checker_part 51 = .ok (.invokevirtual 106, 3) := by decide +kernel
theorem dn_Checker_part_54 : decode bn_Checker_part 54 = .ok (.pop, 1) := by decide +kernel
theorem dn_Checker_part_55 : decode bn_Checker_part 55 = .ok (.return_, 1) := by decide +kernel
theorem dn_Checker_partWidth_0 : decode bn_Checker_partWidth 0 = .ok (.iload_n 0, 1) := by decide +kernel
theorem dn_Checker_partWidth_1 : decode bn_Checker_partWidth 1 = .ok (.bipush 16, 2) := by decide +kernel
theorem dn_Checker_partWidth_3 : decode bn_Checker_partWidth 3 = .ok (.iushr, 1) := by decide +kernel
theorem dn_Checker_partWidth_4 : decode bn_Checker_partWidth 4 = .ok (.istore_n 2, 1) := by decide +kernel
theorem dn_Checker_partWidth_5 : decode bn_Checker_partWidth 5 = .ok (.iload_n 0, 1) := by decide +kernel
theorem dn_Checker_partWidth_6 : decode bn_Checker_partWidth 6 = .ok (.ldc 123, 2) := by decide +kernel
theorem dn_Checker_partWidth_8 : decode bn_Checker_partWidth 8 = .ok (.iand, 1) := by decide +kernel
theorem dn_Checker_partWidth_9 : decode bn_Checker_partWidth 9 = .ok (.istore_n 3, 1) := by decide +kernel
theorem dn_Checker_partWidth_10 : decode bn_Checker_partWidth 10 = .ok (.iload_n 2, 1) := by decide +kernel
theorem dn_Checker_partWidth_11 : decode bn_Checker_partWidth 11 = .ok (.iload_n 3, 1) := by decide +kernel
theorem dn_Checker_partWidth_12 : decode bn_Checker_partWidth 12 = .ok (.if_icmp .lt 8, 3) := by decide +kernel
theorem dn_Checker_partWidth_15 : decode bn_Checker_partWidth 15 = .ok (.iload_n 2, 1) := by decide +kernel
theorem dn_Checker_partWidth_16 : decode bn_Checker_partWidth 16 = .ok (.iload_n 1, 1) := by decide +kernel
theorem dn_Checker_partWidth_17 : decode bn_Checker_partWidth 17 = .ok (.if_icmp .lt 7, 3) := by decide +kernel
theorem dn_Checker_partWidth_20 : decode bn_Checker_partWidth 20 = .ok (.iconst (-1), 1) := by decide +kernel
theorem dn_Checker_partWidth_21 : decode bn_Checker_partWidth 21 = .ok (.goto 8, 3) := by decide +kernel
theorem dn_Checker_partWidth_24 : decode bn_Checker_partWidth 24 = .ok (.iload_n 2, 1) := by decide +kernel
theorem dn_Checker_partWidth_25 : decode bn_Checker_partWidth 25 = .ok (.iload_n 3, 1) := by decide +kernel
theorem dn_Checker_partWidth_26 : decode bn_Checker_partWidth 26 = .ok (.isub, 1) := by decide +kernel
theorem dn_Checker_partWidth_27 : decode bn_Checker_partWidth 27 = .ok (.iconst 1, 1) := by decide +kernel
theorem dn_Checker_partWidth_28 : decode bn_Checker_partWidth 28 = .ok (.iadd, 1) := by decide +kernel
theorem dn_Checker_partWidth_29 : decode bn_Checker_partWidth 29 = .ok (.ireturn, 1) := by decide +kernel
theorem dn_Checker_pop_0 : decode bn_Checker_pop 0 = .ok (.aload_n 0, 1) := by decide +kernel
theorem dn_Checker_pop_1 : decode bn_Checker_pop 1 = .ok (.getfield 53, 3) := by decide +kernel
theorem dn_Checker_pop_4 : decode bn_Checker_pop 4 = .ok (.ifCond .ne 5, 3) := by decide +kernel
theorem dn_Checker_pop_7 : decode bn_Checker_pop 7 = .ok (.iconst 1, 1) := by decide +kernel
theorem dn_Checker_pop_8 : decode bn_Checker_pop 8 = .ok (.ireturn, 1) := by decide +kernel
theorem dn_Checker_pop_9 : decode bn_Checker_pop 9 = .ok (.aload_n 0, 1) := by decide +kernel
theorem dn_Checker_pop_10 : decode bn_Checker_pop 10 = .ok (.dup, 1) := by decide +kernel
theorem dn_Checker_pop_11 : decode bn_Checker_pop 11 = .ok (.getfield 53, 3) := by decide +kernel
theorem dn_Checker_pop_14 : decode bn_Checker_pop 14 = .ok (.iconst 1, 1) := by decide +kernel
theorem dn_Checker_pop_15 : decode bn_Checker_pop 15 = .ok (.isub, 1) := by decide +kernel
theorem dn_Checker_pop_16 : decode bn_Checker_pop 16 = .ok (.putfield 53, 3) := by decide +kernel
theorem dn_Checker_pop_19 : decode bn_Checker_pop 19 = .ok (.aload_n 0, 1) := by decide +kernel
theorem dn_Checker_pop_20 : decode bn_Checker_pop 20 = .ok (.getfield 24, 3) := by decide +kernel
theorem dn_Checker_pop_23 : decode bn_Checker_pop 23 = .ok (.aload_n 0, 1) := by decide +kernel
theorem dn_Checker_pop_24 : decode bn_Checker_pop 24 = .ok (.getfield 53, 3) := by decide +kernel
theorem dn_Checker_pop_27 : decode bn_Checker_pop 27 = .ok (.iaload, 1) := by decide +kernel
theorem dn_Checker_pop_28 : decode bn_Checker_pop 28 = .ok (.ireturn, 1) := by decide +kernel
theorem dn_Checker_push_0 : decode bn_Checker_push 0 = .ok (.aload_n 0, 1) := by decide +kernel
theorem dn_Checker_push_1 : decode bn_Checker_push 1 = .ok (.getfield 53, 3) := by decide +kernel
theorem dn_Checker_push_4 : decode bn_Checker_push 4 = .ok (.aload_n 0, 1) := by decide +kernel
theorem dn_Checker_push_5 : decode bn_Checker_push 5 = .ok (.getfield 24, 3) := by decide +kernel
theorem dn_Checker_push_8 : decode bn_Checker_push 8 = .ok (.arraylength, 1) := by decide +kernel
theorem dn_Checker_push_9 : decode bn_Checker_push 9 = .ok (.if_icmp .lt 4, 3) := by decide +kernel
theorem dn_Checker_push_12 : decode bn_Checker_push 12 = .ok (.return_, 1) := by decide +kernel
theorem dn_Checker_push_13 : decode bn_Checker_push 13 = .ok (.aload_n 0, 1) := by decide +kernel
theorem dn_Checker_push_14 : decode bn_Checker_push 14 = .ok (.getfield 24, 3) := by decide +kernel
theorem dn_Checker_push_17 : decode bn_Checker_push 17 = .ok (.aload_n 0, 1) := by decide +kernel
theorem dn_Checker_push_18 : decode bn_Checker_push 18 = .ok (.getfield 53, 3) := by decide +kernel
theorem dn_Checker_push_21 : decode bn_Checker_push 21 = .ok (.iload_n 1, 1) := by decide +kernel
theorem dn_Checker_push_22 : decode bn_Checker_push 22 = .ok (.iastore, 1) := by decide +kernel
theorem dn_Checker_push_23 : decode bn_Checker_push 23 = .ok (.aload_n 0, 1) := by decide +kernel
theorem dn_Checker_push_24 : decode bn_Checker_push 24 = .ok (.dup, 1) := by decide +kernel
theorem dn_Checker_push_25 : decode bn_Checker_push 25 = .ok (.getfield 53, 3) := by decide +kernel
theorem dn_Checker_push_28 : decode bn_Checker_push 28 = .ok (.iconst 1, 1) := by decide +kernel
theorem dn_Checker_push_29 : decode bn_Checker_push 29 = .ok (.iadd, 1) := by decide +kernel
theorem dn_Checker_push_30 : decode bn_Checker_push 30 = .ok (.putfield 53, 3) := by decide +kernel
theorem dn_Checker_push_33 : decode bn_Checker_push 33 = .ok (.return_, 1) := by decide +kernel
theorem dn_Checker_refuse_0 : decode bn_Checker_refuse 0 = .ok (.aload_n 0, 1) := by decide +kernel
theorem dn_Checker_refuse_1 : decode bn_Checker_refuse 1 = .ok (.getfield 47, 3) := by decide +kernel
theorem dn_Checker_refuse_4 : decode bn_Checker_refuse 4 = .ok (.ifCond .eq 4, 3) := by decide +kernel
theorem dn_Checker_refuse_7 : decode bn_Checker_refuse 7 = .ok (.return_, 1) := by decide +kernel
theorem dn_Checker_refuse_8 : decode bn_Checker_refuse 8 = .ok (.aload_n 0, 1) := by decide +kernel
theorem dn_Checker_refuse_9 : decode bn_Checker_refuse 9 = .ok (.iload_n 1, 1) := by decide +kernel
theorem dn_Checker_refuse_10 : decode bn_Checker_refuse 10 = .ok (.putfield 47, 3) := by decide +kernel
theorem dn_Checker_refuse_13 : decode bn_Checker_refuse 13 = .ok (.aload_n 0, 1) := by decide +kernel
theorem dn_Checker_refuse_14 : decode bn_Checker_refuse 14 = .ok (.iload_n 2, 1) := by decide +kernel
theorem dn_Checker_refuse_15 : decode bn_Checker_refuse 15 = .ok (.putfield 50, 3) := by decide +kernel
theorem dn_Checker_refuse_18 : decode bn_Checker_refuse 18 = .ok (.return_, 1) := by decide +kernel
theorem dn_Checker_repeat_0 : decode bn_Checker_repeat 0 = .ok (.aload_n 0, 1) := by decide +kernel
theorem dn_Checker_repeat_1 : decode bn_Checker_repeat 1 = .ok (.invokevirtual 82, 3) := by decide +kernel
theorem dn_Checker_repeat_4 : decode bn_Checker_repeat 4 = .ok (.ifCond .eq 4, 3) := by decide +kernel
theorem dn_Checker_repeat_7 : decode bn_Checker_repeat 7 = .ok (.return_, 1) := by decide +kernel
theorem dn_Checker_repeat_8 : decode bn_Checker_repeat 8 = .ok (.aload_n 0, 1) := by decide +kernel
theorem dn_Checker_repeat_9 : decode bn_Checker_repeat 9 = .ok (.invokevirtual 94, 3) := by decide +kernel
theorem dn_Checker_repeat_12 : decode bn_Checker_repeat 12 = .ok (.istore_n 3, 1) := by decide +kernel
theorem dn_Checker_repeat_13 : decode bn_Checker_repeat 13 = .ok (.iload_n 3, 1) := by decide +kernel
theorem dn_Checker_repeat_14 : decode bn_Checker_repeat 14 = .ok (.iload_n 1, 1) := by decide +kernel
theorem dn_Checker_repeat_15 : decode bn_Checker_repeat 15 = .ok (.imul, 1) := by decide +kernel
theorem dn_Checker_repeat_16 : decode bn_Checker_repeat 16 = .ok (.istore 4, 2) := by decide +kernel
theorem dn_Checker_repeat_18 : decode bn_Checker_repeat 18 = .ok (.iload 4, 2) := by decide +kernel
theorem dn_Checker_repeat_20 : decode bn_Checker_repeat 20 = .ok (.iconst 1, 1) := by decide +kernel
theorem dn_Checker_repeat_21 : decode bn_Checker_repeat 21 = .ok (.if_icmp .lt 10, 3) := by decide +kernel
theorem dn_Checker_repeat_24 : decode bn_Checker_repeat 24 = .ok (.iload 4, 2) := by decide +kernel
theorem dn_Checker_repeat_26 : decode bn_Checker_repeat 26 = .ok (.bipush 64, 2) := by decide +kernel
theorem dn_Checker_repeat_28 : decode bn_Checker_repeat 28 = .ok (.if_icmp .le 11, 3) := by decide +kernel
theorem dn_Checker_repeat_31 : decode bn_Checker_repeat 31 = .ok (.aload_n 0, 1) := by decide +kernel
theorem dn_Checker_repeat_32 : decode bn_Checker_repeat 32 = .ok (.bipush 30, 2) := by decide +kernel
theorem dn_Checker_repeat_34 : decode bn_Checker_repeat 34 = .ok (.iload_n 2, 1) := by decide +kernel
theorem dn_Checker_repeat_35 : decode bn_Checker_repeat 35 = .ok (.invokevirtual 115, 3) := by decide +kernel
theorem dn_Checker_repeat_38 : decode bn_Checker_repeat 38 = .ok (.return_, 1) := by decide +kernel
theorem dn_Checker_repeat_39 : decode bn_Checker_repeat 39 = .ok (.aload_n 0, 1) := by decide +kernel
theorem dn_Checker_repeat_40 : decode bn_Checker_repeat 40 = .ok (.iload 4, 2) := by decide +kernel
theorem dn_Checker_repeat_42 : decode bn_Checker_repeat 42 = .ok (.invokevirtual 102, 3) := by decide +kernel
theorem dn_Checker_repeat_45 : decode bn_Checker_repeat 45 = .ok (.aload_n 0, 1) := by decide +kernel
theorem dn_Checker_repeat_46 : decode bn_Checker_repeat 46 = .ok (.getfield 42, 3) := by decide +kernel
theorem dn_Checker_repeat_49 : decode bn_Checker_repeat 49 = .ok (.sipush 379, 3) := by decide +kernel
theorem dn_Checker_repeat_52 : decode bn_Checker_repeat 52 = .ok (.iload_n 1, 1) := by decide +kernel
theorem dn_Checker_repeat_53 : decode bn_Checker_repeat 53 = .ok (.bipush 8, 2) := by decide +kernel
theorem dn_Checker_repeat_55 : decode bn_Checker_repeat 55 = .ok (.ishl, 1) := by decide +kernel
theorem dn_Checker_repeat_56 : decode bn_Checker_repeat 56 = .ok (.iload_n 3, 1) := by decide +kernel
theorem dn_Checker_repeat_57 : decode bn_Checker_repeat 57 = .ok (.ior, 1) := by decide +kernel
theorem dn_Checker_repeat_58 : decode bn_Checker_repeat 58 = .ok (.invokevirtual 106, 3) := by decide +kernel
theorem dn_Checker_repeat_61 : decode bn_Checker_repeat 61 = .ok (.pop, 1) := by decide +kernel
theorem dn_Checker_repeat_62 : decode bn_Checker_repeat 62 = .ok (.return_, 1) := by decide +kernel
theorem dn_Checker_sortOf_0 : decode bn_Checker_sortOf 0 = .ok (.iload_n 1, 1) := by decide +kernel
theorem dn_Checker_sortOf_1 : decode bn_Checker_sortOf 1 = .ok (.ifCond .lt 26, 3) := by decide +kernel
theorem dn_Checker_sortOf_4 : decode bn_Checker_sortOf 4 = .ok (.iload_n 1, 1) := by decide +kernel
theorem dn_Checker_sortOf_5 : decode bn_Checker_sortOf 5 = .ok (.aload_n 0, 1) := by decide +kernel
theorem dn_Checker_sortOf_6 : decode bn_Checker_sortOf 6 = .ok (.getfield 37, 3) := by decide +kernel
theorem dn_Checker_sortOf_9 : decode bn_Checker_sortOf 9 = .ok (.getfield 56, 3) := by decide +kernel
theorem dn_Checker_sortOf_12 : decode bn_Checker_sortOf 12 = .ok (.if_icmp .ge 15, 3) := by decide +kernel
theorem dn_Checker_sortOf_15 : decode bn_Checker_sortOf 15 = .ok (.aload_n 0, 1) := by decide +kernel
theorem dn_Checker_sortOf_16 : decode bn_Checker_sortOf 16 = .ok (.getfield 37, 3) := by decide +kernel
theorem dn_Checker_sortOf_19 : decode bn_Checker_sortOf 19 = .ok (.getfield 76, 3) := by decide +kernel
theorem dn_Checker_sortOf_22 : decode bn_Checker_sortOf 22 = .ok (.iload_n 1, 1) := by decide +kernel
theorem dn_Checker_sortOf_23 : decode bn_Checker_sortOf 23 = .ok (.iaload, 1) := by decide +kernel
theorem dn_Checker_sortOf_24 : decode bn_Checker_sortOf 24 = .ok (.goto 4, 3) := by decide +kernel
theorem dn_Checker_sortOf_27 : decode bn_Checker_sortOf 27 = .ok (.iconst (-1), 1) := by decide +kernel
theorem dn_Checker_sortOf_28 : decode bn_Checker_sortOf 28 = .ok (.ireturn, 1) := by decide +kernel
theorem dn_Checker_spend_0 : decode bn_Checker_spend 0 = .ok (.aload_n 0, 1) := by decide +kernel
theorem dn_Checker_spend_1 : decode bn_Checker_spend 1 = .ok (.aload_n 0, 1) := by decide +kernel
theorem dn_Checker_spend_2 : decode bn_Checker_spend 2 = .ok (.getfield 64, 3) := by decide +kernel
theorem dn_Checker_spend_5 : decode bn_Checker_spend 5 = .ok (.iload_n 1, 1) := by decide +kernel
theorem dn_Checker_spend_6 : decode bn_Checker_spend 6 = .ok (.invokestatic 79, 3) := by decide +kernel
theorem dn_Checker_spend_9 : decode bn_Checker_spend 9 = .ok (.putfield 64, 3) := by decide +kernel
theorem dn_Checker_spend_12 : decode bn_Checker_spend 12 = .ok (.return_, 1) := by decide +kernel
theorem dn_Checker_start_0 : decode bn_Checker_start 0 = .ok (.aload_n 0, 1) := by decide +kernel
theorem dn_Checker_start_1 : decode bn_Checker_start 1 = .ok (.aload_n 1, 1) := by decide +kernel
theorem dn_Checker_start_2 : decode bn_Checker_start 2 = .ok (.getfield 31, 3) := by decide +kernel
theorem dn_Checker_start_5 : decode bn_Checker_start 5 = .ok (.putfield 37, 3) := by decide +kernel
theorem dn_Checker_start_8 : decode bn_Checker_start 8 = .ok (.aload_n 0, 1) := by decide +kernel
theorem dn_Checker_start_9 : decode bn_Checker_start 9 = .ok (.aload_n 1, 1) := by decide +kernel
theorem dn_Checker_start_10 : decode bn_Checker_start 10 = .ok (.getfield 38, 3) := by decide +kernel
theorem dn_Checker_start_13 : decode bn_Checker_start 13 = .ok (.putfield 42, 3) := by decide +kernel
theorem dn_Checker_start_16 : decode bn_Checker_start 16 = .ok (.iconst 0, 1) := by decide +kernel
theorem dn_Checker_start_17 : decode bn_Checker_start 17 = .ok (.istore_n 3, 1) := by decide +kernel
theorem dn_Checker_start_18 : decode bn_Checker_start 18 = .ok (.iload_n 3, 1) := by decide +kernel
theorem dn_Checker_start_19 : decode bn_Checker_start 19 = .ok (.iload_n 2, 1) := by decide +kernel
theorem dn_Checker_start_20 : decode bn_Checker_start 20 = .ok (.if_icmp .ge 30, 3) := by decide +kernel
theorem dn_Checker_start_23 : decode bn_Checker_start 23 = .ok (.iload_n 3, 1) := by decide +kernel
theorem dn_Checker_start_24 : decode bn_Checker_start 24 = .ok (.sipush 19830, 3) := by decide +kernel
theorem dn_Checker_start_27 : decode bn_Checker_start 27 = .ok (.if_icmp .ge 23, 3) := by decide +kernel
theorem dn_Checker_start_30 : decode bn_Checker_start 30 = .ok (.aload_n 0, 1) := by decide +kernel
theorem dn_Checker_start_31 : decode bn_Checker_start 31 = .ok (.getfield 9, 3) := by decide +kernel
theorem dn_Checker_start_34 : decode bn_Checker_start 34 = .ok (.iload_n 3, 1) := by decide +kernel
theorem dn_Checker_start_35 : decode bn_Checker_start 35 = .ok (.iconst (-1), 1) := by decide +kernel
theorem dn_Checker_start_36 : decode bn_Checker_start 36 = .ok (.iastore, 1) := by decide +kernel
theorem dn_Checker_start_37 : decode bn_Checker_start 37 = .ok (.aload_n 0, 1) := by decide +kernel
theorem dn_Checker_start_38 : decode bn_Checker_start 38 = .ok (.getfield 18, 3) := by decide +kernel
theorem dn_Checker_start_41 : decode bn_Checker_start 41 = .ok (.iload_n 3, 1) := by decide +kernel
theorem dn_Checker_start_42 : decode bn_Checker_start 42 = .ok (.iconst (-1), 1) := by decide +kernel
theorem dn_Checker_start_43 : decode bn_Checker_start 43 = .ok (.iastore, 1) := by decide +kernel
theorem dn_Checker_start_44 : decode bn_Checker_start 44 = .ok (.iinc 3 1, 3) := by decide +kernel
theorem dn_Checker_start_47 : decode bn_Checker_start 47 = .ok (.goto (-29), 3) := by decide +kernel
theorem dn_Checker_start_50 : decode bn_Checker_start 50 = .ok (.aload_n 0, 1) := by decide +kernel
theorem dn_Checker_start_51 : decode bn_Checker_start 51 = .ok (.iconst (-1), 1) := by decide +kernel
theorem dn_Checker_start_52 : decode bn_Checker_start 52 = .ok (.putfield 43, 3) := by decide +kernel
theorem dn_Checker_start_55 : decode bn_Checker_start 55 = .ok (.aload_n 0, 1) := by decide +kernel
theorem dn_Checker_start_56 : decode bn_Checker_start 56 = .ok (.iconst 0, 1) := by decide +kernel
theorem dn_Checker_start_57 : decode bn_Checker_start 57 = .ok (.putfield 47, 3) := by decide +kernel
theorem dn_Checker_start_60 : decode bn_Checker_start 60 = .ok (.aload_n 0, 1) := by decide +kernel
theorem dn_Checker_start_61 : decode bn_Checker_start 61 = .ok (.iconst (-1), 1) := by decide +kernel
theorem dn_Checker_start_62 : decode bn_Checker_start 62 = .ok (.putfield 50, 3) := by decide +kernel
theorem dn_Checker_start_65 : decode bn_Checker_start 65 = .ok (.aload_n 0, 1) := by decide +kernel
theorem dn_Checker_start_66 : decode bn_Checker_start 66 = .ok (.iconst 0, 1) := by decide +kernel
theorem dn_Checker_start_67 : decode bn_Checker_start 67 = .ok (.putfield 53, 3) := by decide +kernel
theorem dn_Checker_start_70 : decode bn_Checker_start 70 = .ok (.return_, 1) := by decide +kernel
theorem dn_Checker_unary_0 : decode bn_Checker_unary 0 = .ok (.aload_n 0, 1) := by decide +kernel
theorem dn_Checker_unary_1 : decode bn_Checker_unary 1 = .ok (.invokevirtual 82, 3) := by decide +kernel
theorem dn_Checker_unary_4 : decode bn_Checker_unary 4 = .ok (.ifCond .eq 4, 3) := by decide +kernel
theorem dn_Checker_unary_7 : decode bn_Checker_unary 7 = .ok (.return_, 1) := by decide +kernel
theorem dn_Checker_unary_8 : decode bn_Checker_unary 8 = .ok (.aload_n 0, 1) := by decide +kernel
theorem dn_Checker_unary_9 : decode bn_Checker_unary 9 = .ok (.invokevirtual 94, 3) := by decide +kernel
theorem dn_Checker_unary_12 : decode bn_Checker_unary 12 = .ok (.istore_n 2, 1) := by decide +kernel
theorem dn_Checker_unary_13 : decode bn_Checker_unary 13 = .ok (.aload_n 0, 1) := by decide +kernel
theorem dn_Checker_unary_14 : decode bn_Checker_unary 14 = .ok (.iload_n 2, 1) := by decide +kernel
theorem dn_Checker_unary_15 : decode bn_Checker_unary 15 = .ok (.invokevirtual 130, 3) := by decide +kernel
theorem dn_Checker_unary_18 : decode bn_Checker_unary 18 = .ok (.aload_n 0, 1) := by decide +kernel
theorem dn_Checker_unary_19 : decode bn_Checker_unary 19 = .ok (.iload_n 1, 1) := by decide +kernel
theorem dn_Checker_unary_20 : decode bn_Checker_unary 20 = .ok (.bipush 126, 2) := by decide +kernel
theorem dn_Checker_unary_22 : decode bn_Checker_unary 22 = .ok (.if_icmp .eq 9, 3) := by decide +kernel
theorem dn_Checker_unary_25 : decode bn_Checker_unary 25 = .ok (.iload_n 1, 1) := by decide +kernel
theorem dn_Checker_unary_26 : decode bn_Checker_unary 26 = .ok (.bipush 45, 2) := by decide +kernel
theorem dn_Checker_unary_28 : decode bn_Checker_unary 28 = .ok (.if_icmp .ne 7, 3) := by decide +kernel
theorem dn_Checker_unary_31 : decode bn_Checker_unary 31 = .ok (.iload_n 2, 1) := by decide +kernel
theorem dn_Checker_unary_32 : decode bn_Checker_unary 32 = .ok (.goto 4, 3) := by decide +kernel
theorem dn_Checker_unary_35 : decode bn_Checker_unary 35 = .ok (.iconst 1, 1) := by decide +kernel
theorem dn_Checker_unary_36 : decode bn_Checker_unary 36 = .ok (.invokevirtual 102, 3) := by decide +kernel
theorem dn_Checker_unary_39 : decode bn_Checker_unary 39 = .ok (.aload_n 0, 1) := by decide +kernel
theorem dn_Checker_unary_40 : decode bn_Checker_unary 40 = .ok (.getfield 42, 3) := by decide +kernel
theorem dn_Checker_unary_43 : decode bn_Checker_unary 43 = .ok (.sipush 256, 3) := by decide +kernel
theorem dn_Checker_unary_46 : decode bn_Checker_unary 46 = .ok (.iload_n 1, 1) := by decide +kernel
theorem dn_Checker_unary_47 : decode bn_Checker_unary 47 = .ok (.iadd, 1) := by decide +kernel
theorem dn_Checker_unary_48 : decode bn_Checker_unary 48 = .ok (.iload_n 2, 1) := by decide +kernel
theorem dn_Checker_unary_49 : decode bn_Checker_unary 49 = .ok (.invokevirtual 106, 3) := by decide +kernel
theorem dn_Checker_unary_52 : decode bn_Checker_unary 52 = .ok (.pop, 1) := by decide +kernel
theorem dn_Checker_unary_53 : decode bn_Checker_unary 53 = .ok (.return_, 1) := by decide +kernel
theorem dn_Circuit_build_0 : decode bn_Circuit_build 0 = .ok (.aload_n 0, 1) := by decide +kernel
theorem dn_Circuit_build_1 : decode bn_Circuit_build 1 = .ok (.getfield 12, 3) := by decide +kernel
theorem dn_Circuit_build_4 : decode bn_Circuit_build 4 = .ok (.getfield 49, 3) := by decide +kernel
theorem dn_Circuit_build_7 : decode bn_Circuit_build 7 = .ok (.iconst 1, 1) := by decide +kernel
theorem dn_Circuit_build_8 : decode bn_Circuit_build 8 = .ok (.isub, 1) := by decide +kernel
theorem dn_Circuit_build_9 : decode bn_Circuit_build 9 = .ok (.istore_n 1, 1) := by decide +kernel
theorem dn_Circuit_build_10 : decode bn_Circuit_build 10 = .ok (.aload_n 0, 1) := by decide +kernel
theorem dn_Circuit_build_11 : decode bn_Circuit_build 11 = .ok (.aload_n 0, 1) := by decide +kernel
theorem dn_Circuit_build_12 : decode bn_Circuit_build 12 = .ok (.getfield 12, 3) := by decide +kernel
theorem dn_Circuit_build_15 : decode bn_Circuit_build 15 = .ok (.iconst 0, 1) := by decide +kernel
theorem dn_Circuit_build_16 : decode bn_Circuit_build 16 = .ok (.invokevirtual 53, 3) := by decide +kernel
theorem dn_Circuit_build_19 : decode bn_Circuit_build 19 = .ok (.aload_n 0, 1) := by decide +kernel
theorem dn_Circuit_build_20 : decode bn_Circuit_build 20 = .ok (.getfield 18, 3) := by decide +kernel
theorem dn_Circuit_build_23 : decode bn_Circuit_build 23 = .ok (.arraylength, 1) := by decide +kernel
theorem dn_Circuit_build_24 : decode bn_Circuit_build 24 = .ok (.invokestatic 57, 3) := by decide +kernel
theorem dn_Circuit_build_27 : decode bn_Circuit_build 27 = .ok (.putfield 63, 3) := by decide +kernel
theorem dn_Circuit_build_30 : decode bn_Circuit_build 30 = .ok (.aload_n 0, 1) := by decide +kernel
theorem dn_Circuit_build_31 : decode bn_Circuit_build 31 = .ok (.aload_n 0, 1) := by decide +kernel
theorem dn_Circuit_build_32 : decode bn_Circuit_build 32 = .ok (.getfield 12, 3) := by decide +kernel
theorem dn_Circuit_build_35 : decode bn_Circuit_build 35 = .ok (.iconst 1, 1) := by decide +kernel
theorem dn_Circuit_build_36 : decode bn_Circuit_build 36 = .ok (.invokevirtual 53, 3) := by decide +kernel
theorem dn_Circuit_build_39 : decode bn_Circuit_build 39 = .ok (.aload_n 0, 1) := by decide +kernel
theorem dn_Circuit_build_40 : decode bn_Circuit_build 40 = .ok (.getfield 31, 3) := by decide +kernel
theorem dn_Circuit_build_43 : decode bn_Circuit_build 43 = .ok (.arraylength, 1) := by decide +kernel
theorem dn_Circuit_build_44 : decode bn_Circuit_build 44 = .ok (.invokestatic 57, 3) := by decide +kernel
theorem dn_Circuit_build_47 : decode bn_Circuit_build 47 = .ok (.putfield 66, 3) := by decide +kernel
theorem dn_Circuit_build_50 : decode bn_Circuit_build 50 = .ok (.aload_n 0, 1) := by decide +kernel
theorem dn_Circuit_build_51 : decode bn_Circuit_build 51 = .ok (.getfield 18, 3) := by decide +kernel
theorem dn_Circuit_build_54 : decode bn_Circuit_build 54 = .ok (.iconst 0, 1) := by decide +kernel
theorem dn_Circuit_build_55 : decode bn_Circuit_build 55 = .ok (.iconst 0, 1) := by decide +kernel
theorem dn_Circuit_build_56 : decode bn_Circuit_build 56 = .ok (.iastore, 1) := by decide +kernel
theorem dn_Circuit_build_57 : decode bn_Circuit_build 57 = .ok (.aload_n 0, 1) := by decide +kernel
theorem dn_Circuit_build_58 : decode bn_Circuit_build 58 = .ok (.getfield 22, 3) := by decide +kernel
theorem dn_Circuit_build_61 : decode bn_Circuit_build 61 = .ok (.iconst 0, 1) := by decide +kernel
theorem dn_Circuit_build_62 : decode bn_Circuit_build 62 = .ok (.iload_n 1, 1) := by decide +kernel
theorem dn_Circuit_build_63 : decode bn_Circuit_build 63 = .ok (.iastore, 1) := by decide +kernel
theorem dn_Circuit_build_64 : decode bn_Circuit_build 64 = .ok (.aload_n 0, 1) := by decide +kernel
theorem dn_Circuit_build_65 : decode bn_Circuit_build 65 = .ok (.getfield 25, 3) := by decide +kernel
theorem dn_Circuit_build_68 : decode bn_Circuit_build 68 = .ok (.iconst 0, 1) := by decide +kernel
theorem dn_Circuit_build_69 : decode bn_Circuit_build 69 = .ok (.iconst (-1), 1) := by decide +kernel
theorem dn_Circuit_build_70 : decode bn_Circuit_build 70 = .ok (.iastore, 1) := by decide +kernel
theorem dn_Circuit_build_71 : decode bn_Circuit_build 71 = .ok (.aload_n 0, 1) := by decide +kernel
theorem dn_Circuit_build_72 : decode bn_Circuit_build 72 = .ok (.getfield 28, 3) := by decide +kernel
theorem dn_Circuit_build_75 : decode bn_Circuit_build 75 = .ok (.iconst 0, 1) := by decide +kernel
theorem dn_Circuit_build_76 : decode bn_Circuit_build 76 = .ok (.iconst (-1), 1) := by decide +kernel
theorem dn_Circuit_build_77 : decode bn_Circuit_build 77 = .ok (.iastore, 1) := by decide +kernel
theorem dn_Circuit_build_78 : decode bn_Circuit_build 78 = .ok (.iconst 0, 1) := by decide +kernel
theorem dn_Circuit_build_79 : decode bn_Circuit_build 79 = .ok (.istore_n 2, 1) := by decide +kernel
theorem dn_Circuit_build_80 : decode bn_Circuit_build 80 = .ok (.iload_n 2, 1) := by decide +kernel
theorem dn_Circuit_build_81 : decode bn_Circuit_build 81 = .ok (.aload_n 0, 1) := by decide +kernel
theorem dn_Circuit_build_82 : decode bn_Circuit_build 82 = .ok (.getfield 63, 3) := by decide +kernel
theorem dn_Circuit_build_85 : decode bn_Circuit_build 85 = .ok (.if_icmp .ge 28, 3) := by decide +kernel
theorem dn_Circuit_build_88 : decode bn_Circuit_build 88 = .ok (.aload_n 0, 1) := by decide +kernel
theorem dn_Circuit_build_89 : decode bn_Circuit_build 89 = .ok (.iload_n 2, 1) := by decide +kernel
theorem dn_Circuit_build_90 : decode bn_Circuit_build 90 = .ok (.invokevirtual 69, 3) := by decide +kernel
theorem dn_Circuit_build_93 : decode bn_Circuit_build 93 = .ok (.aload_n 0, 1) := by decide +kernel
theorem dn_Circuit_build_94 : decode bn_Circuit_build 94 = .ok (.iload_n 2, 1) := by decide +kernel
theorem dn_Circuit_build_95 : decode bn_Circuit_build 95 = .ok (.invokevirtual 73, 3) := by decide +kernel
theorem dn_Circuit_build_98 : decode bn_Circuit_build 98 = .ok (.iload_n 2, 1) := by decide +kernel
theorem dn_Circuit_build_99 : decode bn_Circuit_build 99 = .ok (.ifCond .le 8, 3) := by decide +kernel
theorem dn_Circuit_build_102 : decode bn_Circuit_build 102 = .ok (.aload_n 0, 1) := by decide +kernel
theorem dn_Circuit_build_103 : decode bn_Circuit_build 103 = .ok (.iload_n 2, 1) := by decide +kernel
theorem dn_Circuit_build_104 : decode bn_Circuit_build 104 = .ok (.invokevirtual 76, 3) := by decide +kernel
theorem dn_Circuit_build_107 : decode bn_Circuit_build 107 = .ok (.iinc 2 1, 3) := by decide +kernel
theorem dn_Circuit_build_110 : decode bn_Circuit_build 110 = .ok (.goto (-30), 3) := by decide +kernel
theorem dn_Circuit_build_113 : decode bn_Circuit_build 113 = .ok (.return_, 1) := by decide +kernel
theorem dn_Circuit_childCalled_0 : decode bn_Circuit_childCalled 0 = .ok (.iload_n 1, 1) := by decide +kernel
theorem dn_Circuit_childCalled_1 : decode bn_Circuit_childCalled 1 = .ok (.iconst 1, 1) := by decide +kernel
theorem dn_Circuit_childCalled_2 : decode bn_Circuit_childCalled 2 = .ok (.iadd, 1) := by decide +kernel
theorem dn_Circuit_childCalled_3 : decode bn_Circuit_childCalled 3 = .ok (.istore 5, 2) := by decide +kernel
theorem dn_Circuit_childCalled_5 : decode bn_Circuit_childCalled 5 = .ok (.iload 5, 2) := by decide +kernel
theorem dn_Circuit_childCalled_7 : decode bn_Circuit_childCalled 7 = .ok (.aload_n 0, 1) := by decide +kernel
theorem dn_Circuit_childCalled_8 : decode bn_Circuit_childCalled 8 = .ok (.getfield 63, 3) := by decide +kernel
theorem dn_Circuit_childCalled_11 : decode bn_Circuit_childCalled 11 = .ok (.if_icmp .ge 58, 3) := by decide +kernel
theorem dn_Circuit_childCalled_14 : decode bn_Circuit_childCalled 14 = .ok (.aload_n 0, 1) := by decide +kernel
theorem dn_Circuit_childCalled_15 : decode bn_Circuit_childCalled 15 = .ok (.getfield 25, 3) := by decide +kernel
theorem dn_Circuit_childCalled_18 : decode bn_Circuit_childCalled 18 = .ok (.iload 5, 2) := by decide +kernel
theorem dn_Circuit_childCalled_20 : decode bn_Circuit_childCalled 20 = .ok (.iaload, 1) := by decide +kernel
theorem dn_Circuit_childCalled_21 : decode bn_Circuit_childCalled 21 = .ok (.iload_n 1, 1) := by decide +kernel
theorem dn_Circuit_childCalled_22 : decode bn_Circuit_childCalled 22 = .ok (.if_icmp .eq 6, 3) := by decide +kernel
theorem dn_Circuit_childCalled_25 : decode bn_Circuit_childCalled 25 = .ok (.goto 38, 3) := by decide +kernel
theorem dn_Circuit_childCalled_28 : decode bn_Circuit_childCalled 28 = .ok (.aload_n 0, 1) := by decide +kernel
theorem dn_Circuit_childCalled_29 : decode bn_Circuit_childCalled 29 = .ok (.getfield 12, 3) := by decide +kernel
theorem dn_Circuit_childCalled_32 : decode bn_Circuit_childCalled 32 = .ok (.aload_n 0, 1) := by decide +kernel
theorem dn_Circuit_childCalled_33 : decode bn_Circuit_childCalled 33 = .ok (.getfield 12, 3) := by decide +kernel
theorem dn_Circuit_childCalled_36 : decode bn_Circuit_childCalled 36 = .ok (.getfield 88, 3) := by decide +kernel
theorem dn_Circuit_childCalled_39 : decode bn_Circuit_childCalled 39 = .ok (.getfield 141, 3) := by decide +kernel
theorem dn_Circuit_childCalled_42 : decode bn_Circuit_childCalled 42 = .ok (.aload_n 0, 1) := by decide +kernel
theorem dn_Circuit_childCalled_43 : decode bn_Circuit_childCalled 43 = .ok (.getfield 28, 3) := by decide +kernel
theorem dn_Circuit_childCalled_46 : decode bn_Circuit_childCalled 46 = .ok (.iload 5, 2) := by decide +kernel
theorem dn_Circuit_childCalled_48 : decode bn_Circuit_childCalled 48 = .ok (.iaload, 1) := by decide +kernel
theorem dn_Circuit_childCalled_49 : decode bn_Circuit_childCalled 49 = .ok (.iaload, 1) := by decide +kernel
theorem dn_Circuit_childCalled_50 : decode bn_Circuit_childCalled 50 = .ok (.aload_n 2, 1) := by decide +kernel
theorem dn_Circuit_childCalled_51 : decode bn_Circuit_childCalled 51 = .ok (.iload_n 3, 1) := by decide +kernel
theorem dn_Circuit_childCalled_52 : decode bn_Circuit_childCalled 52 = .ok (.iload 4, 2) := by decide +kernel
theorem dn_Circuit_childCalled_54 : decode bn_Circuit_childCalled 54 = .ok (.invokevirtual 144, 3) := by decide +kernel
theorem dn_Circuit_childCalled_57 : decode bn_Circuit_childCalled 57 = .ok (.ifCond .eq 6, 3) := by decide +kernel
theorem dn_Circuit_childCalled_60 : decode bn_Circuit_childCalled 60 = .ok (.iload 5, 2) := by decide +kernel
theorem dn_Circuit_childCalled_62 : decode bn_Circuit_childCalled 62 = .ok (.ireturn, 1) := by decide +kernel
theorem dn_Circuit_childCalled_63 : decode bn_Circuit_childCalled 63 = .ok (.iinc 5 1, 3) := by decide +kernel
theorem dn_Circuit_childCalled_66 : decode bn_Circuit_childCalled 66 = .ok (.goto (-61), 3) := by decide +kernel
theorem dn_Circuit_childCalled_69 : decode bn_Circuit_childCalled 69 = .ok (.iconst (-1), 1) := by decide +kernel
theorem dn_Circuit_childCalled_70 : decode bn_Circuit_childCalled 70 = .ok (.ireturn, 1) := by decide +kernel
theorem dn_Circuit_firstOf_0 : decode bn_Circuit_firstOf 0 = .ok (.aload_n 0, 1) := by decide +kernel
theorem dn_Circuit_firstOf_1 : decode bn_Circuit_firstOf 1 = .ok (.iload_n 1, 1) := by decide +kernel
theorem dn_Circuit_firstOf_2 : decode bn_Circuit_firstOf 2 = .ok (.invokevirtual 117, 3) := by decide +kernel
theorem dn_Circuit_firstOf_5 : decode bn_Circuit_firstOf 5 = .ok (.ifCond .eq 23, 3) := by decide +kernel
theorem dn_Circuit_firstOf_8 : decode bn_Circuit_firstOf 8 = .ok (.aload_n 0, 1) := by decide +kernel
theorem dn_Circuit_firstOf_9 : decode bn_Circuit_firstOf 9 = .ok (.getfield 12, 3) := by decide +kernel
theorem dn_Circuit_firstOf_12 : decode bn_Circuit_firstOf 12 = .ok (.getfield 88, 3) := by decide +kernel
theorem dn_Circuit_firstOf_15 : decode bn_Circuit_firstOf 15 = .ok (.getfield 130, 3) := by decide +kernel
theorem dn_Circuit_firstOf_18 : decode bn_Circuit_firstOf 18 = .ok (.aload_n 0, 1) := by decide +kernel
theorem dn_Circuit_firstOf_19 : decode bn_Circuit_firstOf 19 = .ok (.getfield 31, 3) := by decide +kernel
theorem dn_Circuit_firstOf_22 : decode bn_Circuit_firstOf 22 = .ok (.iload_n 1, 1) := by decide +kernel
theorem dn_Circuit_firstOf_23 : decode bn_Circuit_firstOf 23 = .ok (.iaload, 1) := by decide +kernel
theorem dn_Circuit_firstOf_24 : decode bn_Circuit_firstOf 24 = .ok (.laload, 1) := by decide +kernel
theorem dn_Circuit_firstOf_25 : decode bn_Circuit_firstOf 25 = .ok (.goto 4, 3) := by decide +kernel
theorem dn_Circuit_firstOf_28 : decode bn_Circuit_firstOf 28 = .ok (.lconst 0, 1) := by decide +kernel
theorem dn_Circuit_firstOf_29 : decode bn_Circuit_firstOf 29 = .ok (.lreturn, 1) := by decide +kernel
theorem dn_Circuit_isSignal_0 : decode bn_Circuit_isSignal 0 = .ok (.iload_n 1, 1) := by decide +kernel
theorem dn_Circuit_isSignal_1 : decode bn_Circuit_isSignal 1 = .ok (.ifCond .lt 15, 3) := by decide +kernel
theorem dn_Circuit_isSignal_4 : decode bn_Circuit_isSignal 4 = .ok (.iload_n 1, 1) := by decide +kernel
theorem dn_Circuit_isSignal_5 : decode bn_Circuit_isSignal 5 = .ok (.aload_n 0, 1) := by decide +kernel
theorem dn_Circuit_isSignal_6 : decode bn_Circuit_isSignal 6 = .ok (.getfield 66, 3) := by decide +kernel
theorem dn_Circuit_isSignal_9 : decode bn_Circuit_isSignal 9 = .ok (.if_icmp .ge 7, 3) := by decide +kernel
theorem dn_Circuit_isSignal_12 : decode bn_Circuit_isSignal 12 = .ok (.iconst 1, 1) := by decide +kernel
theorem dn_Circuit_isSignal_13 : decode bn_Circuit_isSignal 13 = .ok (.goto 4, 3) := by decide +kernel
theorem dn_Circuit_isSignal_16 : decode bn_Circuit_isSignal 16 = .ok (.iconst 0, 1) := by decide +kernel
theorem dn_Circuit_isSignal_17 : decode bn_Circuit_isSignal 17 = .ok (.ireturn, 1) := by decide +kernel
theorem dn_Circuit_layChildren_0 : decode bn_Circuit_layChildren 0 = .ok (.aload_n 0, 1) := by decide +kernel
theorem dn_Circuit_layChildren_1 : decode bn_Circuit_layChildren 1 = .ok (.getfield 22, 3) := by decide +kernel
theorem dn_Circuit_layChildren_4 : decode bn_Circuit_layChildren 4 = .ok (.iload_n 1, 1) := by decide +kernel
theorem dn_Circuit_layChildren_5 : decode bn_Circuit_layChildren 5 = .ok (.iaload, 1) := by decide +kernel
theorem dn_Circuit_layChildren_6 : decode bn_Circuit_layChildren 6 = .ok (.istore_n 2, 1) := by decide +kernel
theorem dn_Circuit_layChildren_7 : decode bn_Circuit_layChildren 7 = .ok (.iload_n 1, 1) := by decide +kernel
theorem dn_Circuit_layChildren_8 : decode bn_Circuit_layChildren 8 = .ok (.iconst 1, 1) := by decide +kernel
theorem dn_Circuit_layChildren_9 : decode bn_Circuit_layChildren 9 = .ok (.iadd, 1) := by decide +kernel
theorem dn_Circuit_layChildren_10 : decode bn_Circuit_layChildren 10 = .ok (.istore_n 3, 1) := by decide +kernel
theorem dn_Circuit_layChildren_11 : decode bn_Circuit_layChildren 11 = .ok (.aload_n 0, 1) := by decide +kernel
theorem dn_Circuit_layChildren_12 : decode bn_Circuit_layChildren 12 = .ok (.getfield 18, 3) := by decide +kernel
theorem dn_Circuit_layChildren_15 : decode bn_Circuit_layChildren 15 = .ok (.iload_n 1, 1) := by decide +kernel
theorem dn_Circuit_layChildren_16 : decode bn_Circuit_layChildren 16 = .ok (.iaload, 1) := by decide +kernel
theorem dn_Circuit_layChildren_17 : decode bn_Circuit_layChildren 17 = .ok (.aload_n 0, 1) := by decide +kernel
theorem dn_Circuit_layChildren_18 : decode bn_Circuit_layChildren 18 = .ok (.iload_n 2, 1) := by decide +kernel
theorem dn_Circuit_layChildren_19 : decode bn_Circuit_layChildren 19 = .ok (.invokevirtual 82, 3) := by decide +kernel
theorem dn_Circuit_layChildren_22 : decode bn_Circuit_layChildren 22 = .ok (.iadd, 1) := by decide +kernel
theorem dn_Circuit_layChildren_23 : decode bn_Circuit_layChildren 23 = .ok (.istore 4, 2) := by decide +kernel
theorem dn_Circuit_layChildren_25 : decode bn_Circuit_layChildren 25 = .ok (.aload_n 0, 1) := by decide +kernel
theorem dn_Circuit_layChildren_26 : decode bn_Circuit_layChildren 26 = .ok (.getfield 12, 3) := by decide +kernel
theorem dn_Circuit_layChildren_29 : decode bn_Circuit_layChildren 29 = .ok (.iload_n 2, 1) := by decide +kernel
theorem dn_Circuit_layChildren_30 : decode bn_Circuit_layChildren 30 = .ok (.iconst 1, 1) := by decide +kernel
theorem dn_Circuit_layChildren_31 : decode bn_Circuit_layChildren 31 = .ok (.iadd, 1) := by decide +kernel
theorem dn_Circuit_layChildren_32 : decode bn_Circuit_layChildren 32 = .ok (.invokevirtual 85, 3) := by decide +kernel
theorem dn_Circuit_layChildren_35 : decode bn_Circuit_layChildren 35 = .ok (.istore 5, 2) := by decide +kernel
theorem dn_Circuit_layChildren_37 : decode bn_Circuit_layChildren 37 = .ok (.aload_n 0, 1) := by decide +kernel
theorem dn_Circuit_layChildren_38 : decode bn_Circuit_layChildren 38 = .ok (.getfield 12, 3) := by decide +kernel
theorem dn_Circuit_layChildren_41 : decode bn_Circuit_layChildren 41 = .ok (.iload_n 2, 1) := by decide +kernel
theorem dn_Circuit_layChildren_42 : decode bn_Circuit_layChildren 42 = .ok (.invokevirtual 85, 3) := by decide +kernel
theorem dn_Circuit_layChildren_45 : decode bn_Circuit_layChildren 45 = .ok (.istore 6, 2) := by decide +kernel
theorem dn_Circuit_layChildren_47 : decode bn_Circuit_layChildren 47 = .ok (.iload 6, 2) := by decide +kernel
theorem dn_Circuit_layChildren_49 : decode bn_Circuit_layChildren 49 = .ok (.iload 5, 2) := by decide +kernel
theorem dn_Circuit_layChildren_51 : decode bn_Circuit_layChildren 51 = .ok (.if_icmp .ge 92, 3) := by decide +kernel
theorem dn_Circuit_layChildren_54 : decode bn_Circuit_layChildren 54 = .ok (.iload_n 3, 1) := by decide +kernel
theorem dn_Circuit_layChildren_55 : decode bn_Circuit_layChildren 55 = .ok (.aload_n 0, 1) := by decide +kernel
theorem dn_Circuit_layChildren_56 : decode bn_Circuit_layChildren 56 = .ok (.getfield 18, 3) := by decide +kernel
theorem dn_Circuit_layChildren_59 : decode bn_Circuit_layChildren 59 = .ok (.arraylength, 1) := by decide +kernel
theorem dn_Circuit_layChildren_60 : decode bn_Circuit_layChildren 60 = .ok (.if_icmp .ge 83, 3) := by decide +kernel
theorem dn_Circuit_layChildren_63 : decode bn_Circuit_layChildren 63 = .ok (.aload_n 0, 1) := by decide +kernel
theorem dn_Circuit_layChildren_64 : decode bn_Circuit_layChildren 64 = .ok (.getfield 12, 3) := by decide +kernel
theorem dn_Circuit_layChildren_67 : decode bn_Circuit_layChildren 67 = .ok (.getfield 88, 3) := by decide +kernel
theorem dn_Circuit_layChildren_70 : decode bn_Circuit_layChildren 70 = .ok (.getfield 92, 3) := by decide +kernel
theorem dn_Circuit_layChildren_73 : decode bn_Circuit_layChildren 73 = .ok (.iload 6, 2) := by decide +kernel
theorem dn_Circuit_layChildren_75 : decode bn_Circuit_layChildren 75 = .ok (.iaload, 1) := by decide +kernel
theorem dn_Circuit_layChildren_76 : decode bn_Circuit_layChildren 76 = .ok (.istore 7, 2) := by decide +kernel
theorem dn_Circuit_layChildren_78 : decode bn_Circuit_layChildren 78 = .ok (.aload_n 0, 1) := by decide +kernel
theorem dn_Circuit_layChildren_79 : decode bn_Circuit_layChildren 79 = .ok (.getfield 18, 3) := by decide +kernel
theorem dn_Circuit_layChildren_82 : decode bn_Circuit_layChildren 82 = .ok (.iload_n 3, 1) := by decide +kernel
theorem dn_Circuit_layChildren_83 : decode bn_Circuit_layChildren 83 = .ok (.iload 4, 2) := by decide +kernel
theorem dn_Circuit_layChildren_85 : decode bn_Circuit_layChildren 85 = .ok (.iastore, 1) := by decide +kernel
theorem dn_Circuit_layChildren_86 : decode bn_Circuit_layChildren 86 = .ok (.aload_n 0, 1) := by decide +kernel
theorem dn_Circuit_layChildren_87 : decode bn_Circuit_layChildren 87 = .ok (.getfield 22, 3) := by decide +kernel
theorem dn_Circuit_layChildren_90 : decode bn_Circuit_layChildren 90 = .ok (.iload_n 3, 1) := by decide +kernel
theorem dn_Circuit_layChildren_91 : decode bn_Circuit_layChildren 91 = .ok (.iload 7, 2) := by decide +kernel
theorem dn_Circuit_layChildren_93 : decode bn_Circuit_layChildren 93 = .ok (.iastore, 1) := by decide +kernel
theorem dn_Circuit_layChildren_94 : decode bn_Circuit_layChildren 94 = .ok (.aload_n 0, 1) := by decide +kernel
theorem dn_Circuit_layChildren_95 : decode bn_Circuit_layChildren 95 = .ok (.getfield 25, 3) := by decide +kernel
theorem dn_Circuit_layChildren_98 : decode bn_Circuit_layChildren 98 = .ok (.iload_n 3, 1) := by decide +kernel
theorem dn_Circuit_layChildren_99 : decode bn_Circuit_layChildren 99 = .ok (.iload_n 1, 1) := by decide +kernel
theorem dn_Circuit_layChildren_100 : decode bn_Circuit_layChildren 100 = .ok (.iastore, 1) := by decide +kernel
theorem dn_Circuit_layChildren_101 : decode bn_Circuit_layChildren 101 = .ok (.aload_n 0, 1) := by decide +kernel
theorem dn_Circuit_layChildren_102 : decode bn_Circuit_layChildren 102 = .ok (.getfield 28, 3) := by decide +kernel
theorem dn_Circuit_layChildren_105 : decode bn_Circuit_layChildren 105 = .ok (.iload_n 3, 1) := by decide +kernel
theorem dn_Circuit_layChildren_106 : decode bn_Circuit_layChildren 106 = .ok (.iload 6, 2) := by decide +kernel
theorem dn_Circuit_layChildren_108 : decode bn_Circuit_layChildren 108 = .ok (.iastore, 1) := by decide +kernel
theorem dn_Circuit_layChildren_109 : decode bn_Circuit_layChildren 109 = .ok (.iload_n 3, 1) := by decide +kernel
theorem dn_Circuit_layChildren_110 : decode bn_Circuit_layChildren 110 = .ok (.aload_n 0, 1) := by decide +kernel
theorem dn_Circuit_layChildren_111 : decode bn_Circuit_layChildren 111 = .ok (.getfield 12, 3) := by decide +kernel
theorem dn_Circuit_layChildren_114 : decode bn_Circuit_layChildren 114 = .ok (.iconst 0, 1) := by decide +kernel
theorem dn_Circuit_layChildren_115 : decode bn_Circuit_layChildren 115 = .ok (.iload 7, 2) := by decide +kernel
theorem dn_Circuit_layChildren_117 : decode bn_Circuit_layChildren 117 = .ok (.invokevirtual 97, 3) := by decide +kernel
theorem dn_Circuit_layChildren_120 : decode bn_Circuit_layChildren 120 = .ok (.iadd, 1) := by decide +kernel
theorem dn_Circuit_layChildren_121 : decode bn_Circuit_layChildren 121 = .ok (.istore_n 3, 1) := by decide +kernel
theorem dn_Circuit_layChildren_122 : decode bn_Circuit_layChildren 122 = .ok (.iload 4, 2) := by decide +kernel
theorem dn_Circuit_layChildren_124 : decode bn_Circuit_layChildren 124 = .ok (.aload_n 0, 1) := by decide +kernel
theorem dn_Circuit_layChildren_125 : decode bn_Circuit_layChildren 125 = .ok (.getfield 12, 3) := by decide +kernel
theorem dn_Circuit_layChildren_128 : decode bn_Circuit_layChildren 128 = .ok (.iconst 1, 1) := by decide +kernel
theorem dn_Circuit_layChildren_129 : decode bn_Circuit_layChildren 129 = .ok (.iload 7, 2) := by decide +kernel
theorem dn_Circuit_layChildren_131 : decode bn_Circuit_layChildren 131 = .ok (.invokevirtual 97, 3) := by decide +kernel
theorem dn_Circuit_layChildren_134 : decode bn_Circuit_layChildren 134 = .ok (.iadd, 1) := by decide +kernel
theorem dn_Circuit_layChildren_135 : decode bn_Circuit_layChildren 135 = .ok (.istore 4, 2) := by decide +kernel
theorem dn_Circuit_layChildren_137 : decode bn_Circuit_layChildren 137 = .ok (.iinc 6 1, 3) := by decide +kernel
theorem dn_Circuit_layChildren_140 : decode bn_Circuit_layChildren 140 = .ok (.goto (-93), 3) := by decide +kernel
theorem dn_Circuit_layChildren_143 : decode bn_Circuit_layChildren 143 = .ok (.return_, 1) := by decide +kernel
theorem dn_Circuit_layLinks_0 : decode bn_Circuit_layLinks 0 = .ok (.aload_n 0, 1) := by decide +kernel
theorem dn_Circuit_layLinks_1 : decode bn_Circuit_layLinks 1 = .ok (.getfield 12, 3) := by decide +kernel
theorem dn_Circuit_layLinks_4 : decode bn_Circuit_layLinks 4 = .ok (.getfield 88, 3) := by decide +kernel
theorem dn_Circuit_layLinks_7 : decode bn_Circuit_layLinks 7 = .ok (.astore_n 2, 1) := by decide +kernel
theorem dn_Circuit_layLinks_8 : decode bn_Circuit_layLinks 8 = .ok (.aload_n 0, 1) := by decide +kernel
theorem dn_Circuit_layLinks_9 : decode bn_Circuit_layLinks 9 = .ok (.getfield 18, 3) := by decide +kernel
theorem dn_Circuit_layLinks_12 : decode bn_Circuit_layLinks 12 = .ok (.iload_n 1, 1) := by decide +kernel
theorem dn_Circuit_layLinks_13 : decode bn_Circuit_layLinks 13 = .ok (.iaload, 1) := by decide +kernel
theorem dn_Circuit_layLinks_14 : decode bn_Circuit_layLinks 14 = .ok (.istore_n 3, 1) := by decide +kernel
theorem dn_Circuit_layLinks_15 : decode bn_Circuit_layLinks 15 = .ok (.aload_n 0, 1) := by decide +kernel
theorem dn_Circuit_layLinks_16 : decode bn_Circuit_layLinks 16 = .ok (.getfield 18, 3) := by decide +kernel
theorem dn_Circuit_layLinks_19 : decode bn_Circuit_layLinks 19 = .ok (.aload_n 0, 1) := by decide +kernel
theorem dn_Circuit_layLinks_20 : decode bn_Circuit_layLinks 20 = .ok (.getfield 25, 3) := by decide +kernel
theorem dn_Circuit_layLinks_23 : decode bn_Circuit_layLinks 23 = .ok (.iload_n 1, 1) := by decide +kernel
theorem dn_Circuit_layLinks_24 : decode bn_Circuit_layLinks 24 = .ok (.iaload, 1) := by decide +kernel
theorem dn_Circuit_layLinks_25 : decode bn_Circuit_layLinks 25 = .ok (.iaload, 1) := by decide +kernel
theorem dn_Circuit_layLinks_26 : decode bn_Circuit_layLinks 26 = .ok (.istore 4, 2) := by decide +kernel
theorem dn_Circuit_layLinks_28 : decode bn_Circuit_layLinks 28 = .ok (.aload_n 2, 1) := by decide +kernel
theorem dn_Circuit_layLinks_29 : decode bn_Circuit_layLinks 29 = .ok (.aload_n 0, 1) := by decide +kernel
theorem dn_Circuit_layLinks_30 : decode bn_Circuit_layLinks 30 = .ok (.getfield 28, 3) := by decide +kernel
theorem dn_Circuit_layLinks_33 : decode bn_Circuit_layLinks 33 = .ok (.iload_n 1, 1) := by decide +kernel
theorem dn_Circuit_layLinks_34 : decode bn_Circuit_layLinks 34 = .ok (.iaload, 1) := by decide +kernel
theorem dn_Circuit_layLinks_35 : decode bn_Circuit_layLinks 35 = .ok (.invokevirtual 105, 3) := by decide +kernel
theorem dn_Circuit_layLinks_38 : decode bn_Circuit_layLinks 38 = .ok (.istore 5, 2) := by decide +kernel
theorem dn_Circuit_layLinks_40 : decode bn_Circuit_layLinks 40 = .ok (.aload_n 2, 1) := by decide +kernel
theorem dn_Circuit_layLinks_41 : decode bn_Circuit_layLinks 41 = .ok (.getfield 108, 3) := by decide +kernel
theorem dn_Circuit_layLinks_44 : decode bn_Circuit_layLinks 44 = .ok (.aload_n 0, 1) := by decide +kernel
theorem dn_Circuit_layLinks_45 : decode bn_Circuit_layLinks 45 = .ok (.getfield 28, 3) := by decide +kernel
theorem dn_Circuit_layLinks_48 : decode bn_Circuit_layLinks 48 = .ok (.iload_n 1, 1) := by decide +kernel
theorem dn_Circuit_layLinks_49 : decode bn_Circuit_layLinks 49 = .ok (.iaload, 1) := by decide +kernel
theorem dn_Circuit_layLinks_50 : decode bn_Circuit_layLinks 50 = .ok (.iaload, 1) := by decide +kernel
theorem dn_Circuit_layLinks_51 : decode bn_Circuit_layLinks 51 = .ok (.istore 6, 2) := by decide +kernel
theorem dn_Circuit_layLinks_53 : decode bn_Circuit_layLinks 53 = .ok (.iload 6, 2) := by decide +kernel
theorem dn_Circuit_layLinks_55 : decode bn_Circuit_layLinks 55 = .ok (.iload 5, 2) := by decide +kernel
theorem dn_Circuit_layLinks_57 : decode bn_Circuit_layLinks 57 = .ok (.if_icmp .ge 117, 3) := by decide +kernel
theorem dn_Circuit_layLinks_60 : decode bn_Circuit_layLinks 60 = .ok (.iload_n 3, 1) := by decide +kernel
theorem dn_Circuit_layLinks_61 : decode bn_Circuit_layLinks 61 = .ok (.aload_n 2, 1) := by decide +kernel
theorem dn_Circuit_layLinks_62 : decode bn_Circuit_layLinks 62 = .ok (.getfield 111, 3) := by decide +kernel
theorem dn_Circuit_layLinks_65 : decode bn_Circuit_layLinks 65 = .ok (.iload 6, 2) := by decide +kernel
theorem dn_Circuit_layLinks_67 : decode bn_Circuit_layLinks 67 = .ok (.iaload, 1) := by decide +kernel
theorem dn_Circuit_layLinks_68 : decode bn_Circuit_layLinks 68 = .ok (.iadd, 1) := by decide +kernel
theorem dn_Circuit_layLinks_69 : decode bn_Circuit_layLinks 69 = .ok (.istore 7, 2) := by decide +kernel
theorem dn_Circuit_layLinks_71 : decode bn_Circuit_layLinks 71 = .ok (.iload 4, 2) := by decide +kernel
theorem dn_Circuit_layLinks_73 : decode bn_Circuit_layLinks 73 = .ok (.aload_n 2, 1) := by decide +kernel
theorem dn_Circuit_layLinks_74 : decode bn_Circuit_layLinks 74 = .ok (.getfield 114, 3) := by decide +kernel
theorem dn_Circuit_layLinks_77 : decode bn_Circuit_layLinks 77 = .ok (.iload 6, 2) := by decide +kernel
theorem dn_Circuit_layLinks_79 : decode bn_Circuit_layLinks 79 = .ok (.iaload, 1) := by decide +kernel
theorem dn_Circuit_layLinks_80 : decode bn_Circuit_layLinks 80 = .ok (.iadd, 1) := by decide +kernel
theorem dn_Circuit_layLinks_81 : decode bn_Circuit_layLinks 81 = .ok (.istore 8, 2) := by decide +kernel
theorem dn_Circuit_layLinks_83 : decode bn_Circuit_layLinks 83 = .ok (.aload_n 0, 1) := by decide +kernel
theorem dn_Circuit_layLinks_84 : decode bn_Circuit_layLinks 84 = .ok (.iload 7, 2) := by decide +kernel
theorem dn_Circuit_layLinks_86 : decode bn_Circuit_layLinks 86 = .ok (.invokevirtual 117, 3) := by decide +kernel
theorem dn_Circuit_layLinks_89 : decode bn_Circuit_layLinks 89 = .ok (.ifCond .ne 6, 3) := by decide +kernel
theorem dn_Circuit_layLinks_92 : decode bn_Circuit_layLinks 92 = .ok (.goto 76, 3) := by decide +kernel
theorem dn_Circuit_layLinks_95 : decode bn_Circuit_layLinks 95 = .ok (.aload_n 2, 1) := by decide +kernel
theorem dn_Circuit_layLinks_96 : decode bn_Circuit_layLinks 96 = .ok (.getfield 100, 3) := by decide +kernel
theorem dn_Circuit_layLinks_99 : decode bn_Circuit_layLinks 99 = .ok (.aload_n 0, 1) := by decide +kernel
theorem dn_Circuit_layLinks_100 : decode bn_Circuit_layLinks 100 = .ok (.getfield 31, 3) := by decide +kernel
theorem dn_Circuit_layLinks_103 : decode bn_Circuit_layLinks 103 = .ok (.iload 7, 2) := by decide +kernel
theorem dn_Circuit_layLinks_105 : decode bn_Circuit_layLinks 105 = .ok (.iaload, 1) := by decide +kernel
theorem dn_Circuit_layLinks_106 : decode bn_Circuit_layLinks 106 = .ok (.iaload, 1) := by decide +kernel
theorem dn_Circuit_layLinks_107 : decode bn_Circuit_layLinks 107 = .ok (.ifCond .ne 43, 3) := by decide +kernel
theorem dn_Circuit_layLinks_110 : decode bn_Circuit_layLinks 110 = .ok (.aload_n 0, 1) := by decide +kernel
theorem dn_Circuit_layLinks_111 : decode bn_Circuit_layLinks 111 = .ok (.getfield 34, 3) := by decide +kernel
theorem dn_Circuit_layLinks_114 : decode bn_Circuit_layLinks 114 = .ok (.iload 7, 2) := by decide +kernel
theorem dn_Circuit_layLinks_116 : decode bn_Circuit_layLinks 116 = .ok (.aload_n 2, 1) := by decide +kernel
theorem dn_Circuit_layLinks_117 : decode bn_Circuit_layLinks 117 = .ok (.getfield 114, 3) := by decide +kernel
theorem dn_Circuit_layLinks_120 : decode bn_Circuit_layLinks 120 = .ok (.iload 6, 2) := by decide +kernel
theorem dn_Circuit_layLinks_122 : decode bn_Circuit_layLinks 122 = .ok (.iaload, 1) := by decide +kernel
theorem dn_Circuit_layLinks_123 : decode bn_Circuit_layLinks 123 = .ok (.iastore, 1) := by decide +kernel
theorem dn_Circuit_layLinks_124 : decode bn_Circuit_layLinks 124 = .ok (.aload_n 0, 1) := by decide +kernel
theorem dn_Circuit_layLinks_125 : decode bn_Circuit_layLinks 125 = .ok (.getfield 37, 3) := by decide +kernel
theorem dn_Circuit_layLinks_128 : decode bn_Circuit_layLinks 128 = .ok (.iload 7, 2) := by decide +kernel
theorem dn_Circuit_layLinks_130 : decode bn_Circuit_layLinks 130 = .ok (.aload_n 2, 1) := by decide +kernel
theorem dn_Circuit_layLinks_131 : decode bn_Circuit_layLinks 131 = .ok (.getfield 121, 3) := by decide +kernel
theorem dn_Circuit_layLinks_134 : decode bn_Circuit_layLinks 134 = .ok (.iload 6, 2) := by decide +kernel
theorem dn_Circuit_layLinks_136 : decode bn_Circuit_layLinks 136 = .ok (.iaload, 1) := by decide +kernel
theorem dn_Circuit_layLinks_137 : decode bn_Circuit_layLinks 137 = .ok (.iastore, 1) := by decide +kernel
theorem dn_Circuit_layLinks_138 : decode bn_Circuit_layLinks 138 = .ok (.aload_n 0, 1) := by decide +kernel
theorem dn_Circuit_layLinks_139 : decode bn_Circuit_layLinks 139 = .ok (.getfield 40, 3) := by decide +kernel
theorem dn_Circuit_layLinks_142 : decode bn_Circuit_layLinks 142 = .ok (.iload 7, 2) := by decide +kernel
theorem dn_Circuit_layLinks_144 : decode bn_Circuit_layLinks 144 = .ok (.iload 4, 2) := by decide +kernel
theorem dn_Circuit_layLinks_146 : decode bn_Circuit_layLinks 146 = .ok (.iastore, 1) := by decide +kernel
theorem dn_Circuit_layLinks_147 : decode bn_Circuit_layLinks 147 = .ok (.goto 21, 3) := by decide +kernel
theorem dn_Circuit_layLinks_150 : decode bn_Circuit_layLinks 150 = .ok (.aload_n 0, 1) := by decide +kernel
theorem dn_Circuit_layLinks_151 : decode bn_Circuit_layLinks 151 = .ok (.iload 8, 2) := by decide +kernel
theorem dn_Circuit_layLinks_153 : decode bn_Circuit_layLinks 153 = .ok (.invokevirtual 117, 3) := by decide +kernel
theorem dn_Circuit_layLinks_156 : decode bn_Circuit_layLinks 156 = .ok (.ifCond .eq 12, 3) := by decide +kernel
theorem dn_Circuit_layLinks_159 : decode bn_Circuit_layLinks 159 = .ok (.aload_n 0, 1) := by decide +kernel
theorem dn_Circuit_layLinks_160 : decode bn_Circuit_layLinks 160 = .ok (.getfield 43, 3) := by decide +kernel
theorem dn_Circuit_layLinks_163 : decode bn_Circuit_layLinks 163 = .ok (.iload 8, 2) := by decide +kernel
theorem dn_Circuit_layLinks_165 : decode bn_Circuit_layLinks 165 = .ok (.iload 7, 2) := by decide +kernel
theorem dn_Circuit_layLinks_167 : decode bn_Circuit_layLinks 167 = .ok (.iastore, 1) := by decide +kernel
theorem dn_Circuit_layLinks_168 : decode bn_Circuit_layLinks 168 = .ok (.iinc 6 1, 3) := by decide +kernel
theorem dn_Circuit_layLinks_171 : decode bn_Circuit_layLinks 171 = .ok (.goto (-118), 3) := by decide +kernel
theorem dn_Circuit_layLinks_174 : decode bn_Circuit_layLinks 174 = .ok (.return_, 1) := by decide +kernel
theorem dn_Circuit_laySignals_0 : decode bn_Circuit_laySignals 0 = .ok (.aload_n 0, 1) := by decide +kernel
theorem dn_Circuit_laySignals_1 : decode bn_Circuit_laySignals 1 = .ok (.getfield 18, 3) := by decide +kernel
theorem dn_Circuit_laySignals_4 : decode bn_Circuit_laySignals 4 = .ok (.iload_n 1, 1) := by decide +kernel
theorem dn_Circuit_laySignals_5 : decode bn_Circuit_laySignals 5 = .ok (.iaload, 1) := by decide +kernel
theorem dn_Circuit_laySignals_6 : decode bn_Circuit_laySignals 6 = .ok (.istore_n 2, 1) := by decide +kernel
theorem dn_Circuit_laySignals_7 : decode bn_Circuit_laySignals 7 = .ok (.aload_n 0, 1) := by decide +kernel
theorem dn_Circuit_laySignals_8 : decode bn_Circuit_laySignals 8 = .ok (.getfield 12, 3) := by decide +kernel
theorem dn_Circuit_laySignals_11 : decode bn_Circuit_laySignals 11 = .ok (.aload_n 0, 1) := by decide +kernel
theorem dn_Circuit_laySignals_12 : decode bn_Circuit_laySignals 12 = .ok (.getfield 22, 3) := by decide +kernel
theorem dn_Circuit_laySignals_15 : decode bn_Circuit_laySignals 15 = .ok (.iload_n 1, 1) := by decide +kernel
theorem dn_Circuit_laySignals_16 : decode bn_Circuit_laySignals 16 = .ok (.iaload, 1) := by decide +kernel
theorem dn_Circuit_laySignals_17 : decode bn_Circuit_laySignals 17 = .ok (.invokevirtual 79, 3) := by decide +kernel
theorem dn_Circuit_laySignals_20 : decode bn_Circuit_laySignals 20 = .ok (.istore_n 3, 1) := by decide +kernel
theorem dn_Circuit_laySignals_21 : decode bn_Circuit_laySignals 21 = .ok (.aload_n 0, 1) := by decide +kernel
theorem dn_Circuit_laySignals_22 : decode bn_Circuit_laySignals 22 = .ok (.aload_n 0, 1) := by decide +kernel
theorem dn_Circuit_laySignals_23 : decode bn_Circuit_laySignals 23 = .ok (.getfield 22, 3) := by decide +kernel
theorem dn_Circuit_laySignals_26 : decode bn_Circuit_laySignals 26 = .ok (.iload_n 1, 1) := by decide +kernel
theorem dn_Circuit_laySignals_27 : decode bn_Circuit_laySignals 27 = .ok (.iaload, 1) := by decide +kernel
theorem dn_Circuit_laySignals_28 : decode bn_Circuit_laySignals 28 = .ok (.invokevirtual 82, 3) := by decide +kernel
theorem dn_Circuit_laySignals_31 : decode bn_Circuit_laySignals 31 = .ok (.istore 4, 2) := by decide +kernel
theorem dn_Circuit_laySignals_33 : decode bn_Circuit_laySignals 33 = .ok (.iconst 0, 1) := by decide +kernel
theorem dn_Circuit_laySignals_34 : decode bn_Circuit_laySignals 34 = .ok (.istore 5, 2) := by decide +kernel
theorem dn_Circuit_laySignals_36 : decode bn_Circuit_laySignals 36 = .ok (.iload 5, 2) := by decide +kernel
theorem dn_Circuit_laySignals_38 : decode bn_Circuit_laySignals 38 = .ok (.iload 4, 2) := by decide +kernel
theorem dn_Circuit_laySignals_40 : decode bn_Circuit_laySignals 40 = .ok (.if_icmp .ge 145, 3) := by decide +kernel
theorem dn_Circuit_laySignals_43 : decode bn_Circuit_laySignals 43 = .ok (.iload_n 2, 1) := by decide +kernel
theorem dn_Circuit_laySignals_44 : decode bn_Circuit_laySignals 44 = .ok (.iload 5, 2) := by decide +kernel
theorem dn_Circuit_laySignals_46 : decode bn_Circuit_laySignals 46 = .ok (.iadd, 1) := by decide +kernel
theorem dn_Circuit_laySignals_47 : decode bn_Circuit_laySignals 47 = .ok (.aload_n 0, 1) := by decide +kernel
theorem dn_Circuit_laySignals_48 : decode bn_Circuit_laySignals 48 = .ok (.getfield 66, 3) := by decide +kernel
theorem dn_Circuit_laySignals_51 : decode bn_Circuit_laySignals 51 = .ok (.if_icmp .ge 134, 3) := by decide +kernel
theorem dn_Circuit_laySignals_54 : decode bn_Circuit_laySignals 54 = .ok (.aload_n 0, 1) := by decide +kernel
theorem dn_Circuit_laySignals_55 : decode bn_Circuit_laySignals 55 = .ok (.getfield 12, 3) := by decide +kernel
theorem dn_Circuit_laySignals_58 : decode bn_Circuit_laySignals 58 = .ok (.getfield 88, 3) := by decide +kernel
theorem dn_Circuit_laySignals_61 : decode bn_Circuit_laySignals 61 = .ok (.getfield 100, 3) := by decide +kernel
theorem dn_Circuit_laySignals_64 : decode bn_Circuit_laySignals 64 = .ok (.iload_n 3, 1) := by decide +kernel
theorem dn_Circuit_laySignals_65 : decode bn_Circuit_laySignals 65 = .ok (.iload 5, 2) := by decide +kernel
theorem dn_Circuit_laySignals_67 : decode bn_Circuit_laySignals 67 = .ok (.iadd, 1) := by decide +kernel
theorem dn_Circuit_laySignals_68 : decode bn_Circuit_laySignals 68 = .ok (.iaload, 1) := by decide +kernel
theorem dn_Circuit_laySignals_69 : decode bn_Circuit_laySignals 69 = .ok (.iconst 1, 1) := by decide +kernel
theorem dn_Circuit_laySignals_70 : decode bn_Circuit_laySignals 70 = .ok (.if_icmp .ne 7, 3) := by decide +kernel
theorem dn_Circuit_laySignals_73 : decode bn_Circuit_laySignals 73 = .ok (.iconst 1, 1) := by decide +kernel
theorem dn_Circuit_laySignals_74 : decode bn_Circuit_laySignals 74 = .ok (.goto 4, 3) := by decide +kernel
theorem dn_Circuit_laySignals_77 : decode bn_Circuit_laySignals 77 = .ok (.iconst 0, 1) := by decide +kernel
theorem dn_Circuit_laySignals_78 : decode bn_Circuit_laySignals 78 = .ok (.istore 6, 2) := by decide +kernel
theorem dn_Circuit_laySignals_80 : decode bn_Circuit_laySignals 80 = .ok (.aload_n 0, 1) := by decide +kernel
theorem dn_Circuit_laySignals_81 : decode bn_Circuit_laySignals 81 = .ok (.getfield 31, 3) := by decide +kernel
theorem dn_Circuit_laySignals_84 : decode bn_Circuit_laySignals 84 = .ok (.iload_n 2, 1) := by decide +kernel
theorem dn_Circuit_laySignals_85 : decode bn_Circuit_laySignals 85 = .ok (.iload 5, 2) := by decide +kernel
theorem dn_Circuit_laySignals_87 : decode bn_Circuit_laySignals 87 = .ok (.iadd, 1) := by decide +kernel
theorem dn_Circuit_laySignals_88 : decode bn_Circuit_laySignals 88 = .ok (.iload_n 3, 1) := by decide +kernel
theorem dn_Circuit_laySignals_89 : decode bn_Circuit_laySignals 89 = .ok (.iload 5, 2) := by decide +kernel
theorem dn_Circuit_laySignals_91 : decode bn_Circuit_laySignals 91 = .ok (.iadd, 1) := by decide +kernel
theorem dn_Circuit_laySignals_92 : decode bn_Circuit_laySignals 92 = .ok (.iastore, 1) := by decide +kernel
theorem dn_Circuit_laySignals_93 : decode bn_Circuit_laySignals 93 = .ok (.aload_n 0, 1) := by decide +kernel
theorem dn_Circuit_laySignals_94 : decode bn_Circuit_laySignals 94 = .ok (.getfield 34, 3) := by decide +kernel
theorem dn_Circuit_laySignals_97 : decode bn_Circuit_laySignals 97 = .ok (.iload_n 2, 1) := by decide +kernel
theorem dn_Circuit_laySignals_98 : decode bn_Circuit_laySignals 98 = .ok (.iload 5, 2) := by decide +kernel
theorem dn_Circuit_laySignals_100 : decode bn_Circuit_laySignals 100 = .ok (.iadd, 1) := by decide +kernel
theorem dn_Circuit_laySignals_101 : decode bn_Circuit_laySignals 101 = .ok (.iload 6, 2) := by decide +kernel
theorem dn_Circuit_laySignals_103 : decode bn_Circuit_laySignals 103 = .ok (.ifCond .eq 21, 3) := by decide +kernel
theorem dn_Circuit_laySignals_106 : decode bn_Circuit_laySignals 106 = .ok (.aload_n 0, 1) := by decide +kernel
theorem dn_Circuit_laySignals_107 : decode bn_Circuit_laySignals 107 = .ok (.getfield 12, 3) := by decide +kernel
theorem dn_Circuit_laySignals_110 : decode bn_Circuit_laySignals 110 = .ok (.getfield 88, 3) := by decide +kernel
theorem dn_Circuit_laySignals_113 : decode bn_Circuit_laySignals 113 = .ok (.getfield 103, 3) := by decide +kernel
theorem dn_Circuit_laySignals_116 : decode bn_Circuit_laySignals 116 = .ok (.iload_n 3, 1) := by decide +kernel
theorem dn_Circuit_laySignals_117 : decode bn_Circuit_laySignals 117 = .ok (.iload 5, 2) := by decide +kernel
theorem dn_Circuit_laySignals_119 : decode bn_Circuit_laySignals 119 = .ok (.iadd, 1) := by decide +kernel
theorem dn_Circuit_laySignals_120 : decode bn_Circuit_laySignals 120 = .ok (.iaload, 1) := by decide +kernel
theorem dn_Circuit_laySignals_121 : decode bn_Circuit_laySignals 121 = .ok (.goto 4, 3) := by decide +kernel
theorem dn_Circuit_laySignals_124 : decode bn_Circuit_laySignals 124 = .ok (.iconst 0, 1) := by decide +kernel
theorem dn_Circuit_laySignals_125 : decode bn_Circuit_laySignals 125 = .ok (.iastore, 1) := by decide +kernel
theorem dn_Circuit_laySignals_126 : decode bn_Circuit_laySignals 126 = .ok (.aload_n 0, 1) := by decide +kernel
theorem dn_Circuit_laySignals_127 : decode bn_Circuit_laySignals 127 = .ok (.getfield 37, 3) := by decide +kernel
theorem dn_Circuit_laySignals_130 : decode bn_Circuit_laySignals 130 = .ok (.iload_n 2, 1) := by decide +kernel
theorem dn_Circuit_laySignals_131 : decode bn_Circuit_laySignals 131 = .ok (.iload 5, 2) := by decide +kernel
theorem dn_Circuit_laySignals_133 : decode bn_Circuit_laySignals 133 = .ok (.iadd, 1) := by decide +kernel
theorem dn_Circuit_laySignals_134 : decode bn_Circuit_laySignals 134 = .ok (.iload 6, 2) := by decide +kernel
theorem dn_Circuit_laySignals_136 : decode bn_Circuit_laySignals 136 = .ok (.ifCond .eq 21, 3) := by decide +kernel
theorem dn_Circuit_laySignals_139 : decode bn_Circuit_laySignals 139 = .ok (.aload_n 0, 1) := by decide +kernel
theorem dn_Circuit_laySignals_140 : decode bn_Circuit_laySignals 140 = .ok (.getfield 12, 3) := by decide +kernel
theorem dn_Circuit_laySignals_143 : decode bn_Circuit_laySignals 143 = .ok (.getfield 88, 3) := by decide +kernel
theorem dn_Circuit_laySignals_146 : decode bn_Circuit_laySignals 146 = .ok (.getfield 104, 3) := by decide +kernel
theorem dn_Circuit_laySignals_149 : decode bn_Circuit_laySignals 149 = .ok (.iload_n 3, 1) := by decide +kernel
theorem dn_Circuit_laySignals_150 : decode bn_Circuit_laySignals 150 = .ok (.iload 5, 2) := by decide +kernel
theorem dn_Circuit_laySignals_152 : decode bn_Circuit_laySignals 152 = .ok (.iadd, 1) := by decide +kernel
theorem dn_Circuit_laySignals_153 : decode bn_Circuit_laySignals 153 = .ok (.iaload, 1) := by decide +kernel
theorem dn_Circuit_laySignals_154 : decode bn_Circuit_laySignals 154 = .ok (.goto 4, 3) := by decide +kernel
theorem dn_Circuit_laySignals_157 : decode bn_Circuit_laySignals 157 = .ok (.iconst 0, 1) := by decide +kernel
theorem dn_Circuit_laySignals_158 : decode bn_Circuit_laySignals 158 = .ok (.iastore, 1) := by decide +kernel
theorem dn_Circuit_laySignals_159 : decode bn_Circuit_laySignals 159 = .ok (.aload_n 0, 1) := by decide +kernel
theorem dn_Circuit_laySignals_160 : decode bn_Circuit_laySignals 160 = .ok (.getfield 40, 3) := by decide +kernel
theorem dn_Circuit_laySignals_163 : decode bn_Circuit_laySignals 163 = .ok (.iload_n 2, 1) := by decide +kernel
theorem dn_Circuit_laySignals_164 : decode bn_Circuit_laySignals 164 = .ok (.iload 5, 2) := by decide +kernel
theorem dn_Circuit_laySignals_166 : decode bn_Circuit_laySignals 166 = .ok (.iadd, 1) := by decide +kernel
theorem dn_Circuit_laySignals_167 : decode bn_Circuit_laySignals 167 = .ok (.iload_n 2, 1) := by decide +kernel
theorem dn_Circuit_laySignals_168 : decode bn_Circuit_laySignals 168 = .ok (.iastore, 1) := by decide +kernel
theorem dn_Circuit_laySignals_169 : decode bn_Circuit_laySignals 169 = .ok (.aload_n 0, 1) := by decide +kernel
theorem dn_Circuit_laySignals_170 : decode bn_Circuit_laySignals 170 = .ok (.getfield 43, 3) := by decide +kernel
theorem dn_Circuit_laySignals_173 : decode bn_Circuit_laySignals 173 = .ok (.iload_n 2, 1) := by decide +kernel
theorem dn_Circuit_laySignals_174 : decode bn_Circuit_laySignals 174 = .ok (.iload 5, 2) := by decide +kernel
theorem dn_Circuit_laySignals_176 : decode bn_Circuit_laySignals 176 = .ok (.iadd, 1) := by decide +kernel
theorem dn_Circuit_laySignals_177 : decode bn_Circuit_laySignals 177 = .ok (.iconst (-1), 1) := by decide +kernel
theorem dn_Circuit_laySignals_178 : decode bn_Circuit_laySignals 178 = .ok (.iastore, 1) := by decide +kernel
theorem dn_Circuit_laySignals_179 : decode bn_Circuit_laySignals 179 = .ok (.iinc 5 1, 3) := by decide +kernel
theorem dn_Circuit_laySignals_182 : decode bn_Circuit_laySignals 182 = .ok (.goto (-146), 3) := by decide +kernel
theorem dn_Circuit_laySignals_185 : decode bn_Circuit_laySignals 185 = .ok (.return_, 1) := by decide +kernel
theorem dn_Circuit_ownSignals_0 : decode bn_Circuit_ownSignals 0 = .ok (.aload_n 0, 1) := by decide +kernel
theorem dn_Circuit_ownSignals_1 : decode bn_Circuit_ownSignals 1 = .ok (.getfield 12, 3) := by decide +kernel
theorem dn_Circuit_ownSignals_4 : decode bn_Circuit_ownSignals 4 = .ok (.iload_n 1, 1) := by decide +kernel
theorem dn_Circuit_ownSignals_5 : decode bn_Circuit_ownSignals 5 = .ok (.iconst 1, 1) := by decide +kernel
theorem dn_Circuit_ownSignals_6 : decode bn_Circuit_ownSignals 6 = .ok (.iadd, 1) := by decide +kernel
theorem dn_Circuit_ownSignals_7 : decode bn_Circuit_ownSignals 7 = .ok (.invokevirtual 79, 3) := by decide +kernel
theorem dn_Circuit_ownSignals_10 : decode bn_Circuit_ownSignals 10 = .ok (.aload_n 0, 1) := by decide +kernel
theorem dn_Circuit_ownSignals_11 : decode bn_Circuit_ownSignals 11 = .ok (.getfield 12, 3) := by decide +kernel
theorem dn_Circuit_ownSignals_14 : decode bn_Circuit_ownSignals 14 = .ok (.iload_n 1, 1) := by decide +kernel
theorem dn_Circuit_ownSignals_15 : decode bn_Circuit_ownSignals 15 = .ok (.invokevirtual 79, 3) := by decide +kernel
theorem dn_Circuit_ownSignals_18 : decode bn_Circuit_ownSignals 18 = .ok (.isub, 1) := by decide +kernel
theorem dn_Circuit_ownSignals_19 : decode bn_Circuit_ownSignals 19 = .ok (.ireturn, 1) := by decide +kernel
theorem dn_Circuit_placeOf_0 : decode bn_Circuit_placeOf 0 = .ok (.aload_n 0, 1) := by decide +kernel
theorem dn_Circuit_placeOf_1 : decode bn_Circuit_placeOf 1 = .ok (.iload_n 1, 1) := by decide +kernel
theorem dn_Circuit_placeOf_2 : decode bn_Circuit_placeOf 2 = .ok (.invokevirtual 117, 3) := by decide +kernel
theorem dn_Circuit_placeOf_5 : decode bn_Circuit_placeOf 5 = .ok (.ifCond .eq 23, 3) := by decide +kernel
theorem dn_Circuit_placeOf_8 : decode bn_Circuit_placeOf 8 = .ok (.aload_n 0, 1) := by decide +kernel
theorem dn_Circuit_placeOf_9 : decode bn_Circuit_placeOf 9 = .ok (.getfield 12, 3) := by decide +kernel
theorem dn_Circuit_placeOf_12 : decode bn_Circuit_placeOf 12 = .ok (.getfield 88, 3) := by decide +kernel
theorem dn_Circuit_placeOf_15 : decode bn_Circuit_placeOf 15 = .ok (.getfield 127, 3) := by decide +kernel
theorem dn_Circuit_placeOf_18 : decode bn_Circuit_placeOf 18 = .ok (.aload_n 0, 1) := by decide +kernel
theorem dn_Circuit_placeOf_19 : decode bn_Circuit_placeOf 19 = .ok (.getfield 31, 3) := by decide +kernel
theorem dn_Circuit_placeOf_22 : decode bn_Circuit_placeOf 22 = .ok (.iload_n 1, 1) := by decide +kernel
theorem dn_Circuit_placeOf_23 : decode bn_Circuit_placeOf 23 = .ok (.iaload, 1) := by decide +kernel
theorem dn_Circuit_placeOf_24 : decode bn_Circuit_placeOf 24 = .ok (.iaload, 1) := by decide +kernel
theorem dn_Circuit_placeOf_25 : decode bn_Circuit_placeOf 25 = .ok (.goto 4, 3) := by decide +kernel
theorem dn_Circuit_placeOf_28 : decode bn_Circuit_placeOf 28 = .ok (.iconst (-1), 1) := by decide +kernel
theorem dn_Circuit_placeOf_29 : decode bn_Circuit_placeOf 29 = .ok (.ireturn, 1) := by decide +kernel
theorem dn_Circuit_seek_0 : decode bn_Circuit_seek 0 = .ok (.iconst 0, 1) := by decide +kernel
theorem dn_Circuit_seek_1 : decode bn_Circuit_seek 1 = .ok (.istore_n 3, 1) := by decide +kernel
theorem dn_Circuit_seek_2 : decode bn_Circuit_seek 2 = .ok (.iconst 0, 1) := by decide +kernel
theorem dn_Circuit_seek_3 : decode bn_Circuit_seek 3 = .ok (.istore 4, 2) := by decide +kernel
theorem dn_Circuit_seek_5 : decode bn_Circuit_seek 5 = .ok (.iconst 0, 1) := by decide +kernel
theorem dn_Circuit_seek_6 : decode bn_Circuit_seek 6 = .ok (.istore 5, 2) := by decide +kernel
theorem dn_Circuit_seek_8 : decode bn_Circuit_seek 8 = .ok (.iload 5, 2) := by decide +kernel
theorem dn_Circuit_seek_10 : decode bn_Circuit_seek 10 = .ok (.iload_n 2, 1) := by decide +kernel
theorem dn_Circuit_seek_11 : decode bn_Circuit_seek 11 = .ok (.if_icmp .ge 47, 3) := by decide +kernel
theorem dn_Circuit_seek_14 : decode bn_Circuit_seek 14 = .ok (.iload 5, 2) := by decide +kernel
theorem dn_Circuit_seek_16 : decode bn_Circuit_seek 16 = .ok (.aload_n 1, 1) := by decide +kernel
theorem dn_Circuit_seek_17 : decode bn_Circuit_seek 17 = .ok (.arraylength, 1) := by decide +kernel
theorem dn_Circuit_seek_18 : decode bn_Circuit_seek 18 = .ok (.if_icmp .ge 40, 3) := by decide +kernel
theorem dn_Circuit_seek_21 : decode bn_Circuit_seek 21 = .ok (.iload_n 3, 1) := by decide +kernel
theorem dn_Circuit_seek_22 : decode bn_Circuit_seek 22 = .ok (.iconst (-1), 1) := by decide +kernel
theorem dn_Circuit_seek_23 : decode bn_Circuit_seek 23 = .ok (.if_icmp .eq 35, 3) := by decide +kernel
theorem dn_Circuit_seek_26 : decode bn_Circuit_seek 26 = .ok (.aload_n 1, 1) := by decide +kernel
theorem dn_Circuit_seek_27 : decode bn_Circuit_seek 27 = .ok (.iload 5, 2) := by decide +kernel
theorem dn_Circuit_seek_29 : decode bn_Circuit_seek 29 = .ok (.baload, 1) := by decide +kernel
theorem dn_Circuit_seek_30 : decode bn_Circuit_seek 30 = .ok (.bipush 46, 2) := by decide +kernel
theorem dn_Circuit_seek_32 : decode bn_Circuit_seek 32 = .ok (.if_icmp .ne 20, 3) := by decide +kernel
theorem dn_Circuit_seek_35 : decode bn_Circuit_seek 35 = .ok (.aload_n 0, 1) := by decide +kernel
theorem dn_Circuit_seek_36 : decode bn_Circuit_seek 36 = .ok (.iload_n 3, 1) := by decide +kernel
theorem dn_Circuit_seek_37 : decode bn_Circuit_seek 37 = .ok (.aload_n 1, 1) := by decide +kernel
theorem dn_Circuit_seek_38 : decode bn_Circuit_seek 38 = .ok (.iload 4, 2) := by decide +kernel
theorem dn_Circuit_seek_40 : decode bn_Circuit_seek 40 = .ok (.iload 5, 2) := by decide +kernel
theorem dn_Circuit_seek_42 : decode bn_Circuit_seek 42 = .ok (.invokevirtual 134, 3) := by decide +kernel
theorem dn_Circuit_seek_45 : decode bn_Circuit_seek 45 = .ok (.istore_n 3, 1) := by decide +kernel
theorem dn_Circuit_seek_46 : decode bn_Circuit_seek 46 = .ok (.iload 5, 2) := by decide +kernel
theorem dn_Circuit_seek_48 : decode bn_Circuit_seek 48 = .ok (.iconst 1, 1) := by decide +kernel
theorem dn_Circuit_seek_49 : decode bn_Circuit_seek 49 = .ok (.iadd, 1) := by decide +kernel
theorem dn_Circuit_seek_50 : decode bn_Circuit_seek 50 = .ok (.istore 4, 2) := by decide +kernel
theorem dn_Circuit_seek_52 : decode bn_Circuit_seek 52 = .ok (.iinc 5 1, 3) := by decide +kernel
theorem dn_Circuit_seek_55 : decode bn_Circuit_seek 55 = .ok (.goto (-47), 3) := by decide +kernel
theorem dn_Circuit_seek_58 : decode bn_Circuit_seek 58 = .ok (.iload_n 3, 1) := by decide +kernel
theorem dn_Circuit_seek_59 : decode bn_Circuit_seek 59 = .ok (.iconst (-1), 1) := by decide +kernel
theorem dn_Circuit_seek_60 : decode bn_Circuit_seek 60 = .ok (.if_icmp .ne 7, 3) := by decide +kernel
theorem dn_Circuit_seek_63 : decode bn_Circuit_seek 63 = .ok (.iconst (-1), 1) := by decide +kernel
theorem dn_Circuit_seek_64 : decode bn_Circuit_seek 64 = .ok (.goto 12, 3) := by decide +kernel
theorem dn_Circuit_seek_67 : decode bn_Circuit_seek 67 = .ok (.aload_n 0, 1) := by decide +kernel
theorem dn_Circuit_seek_68 : decode bn_Circuit_seek 68 = .ok (.iload_n 3, 1) := by decide +kernel
theorem dn_Circuit_seek_69 : decode bn_Circuit_seek 69 = .ok (.aload_n 1, 1) := by decide +kernel
theorem dn_Circuit_seek_70 : decode bn_Circuit_seek 70 = .ok (.iload 4, 2) := by decide +kernel
theorem dn_Circuit_seek_72 : decode bn_Circuit_seek 72 = .ok (.iload_n 2, 1) := by decide +kernel
theorem dn_Circuit_seek_73 : decode bn_Circuit_seek 73 = .ok (.invokevirtual 138, 3) := by decide +kernel
theorem dn_Circuit_seek_76 : decode bn_Circuit_seek 76 = .ok (.ireturn, 1) := by decide +kernel
theorem dn_Circuit_signalCalled_0 : decode bn_Circuit_signalCalled 0 = .ok (.aload_n 0, 1) := by decide +kernel
theorem dn_Circuit_signalCalled_1 : decode bn_Circuit_signalCalled 1 = .ok (.getfield 18, 3) := by decide +kernel
theorem dn_Circuit_signalCalled_4 : decode bn_Circuit_signalCalled 4 = .ok (.iload_n 1, 1) := by decide +kernel
theorem dn_Circuit_signalCalled_5 : decode bn_Circuit_signalCalled 5 = .ok (.iaload, 1) := by decide +kernel
theorem dn_Circuit_signalCalled_6 : decode bn_Circuit_signalCalled 6 = .ok (.aload_n 0, 1) := by decide +kernel
theorem dn_Circuit_signalCalled_7 : decode bn_Circuit_signalCalled 7 = .ok (.aload_n 0, 1) := by decide +kernel
theorem dn_Circuit_signalCalled_8 : decode bn_Circuit_signalCalled 8 = .ok (.getfield 22, 3) := by decide +kernel
theorem dn_Circuit_signalCalled_11 : decode bn_Circuit_signalCalled 11 = .ok (.iload_n 1, 1) := by decide +kernel
theorem dn_Circuit_signalCalled_12 : decode bn_Circuit_signalCalled 12 = .ok (.iaload, 1) := by decide +kernel
theorem dn_Circuit_signalCalled_13 : decode bn_Circuit_signalCalled 13 = .ok (.invokevirtual 82, 3) := by decide +kernel
theorem dn_Circuit_signalCalled_16 : decode bn_Circuit_signalCalled 16 = .ok (.iadd, 1) := by decide +kernel
theorem dn_Circuit_signalCalled_17 : decode bn_Circuit_signalCalled 17 = .ok (.istore 5, 2) := by decide +kernel
theorem dn_Circuit_signalCalled_19 : decode bn_Circuit_signalCalled 19 = .ok (.aload_n 0, 1) := by decide +kernel
theorem dn_Circuit_signalCalled_20 : decode bn_Circuit_signalCalled 20 = .ok (.getfield 18, 3) := by decide +kernel
theorem dn_Circuit_signalCalled_23 : decode bn_Circuit_signalCalled 23 = .ok (.iload_n 1, 1) := by decide +kernel
theorem dn_Circuit_signalCalled_24 : decode bn_Circuit_signalCalled 24 = .ok (.iaload, 1) := by decide +kernel
theorem dn_Circuit_signalCalled_25 : decode bn_Circuit_signalCalled 25 = .ok (.istore 6, 2) := by decide +kernel
theorem dn_Circuit_signalCalled_27 : decode bn_Circuit_signalCalled 27 = .ok (.iload 6, 2) := by decide +kernel
theorem dn_Circuit_signalCalled_29 : decode bn_Circuit_signalCalled 29 = .ok (.iload 5, 2) := by decide +kernel
theorem dn_Circuit_signalCalled_31 : decode bn_Circuit_signalCalled 31 = .ok (.if_icmp .ge 32, 3) := by decide +kernel
theorem dn_Circuit_signalCalled_34 : decode bn_Circuit_signalCalled 34 = .ok (.aload_n 0, 1) := by decide +kernel
theorem dn_Circuit_signalCalled_35 : decode bn_Circuit_signalCalled 35 = .ok (.getfield 12, 3) := by decide +kernel
theorem dn_Circuit_signalCalled_38 : decode bn_Circuit_signalCalled 38 = .ok (.aload_n 0, 1) := by decide +kernel
theorem dn_Circuit_signalCalled_39 : decode bn_Circuit_signalCalled 39 = .ok (.iload 6, 2) := by decide +kernel
theorem dn_Circuit_signalCalled_41 : decode bn_Circuit_signalCalled 41 = .ok (.invokevirtual 148, 3) := by decide +kernel
theorem dn_Circuit_signalCalled_44 : decode bn_Circuit_signalCalled 44 = .ok (.aload_n 2, 1) := by decide +kernel
theorem dn_Circuit_signalCalled_45 : decode bn_Circuit_signalCalled 45 = .ok (.iload_n 3, 1) := by decide +kernel
theorem dn_Circuit_signalCalled_46 : decode bn_Circuit_signalCalled 46 = .ok (.iload 4, 2) := by decide +kernel
theorem dn_Circuit_signalCalled_48 : decode bn_Circuit_signalCalled 48 = .ok (.invokevirtual 144, 3) := by decide +kernel
theorem dn_Circuit_signalCalled_51 : decode bn_Circuit_signalCalled 51 = .ok (.ifCond .eq 6, 3) := by decide +kernel
theorem dn_Circuit_signalCalled_54 : decode bn_Circuit_signalCalled 54 = .ok (.iload 6, 2) := by decide +kernel
theorem dn_Circuit_signalCalled_56 : decode bn_Circuit_signalCalled 56 = .ok (.ireturn, 1) := by decide +kernel
theorem dn_Circuit_signalCalled_57 : decode bn_Circuit_signalCalled 57 = .ok (.iinc 6 1, 3) := by decide +kernel
theorem dn_Circuit_signalCalled_60 : decode bn_Circuit_signalCalled 60 = .ok (.goto (-33), 3) := by decide +kernel
theorem dn_Circuit_signalCalled_63 : decode bn_Circuit_signalCalled 63 = .ok (.iconst (-1), 1) := by decide +kernel
theorem dn_Circuit_signalCalled_64 : decode bn_Circuit_signalCalled 64 = .ok (.ireturn, 1) := by decide +kernel
theorem dn_Circuit_sortOf_0 : decode bn_Circuit_sortOf 0 = .ok (.aload_n 0, 1) := by decide +kernel
theorem dn_Circuit_sortOf_1 : decode bn_Circuit_sortOf 1 = .ok (.iload_n 1, 1) := by decide +kernel
theorem dn_Circuit_sortOf_2 : decode bn_Circuit_sortOf 2 = .ok (.invokevirtual 117, 3) := by decide +kernel
theorem dn_Circuit_sortOf_5 : decode bn_Circuit_sortOf 5 = .ok (.ifCond .ne 5, 3) := by decide +kernel
theorem dn_Circuit_sortOf_8 : decode bn_Circuit_sortOf 8 = .ok (.iconst (-1), 1) := by decide +kernel
theorem dn_Circuit_sortOf_9 : decode bn_Circuit_sortOf 9 = .ok (.ireturn, 1) := by decide +kernel
theorem dn_Circuit_sortOf_10 : decode bn_Circuit_sortOf 10 = .ok (.aload_n 0, 1) := by decide +kernel
theorem dn_Circuit_sortOf_11 : decode bn_Circuit_sortOf 11 = .ok (.getfield 12, 3) := by decide +kernel
theorem dn_Circuit_sortOf_14 : decode bn_Circuit_sortOf 14 = .ok (.getfield 88, 3) := by decide +kernel
theorem dn_Circuit_sortOf_17 : decode bn_Circuit_sortOf 17 = .ok (.getfield 100, 3) := by decide +kernel
theorem dn_Circuit_sortOf_20 : decode bn_Circuit_sortOf 20 = .ok (.aload_n 0, 1) := by decide +kernel
theorem dn_Circuit_sortOf_21 : decode bn_Circuit_sortOf 21 = .ok (.getfield 31, 3) := by decide +kernel
theorem dn_Circuit_sortOf_24 : decode bn_Circuit_sortOf 24 = .ok (.iload_n 1, 1) := by decide +kernel
theorem dn_Circuit_sortOf_25 : decode bn_Circuit_sortOf 25 = .ok (.iaload, 1) := by decide +kernel
theorem dn_Circuit_sortOf_26 : decode bn_Circuit_sortOf 26 = .ok (.iaload, 1) := by decide +kernel
theorem dn_Circuit_sortOf_27 : decode bn_Circuit_sortOf 27 = .ok (.istore_n 2, 1) := by decide +kernel
theorem dn_Circuit_sortOf_28 : decode bn_Circuit_sortOf 28 = .ok (.iload_n 2, 1) := by decide +kernel
theorem dn_Circuit_sortOf_29 : decode bn_Circuit_sortOf 29 = .ok (.ifCond .ne 21, 3) := by decide +kernel
theorem dn_Circuit_sortOf_32 : decode bn_Circuit_sortOf 32 = .ok (.iload_n 1, 1) := by decide +kernel
theorem dn_Circuit_sortOf_33 : decode bn_Circuit_sortOf 33 = .ok (.aload_n 0, 1) := by decide +kernel
theorem dn_Circuit_sortOf_34 : decode bn_Circuit_sortOf 34 = .ok (.aload_n 0, 1) := by decide +kernel
theorem dn_Circuit_sortOf_35 : decode bn_Circuit_sortOf 35 = .ok (.getfield 22, 3) := by decide +kernel
theorem dn_Circuit_sortOf_38 : decode bn_Circuit_sortOf 38 = .ok (.iconst 0, 1) := by decide +kernel
theorem dn_Circuit_sortOf_39 : decode bn_Circuit_sortOf 39 = .ok (.iaload, 1) := by decide +kernel
theorem dn_Circuit_sortOf_40 : decode bn_Circuit_sortOf 40 = .ok (.invokevirtual 82, 3) := by decide +kernel
theorem dn_Circuit_sortOf_43 : decode bn_Circuit_sortOf 43 = .ok (.if_icmp .lt 7, 3) := by decide +kernel
theorem dn_Circuit_sortOf_46 : decode bn_Circuit_sortOf 46 = .ok (.iconst 1, 1) := by decide +kernel
theorem dn_Circuit_sortOf_47 : decode bn_Circuit_sortOf 47 = .ok (.goto 4, 3) := by decide +kernel
theorem dn_Circuit_sortOf_50 : decode bn_Circuit_sortOf 50 = .ok (.iload_n 2, 1) := by decide +kernel
theorem dn_Circuit_sortOf_51 : decode bn_Circuit_sortOf 51 = .ok (.ireturn, 1) := by decide +kernel
theorem dn_Circuit_widthOf_0 : decode bn_Circuit_widthOf 0 = .ok (.aload_n 0, 1) := by decide +kernel
theorem dn_Circuit_widthOf_1 : decode bn_Circuit_widthOf 1 = .ok (.iload_n 1, 1) := by decide +kernel
theorem dn_Circuit_widthOf_2 : decode bn_Circuit_widthOf 2 = .ok (.invokevirtual 117, 3) := by decide +kernel
theorem dn_Circuit_widthOf_5 : decode bn_Circuit_widthOf 5 = .ok (.ifCond .eq 23, 3) := by decide +kernel
theorem dn_Circuit_widthOf_8 : decode bn_Circuit_widthOf 8 = .ok (.aload_n 0, 1) := by decide +kernel
theorem dn_Circuit_widthOf_9 : decode bn_Circuit_widthOf 9 = .ok (.getfield 12, 3) := by decide +kernel
theorem dn_Circuit_widthOf_12 : decode bn_Circuit_widthOf 12 = .ok (.getfield 88, 3) := by decide +kernel
theorem dn_Circuit_widthOf_15 : decode bn_Circuit_widthOf 15 = .ok (.getfield 124, 3) := by decide +kernel
theorem dn_Circuit_widthOf_18 : decode bn_Circuit_widthOf 18 = .ok (.aload_n 0, 1) := by decide +kernel
theorem dn_Circuit_widthOf_19 : decode bn_Circuit_widthOf 19 = .ok (.getfield 31, 3) := by decide +kernel
theorem dn_Circuit_widthOf_22 : decode bn_Circuit_widthOf 22 = .ok (.iload_n 1, 1) := by decide +kernel
theorem dn_Circuit_widthOf_23 : decode bn_Circuit_widthOf 23 = .ok (.iaload, 1) := by decide +kernel
theorem dn_Circuit_widthOf_24 : decode bn_Circuit_widthOf 24 = .ok (.iaload, 1) := by decide +kernel
theorem dn_Circuit_widthOf_25 : decode bn_Circuit_widthOf 25 = .ok (.goto 4, 3) := by decide +kernel
theorem dn_Circuit_widthOf_28 : decode bn_Circuit_widthOf 28 = .ok (.iconst 1, 1) := by decide +kernel
theorem dn_Circuit_widthOf_29 : decode bn_Circuit_widthOf 29 = .ok (.ireturn, 1) := by decide +kernel
theorem dn_Code_aim_0 : decode bn_Code_aim 0 = .ok (.iload_n 1, 1) := by decide +kernel
theorem dn_Code_aim_1 : decode bn_Code_aim 1 = .ok (.ifCond .lt 33, 3) := by decide +kernel
theorem dn_Code_aim_4 : decode bn_Code_aim 4 = .ok (.iload_n 1, 1) := by decide +kernel
theorem dn_Code_aim_5 : decode bn_Code_aim 5 = .ok (.aload_n 0, 1) := by decide +kernel
theorem dn_Code_aim_6 : decode bn_Code_aim 6 = .ok (.getfield 23, 3) := by decide +kernel
theorem dn_Code_aim_9 : decode bn_Code_aim 9 = .ok (.if_icmp .ge 25, 3) := by decide +kernel
theorem dn_Code_aim_12 : decode bn_Code_aim 12 = .ok (.aload_n 0, 1) := by decide +kernel
theorem dn_Code_aim_13 : decode bn_Code_aim 13 = .ok (.getfield 10, 3) := by decide +kernel
theorem dn_Code_aim_16 : decode bn_Code_aim 16 = .ok (.iload_n 1, 1) := by decide +kernel
theorem dn_Code_aim_17 : decode bn_Code_aim 17 = .ok (.aload_n 0, 1) := by decide +kernel
theorem dn_Code_aim_18 : decode bn_Code_aim 18 = .ok (.getfield 10, 3) := by decide +kernel
theorem dn_Code_aim_21 : decode bn_Code_aim 21 = .ok (.iload_n 1, 1) := by decide +kernel
theorem dn_Code_aim_22 : decode bn_Code_aim 22 = .ok (.laload, 1) := by decide +kernel
theorem dn_Code_aim_23 : decode bn_Code_aim 23 = .ok (.ldc2_w 32, 3) := by decide +kernel
theorem dn_Code_aim_26 : decode bn_Code_aim 26 = .ok (.land, 1) := by decide +kernel
theorem dn_Code_aim_27 : decode bn_Code_aim 27 = .ok (.aload_n 0, 1) := by decide +kernel
theorem dn_Code_aim_28 : decode bn_Code_aim 28 = .ok (.getfield 23, 3) := by decide +kernel
theorem dn_Code_aim_31 : decode bn_Code_aim 31 = .ok (.i2l, 1) := by decide +kernel
theorem dn_Code_aim_32 : decode bn_Code_aim 32 = .ok (.lor, 1) := by decide +kernel
theorem dn_Code_aim_33 : decode bn_Code_aim 33 = .ok (.lastore, 1) := by decide +kernel
theorem dn_Code_aim_34 : decode bn_Code_aim 34 = .ok (.return_, 1) := by decide +kernel
theorem dn_Code_aimAll_0 : decode bn_Code_aimAll 0 = .ok (.iload_n 1, 1) := by decide +kernel
theorem dn_Code_aimAll_1 : decode bn_Code_aimAll 1 = .ok (.istore_n 2, 1) := by decide +kernel
theorem dn_Code_aimAll_2 : decode bn_Code_aimAll 2 = .ok (.iconst 0, 1) := by decide +kernel
theorem dn_Code_aimAll_3 : decode bn_Code_aimAll 3 = .ok (.istore_n 3, 1) := by decide +kernel
theorem dn_Code_aimAll_4 : decode bn_Code_aimAll 4 = .ok (.iload_n 3, 1) := by decide +kernel
theorem dn_Code_aimAll_5 : decode bn_Code_aimAll 5 = .ok (.aload_n 0, 1) := by decide +kernel
theorem dn_Code_aimAll_6 : decode bn_Code_aimAll 6 = .ok (.getfield 23, 3) := by decide +kernel
theorem dn_Code_aimAll_9 : decode bn_Code_aimAll 9 = .ok (.if_icmp .ge 36, 3) := by decide +kernel
theorem dn_Code_aimAll_12 : decode bn_Code_aimAll 12 = .ok (.iload_n 2, 1) := by decide +kernel
theorem dn_Code_aimAll_13 : decode bn_Code_aimAll 13 = .ok (.ifCond .lt 32, 3) := by decide +kernel
theorem dn_Code_aimAll_16 : decode bn_Code_aimAll 16 = .ok (.iload_n 2, 1) := by decide +kernel
theorem dn_Code_aimAll_17 : decode bn_Code_aimAll 17 = .ok (.aload_n 0, 1) := by decide +kernel
theorem dn_Code_aimAll_18 : decode bn_Code_aimAll 18 = .ok (.getfield 23, 3) := by decide +kernel
theorem dn_Code_aimAll_21 : decode bn_Code_aimAll 21 = .ok (.if_icmp .ge 24, 3) := by decide +kernel
theorem dn_Code_aimAll_24 : decode bn_Code_aimAll 24 = .ok (.aload_n 0, 1) := by decide +kernel
theorem dn_Code_aimAll_25 : decode bn_Code_aimAll 25 = .ok (.iload_n 2, 1) := by decide +kernel
theorem dn_Code_aimAll_26 : decode bn_Code_aimAll 26 = .ok (.invokevirtual 34, 3) := by decide +kernel
theorem dn_Code_aimAll_29 : decode bn_Code_aimAll 29 = .ok (.istore 4, 2) := by decide +kernel
theorem dn_Code_aimAll_31 : decode bn_Code_aimAll 31 = .ok (.aload_n 0, 1) := by decide +kernel
theorem dn_Code_aimAll_32 : decode bn_Code_aimAll 32 = .ok (.iload_n 2, 1) := by decide +kernel
theorem dn_Code_aimAll_33 : decode bn_Code_aimAll 33 = .ok (.invokevirtual 38, 3) := by decide +kernel
theorem dn_Code_aimAll_36 : decode bn_Code_aimAll 36 = .ok (.iload 4, 2) := by decide +kernel
theorem dn_Code_aimAll_38 : decode bn_Code_aimAll 38 = .ok (.istore_n 2, 1) := by decide +kernel
theorem dn_Code_aimAll_39 : decode bn_Code_aimAll 39 = .ok (.iinc 3 1, 3) := by decide +kernel
theorem dn_Code_aimAll_42 : decode bn_Code_aimAll 42 = .ok (.goto (-38), 3) := by decide +kernel
theorem dn_Code_aimAll_45 : decode bn_Code_aimAll 45 = .ok (.return_, 1) := by decide +kernel
theorem dn_Code_argAt_0 : decode bn_Code_argAt 0 = .ok (.iload_n 1, 1) := by decide +kernel
theorem dn_Code_argAt_1 : decode bn_Code_argAt 1 = .ok (.ifCond .lt 21, 3) := by decide +kernel
theorem dn_Code_argAt_4 : decode bn_Code_argAt 4 = .ok (.iload_n 1, 1) := by decide +kernel
theorem dn_Code_argAt_5 : decode bn_Code_argAt 5 = .ok (.aload_n 0, 1) := by decide +kernel
theorem dn_Code_argAt_6 : decode bn_Code_argAt 6 = .ok (.getfield 23, 3) := by decide +kernel
theorem dn_Code_argAt_9 : decode bn_Code_argAt 9 = .ok (.if_icmp .ge 13, 3) := by decide +kernel
theorem dn_Code_argAt_12 : decode bn_Code_argAt 12 = .ok (.aload_n 0, 1) := by decide +kernel
theorem dn_Code_argAt_13 : decode bn_Code_argAt 13 = .ok (.getfield 10, 3) := by decide +kernel
theorem dn_Code_argAt_16 : decode bn_Code_argAt 16 = .ok (.iload_n 1, 1) := by decide +kernel
theorem dn_Code_argAt_17 : decode bn_Code_argAt 17 = .ok (.laload, 1) := by decide +kernel
theorem dn_Code_argAt_18 : decode bn_Code_argAt 18 = .ok (.l2i, 1) := by decide +kernel
theorem dn_Code_argAt_19 : decode bn_Code_argAt 19 = .ok (.goto 4, 3) := by decide +kernel
theorem dn_Code_argAt_22 : decode bn_Code_argAt 22 = .ok (.iconst (-1), 1) := by decide +kernel
theorem dn_Code_argAt_23 : decode bn_Code_argAt 23 = .ok (.ireturn, 1) := by decide +kernel
theorem dn_Code_clear_0 : decode bn_Code_clear 0 = .ok (.aload_n 0, 1) := by decide +kernel
theorem dn_Code_clear_1 : decode bn_Code_clear 1 = .ok (.iconst 0, 1) := by decide +kernel
theorem dn_Code_clear_2 : decode bn_Code_clear 2 = .ok (.putfield 23, 3) := by decide +kernel
theorem dn_Code_clear_5 : decode bn_Code_clear 5 = .ok (.aload_n 0, 1) := by decide +kernel
theorem dn_Code_clear_6 : decode bn_Code_clear 6 = .ok (.iconst 0, 1) := by decide +kernel
theorem dn_Code_clear_7 : decode bn_Code_clear 7 = .ok (.putfield 27, 3) := by decide +kernel
theorem dn_Code_clear_10 : decode bn_Code_clear 10 = .ok (.return_, 1) := by decide +kernel
theorem dn_Code_emit_0 : decode bn_Code_emit 0 = .ok (.aload_n 0, 1) := by decide +kernel
theorem dn_Code_emit_1 : decode bn_Code_emit 1 = .ok (.getfield 23, 3) := by decide +kernel
theorem dn_Code_emit_4 : decode bn_Code_emit 4 = .ok (.ldc 9, 2) := by decide +kernel
theorem dn_Code_emit_6 : decode bn_Code_emit 6 = .ok (.if_icmp .lt 5, 3) := by decide +kernel
theorem dn_Code_emit_9 : decode bn_Code_emit 9 = .ok (.iconst (-1), 1) := by decide +kernel
theorem dn_Code_emit_10 : decode bn_Code_emit 10 = .ok (.ireturn, 1) := by decide +kernel
theorem dn_Code_emit_11 : decode bn_Code_emit 11 = .ok (.aload_n 0, 1) := by decide +kernel
theorem dn_Code_emit_12 : decode bn_Code_emit 12 = .ok (.getfield 10, 3) := by decide +kernel
theorem dn_Code_emit_15 : decode bn_Code_emit 15 = .ok (.aload_n 0, 1) := by decide +kernel
theorem dn_Code_emit_16 : decode bn_Code_emit 16 = .ok (.getfield 23, 3) := by decide +kernel
theorem dn_Code_emit_19 : decode bn_Code_emit 19 = .ok (.iload_n 1, 1) := by decide +kernel
theorem dn_Code_emit_20 : decode bn_Code_emit 20 = .ok (.i2l, 1) := by decide +kernel
theorem dn_Code_emit_21 : decode bn_Code_emit 21 = .ok (.bipush 32, 2) := by decide +kernel
theorem dn_Code_emit_23 : decode bn_Code_emit 23 = .ok (.lshl, 1) := by decide +kernel
theorem dn_Code_emit_24 : decode bn_Code_emit 24 = .ok (.iload_n 2, 1) := by decide +kernel
theorem dn_Code_emit_25 : decode bn_Code_emit 25 = .ok (.i2l, 1) := by decide +kernel
theorem dn_Code_emit_26 : decode bn_Code_emit 26 = .ok (.ldc2_w 30, 3) := by decide +kernel
theorem dn_Code_emit_29 : decode bn_Code_emit 29 = .ok (.land, 1) := by decide +kernel
theorem dn_Code_emit_30 : decode bn_Code_emit 30 = .ok (.lor, 1) := by decide +kernel
theorem dn_Code_emit_31 : decode bn_Code_emit 31 = .ok (.lastore, 1) := by decide +kernel
theorem dn_Code_emit_32 : decode bn_Code_emit 32 = .ok (.aload_n 0, 1) := by decide +kernel
theorem dn_Code_emit_33 : decode bn_Code_emit 33 = .ok (.dup, 1) := by decide +kernel
theorem dn_Code_emit_34 : decode bn_Code_emit 34 = .ok (.getfield 23, 3) := by decide +kernel
theorem dn_Code_emit_37 : decode bn_Code_emit 37 = .ok (.iconst 1, 1) := by decide +kernel
theorem dn_Code_emit_38 : decode bn_Code_emit 38 = .ok (.iadd, 1) := by decide +kernel
theorem dn_Code_emit_39 : decode bn_Code_emit 39 = .ok (.putfield 23, 3) := by decide +kernel
theorem dn_Code_emit_42 : decode bn_Code_emit 42 = .ok (.aload_n 0, 1) := by decide +kernel
theorem dn_Code_emit_43 : decode bn_Code_emit 43 = .ok (.getfield 23, 3) := by decide +kernel
theorem dn_Code_emit_46 : decode bn_Code_emit 46 = .ok (.iconst 1, 1) := by decide +kernel
theorem dn_Code_emit_47 : decode bn_Code_emit 47 = .ok (.isub, 1) := by decide +kernel
theorem dn_Code_emit_48 : decode bn_Code_emit 48 = .ok (.ireturn, 1) := by decide +kernel
theorem dn_Code_literal_0 : decode bn_Code_literal 0 = .ok (.aload_n 0, 1) := by decide +kernel
theorem dn_Code_literal_1 : decode bn_Code_literal 1 = .ok (.getfield 27, 3) := by decide +kernel
theorem dn_Code_literal_4 : decode bn_Code_literal 4 = .ok (.sipush 13108, 3) := by decide +kernel
theorem dn_Code_literal_7 : decode bn_Code_literal 7 = .ok (.if_icmp .lt 5, 3) := by decide +kernel
theorem dn_Code_literal_10 : decode bn_Code_literal 10 = .ok (.iconst (-1), 1) := by decide +kernel
theorem dn_Code_literal_11 : decode bn_Code_literal 11 = .ok (.ireturn, 1) := by decide +kernel
theorem dn_Code_literal_12 : decode bn_Code_literal 12 = .ok (.aload_n 0, 1) := by decide +kernel
theorem dn_Code_literal_13 : decode bn_Code_literal 13 = .ok (.getfield 16, 3) := by decide +kernel
theorem dn_Code_literal_16 : decode bn_Code_literal 16 = .ok (.aload_n 0, 1) := by decide +kernel
theorem dn_Code_literal_17 : decode bn_Code_literal 17 = .ok (.getfield 27, 3) := by decide +kernel
theorem dn_Code_literal_20 : decode bn_Code_literal 20 = .ok (.iload_n 1, 1) := by decide +kernel
theorem dn_Code_literal_21 : decode bn_Code_literal 21 = .ok (.iastore, 1) := by decide +kernel
theorem dn_Code_literal_22 : decode bn_Code_literal 22 = .ok (.aload_n 0, 1) := by decide +kernel
theorem dn_Code_literal_23 : decode bn_Code_literal 23 = .ok (.getfield 20, 3) := by decide +kernel
theorem dn_Code_literal_26 : decode bn_Code_literal 26 = .ok (.aload_n 0, 1) := by decide +kernel
theorem dn_Code_literal_27 : decode bn_Code_literal 27 = .ok (.getfield 27, 3) := by decide +kernel
theorem dn_Code_literal_30 : decode bn_Code_literal 30 = .ok (.lload_n 2, 1) := by decide +kernel
theorem dn_Code_literal_31 : decode bn_Code_literal 31 = .ok (.lastore, 1) := by decide +kernel
theorem dn_Code_literal_32 : decode bn_Code_literal 32 = .ok (.aload_n 0, 1) := by decide +kernel
theorem dn_Code_literal_33 : decode bn_Code_literal 33 = .ok (.dup, 1) := by decide +kernel
theorem dn_Code_literal_34 : decode bn_Code_literal 34 = .ok (.getfield 27, 3) := by decide +kernel
theorem dn_Code_literal_37 : decode bn_Code_literal 37 = .ok (.iconst 1, 1) := by decide +kernel
theorem dn_Code_literal_38 : decode bn_Code_literal 38 = .ok (.iadd, 1) := by decide +kernel
theorem dn_Code_literal_39 : decode bn_Code_literal 39 = .ok (.putfield 27, 3) := by decide +kernel
theorem dn_Code_literal_42 : decode bn_Code_literal 42 = .ok (.aload_n 0, 1) := by decide +kernel
theorem dn_Code_literal_43 : decode bn_Code_literal 43 = .ok (.getfield 27, 3) := by decide +kernel
theorem dn_Code_literal_46 : decode bn_Code_literal 46 = .ok (.iconst 1, 1) := by decide +kernel
theorem dn_Code_literal_47 : decode bn_Code_literal 47 = .ok (.isub, 1) := by decide +kernel
theorem dn_Code_literal_48 : decode bn_Code_literal 48 = .ok (.ireturn, 1) := by decide +kernel
theorem dn_Code_opAt_0 : decode bn_Code_opAt 0 = .ok (.iload_n 1, 1) := by decide +kernel
theorem dn_Code_opAt_1 : decode bn_Code_opAt 1 = .ok (.ifCond .lt 24, 3) := by decide +kernel
theorem dn_Code_opAt_4 : decode bn_Code_opAt 4 = .ok (.iload_n 1, 1) := by decide +kernel
theorem dn_Code_opAt_5 : decode bn_Code_opAt 5 = .ok (.aload_n 0, 1) := by decide +kernel
theorem dn_Code_opAt_6 : decode bn_Code_opAt 6 = .ok (.getfield 23, 3) := by decide +kernel
theorem dn_Code_opAt_9 : decode bn_Code_opAt 9 = .ok (.if_icmp .ge 16, 3) := by decide +kernel
theorem dn_Code_opAt_12 : decode bn_Code_opAt 12 = .ok (.aload_n 0, 1) := by decide +kernel
theorem dn_Code_opAt_13 : decode bn_Code_opAt 13 = .ok (.getfield 10, 3) := by decide +kernel
theorem dn_Code_opAt_16 : decode bn_Code_opAt 16 = .ok (.iload_n 1, 1) := by decide +kernel
theorem dn_Code_opAt_17 : decode bn_Code_opAt 17 = .ok (.laload, 1) := by decide +kernel
theorem dn_Code_opAt_18 : decode bn_Code_opAt 18 = .ok (.bipush 32, 2) := by decide +kernel
theorem dn_Code_opAt_20 : decode bn_Code_opAt 20 = .ok (.lushr, 1) := by decide +kernel
theorem dn_Code_opAt_21 : decode bn_Code_opAt 21 = .ok (.l2i, 1) := by decide +kernel
theorem dn_Code_opAt_22 : decode bn_Code_opAt 22 = .ok (.goto 4, 3) := by decide +kernel
theorem dn_Code_opAt_25 : decode bn_Code_opAt 25 = .ok (.iconst (-1), 1) := by decide +kernel
theorem dn_Code_opAt_26 : decode bn_Code_opAt 26 = .ok (.ireturn, 1) := by decide +kernel
theorem dn_Code_valueOf_0 : decode bn_Code_valueOf 0 = .ok (.iload_n 1, 1) := by decide +kernel
theorem dn_Code_valueOf_1 : decode bn_Code_valueOf 1 = .ok (.ifCond .lt 20, 3) := by decide +kernel
theorem dn_Code_valueOf_4 : decode bn_Code_valueOf 4 = .ok (.iload_n 1, 1) := by decide +kernel
theorem dn_Code_valueOf_5 : decode bn_Code_valueOf 5 = .ok (.aload_n 0, 1) := by decide +kernel
theorem dn_Code_valueOf_6 : decode bn_Code_valueOf 6 = .ok (.getfield 27, 3) := by decide +kernel
theorem dn_Code_valueOf_9 : decode bn_Code_valueOf 9 = .ok (.if_icmp .ge 12, 3) := by decide +kernel
theorem dn_Code_valueOf_12 : decode bn_Code_valueOf 12 = .ok (.aload_n 0, 1) := by decide +kernel
theorem dn_Code_valueOf_13 : decode bn_Code_valueOf 13 = .ok (.getfield 20, 3) := by decide +kernel
theorem dn_Code_valueOf_16 : decode bn_Code_valueOf 16 = .ok (.iload_n 1, 1) := by decide +kernel
theorem dn_Code_valueOf_17 : decode bn_Code_valueOf 17 = .ok (.laload, 1) := by decide +kernel
theorem dn_Code_valueOf_18 : decode bn_Code_valueOf 18 = .ok (.goto 4, 3) := by decide +kernel
theorem dn_Code_valueOf_21 : decode bn_Code_valueOf 21 = .ok (.lconst 0, 1) := by decide +kernel
theorem dn_Code_valueOf_22 : decode bn_Code_valueOf 22 = .ok (.lreturn, 1) := by decide +kernel
theorem dn_Code_widthOf_0 : decode bn_Code_widthOf 0 = .ok (.iload_n 1, 1) := by decide +kernel
theorem dn_Code_widthOf_1 : decode bn_Code_widthOf 1 = .ok (.ifCond .lt 20, 3) := by decide +kernel
theorem dn_Code_widthOf_4 : decode bn_Code_widthOf 4 = .ok (.iload_n 1, 1) := by decide +kernel
theorem dn_Code_widthOf_5 : decode bn_Code_widthOf 5 = .ok (.aload_n 0, 1) := by decide +kernel
theorem dn_Code_widthOf_6 : decode bn_Code_widthOf 6 = .ok (.getfield 27, 3) := by decide +kernel
theorem dn_Code_widthOf_9 : decode bn_Code_widthOf 9 = .ok (.if_icmp .ge 12, 3) := by decide +kernel
theorem dn_Code_widthOf_12 : decode bn_Code_widthOf 12 = .ok (.aload_n 0, 1) := by decide +kernel
theorem dn_Code_widthOf_13 : decode bn_Code_widthOf 13 = .ok (.getfield 16, 3) := by decide +kernel
theorem dn_Code_widthOf_16 : decode bn_Code_widthOf 16 = .ok (.iload_n 1, 1) := by decide +kernel
theorem dn_Code_widthOf_17 : decode bn_Code_widthOf 17 = .ok (.iaload, 1) := by decide +kernel
theorem dn_Code_widthOf_18 : decode bn_Code_widthOf 18 = .ok (.goto 4, 3) := by decide +kernel
theorem dn_Code_widthOf_21 : decode bn_Code_widthOf 21 = .ok (.iconst 1, 1) := by decide +kernel
theorem dn_Code_widthOf_22 : decode bn_Code_widthOf 22 = .ok (.ireturn, 1) := by decide +kernel
theorem dn_Design_addModule_0 : decode bn_Design_addModule 0 = .ok (.aload_n 0, 1) := by decide +kernel
theorem dn_Design_addModule_1 : decode bn_Design_addModule 1 = .ok (.getfield 70, 3) := by decide +kernel
theorem dn_Design_addModule_4 : decode bn_Design_addModule 4 = .ok (.sipush 3277, 3) := by decide +kernel
theorem dn_Design_addModule_7 : decode bn_Design_addModule 7 = .ok (.if_icmp .lt 4, 3) := by decide +kernel
theorem dn_Design_addModule_10 : decode bn_Design_addModule 10 = .ok (.return_, 1) := by decide +kernel
theorem dn_Design_addModule_11 : decode bn_Design_addModule 11 = .ok (.aload_n 0, 1) := by decide +kernel
theorem dn_Design_addModule_12 : decode bn_Design_addModule 12 = .ok (.getfield 30, 3) := by decide +kernel
theorem dn_Design_addModule_15 : decode bn_Design_addModule 15 = .ok (.aload_n 0, 1) := by decide +kernel
theorem dn_Design_addModule_16 : decode bn_Design_addModule 16 = .ok (.getfield 70, 3) := by decide +kernel
theorem dn_Design_addModule_19 : decode bn_Design_addModule 19 = .ok (.iload_n 1, 1) := by decide +kernel
theorem dn_Design_addModule_20 : decode bn_Design_addModule 20 = .ok (.iastore, 1) := by decide +kernel
theorem dn_Design_addModule_21 : decode bn_Design_addModule 21 = .ok (.aload_n 0, 1) := by decide +kernel
theorem dn_Design_addModule_22 : decode bn_Design_addModule 22 = .ok (.getfield 34, 3) := by decide +kernel
theorem dn_Design_addModule_25 : decode bn_Design_addModule 25 = .ok (.aload_n 0, 1) := by decide +kernel
theorem dn_Design_addModule_26 : decode bn_Design_addModule 26 = .ok (.getfield 70, 3) := by decide +kernel
theorem dn_Design_addModule_29 : decode bn_Design_addModule 29 = .ok (.aload_n 0, 1) := by decide +kernel
theorem dn_Design_addModule_30 : decode bn_Design_addModule 30 = .ok (.getfield 12, 3) := by decide +kernel
theorem dn_Design_addModule_33 : decode bn_Design_addModule 33 = .ok (.getfield 83, 3) := by decide +kernel
theorem dn_Design_addModule_36 : decode bn_Design_addModule 36 = .ok (.iastore, 1) := by decide +kernel
theorem dn_Design_addModule_37 : decode bn_Design_addModule 37 = .ok (.aload_n 0, 1) := by decide +kernel
theorem dn_Design_addModule_38 : decode bn_Design_addModule 38 = .ok (.getfield 37, 3) := by decide +kernel
theorem dn_Design_addModule_41 : decode bn_Design_addModule 41 = .ok (.aload_n 0, 1) := by decide +kernel
theorem dn_Design_addModule_42 : decode bn_Design_addModule 42 = .ok (.getfield 70, 3) := by decide +kernel
theorem dn_Design_addModule_45 : decode bn_Design_addModule 45 = .ok (.iconst 0, 1) := by decide +kernel
theorem dn_Design_addModule_46 : decode bn_Design_addModule 46 = .ok (.iastore, 1) := by decide +kernel
theorem dn_Design_addModule_47 : decode bn_Design_addModule 47 = .ok (.aload_n 0, 1) := by decide +kernel
theorem dn_Design_addModule_48 : decode bn_Design_addModule 48 = .ok (.getfield 40, 3) := by decide +kernel
theorem dn_Design_addModule_51 : decode bn_Design_addModule 51 = .ok (.aload_n 0, 1) := by decide +kernel
theorem dn_Design_addModule_52 : decode bn_Design_addModule 52 = .ok (.getfield 70, 3) := by decide +kernel
theorem dn_Design_addModule_55 : decode bn_Design_addModule 55 = .ok (.aload_n 0, 1) := by decide +kernel
theorem dn_Design_addModule_56 : decode bn_Design_addModule 56 = .ok (.getfield 12, 3) := by decide +kernel
theorem dn_Design_addModule_59 : decode bn_Design_addModule 59 = .ok (.getfield 86, 3) := by decide +kernel
theorem dn_Design_addModule_62 : decode bn_Design_addModule 62 = .ok (.iastore, 1) := by decide +kernel
theorem dn_Design_addModule_63 : decode bn_Design_addModule 63 = .ok (.aload_n 0, 1) := by decide +kernel
theorem dn_Design_addModule_64 : decode bn_Design_addModule 64 = .ok (.getfield 43, 3) := by decide +kernel
theorem dn_Design_addModule_67 : decode bn_Design_addModule 67 = .ok (.aload_n 0, 1) := by decide +kernel
theorem dn_Design_addModule_68 : decode bn_Design_addModule 68 = .ok (.getfield 70, 3) := by decide +kernel
theorem dn_Design_addModule_71 : decode bn_Design_addModule 71 = .ok (.aload_n 0, 1) := by decide +kernel
theorem dn_Design_addModule_72 : decode bn_Design_addModule 72 = .ok (.getfield 73, 3) := by decide +kernel
theorem dn_Design_addModule_75 : decode bn_Design_addModule 75 = .ok (.iastore, 1) := by decide +kernel
theorem dn_Design_addModule_76 : decode bn_Design_addModule 76 = .ok (.aload_n 0, 1) := by decide +kernel
theorem dn_Design_addModule_77 : decode bn_Design_addModule 77 = .ok (.dup, 1) := by decide +kernel
theorem dn_Design_addModule_78 : decode bn_Design_addModule 78 = .ok (.getfield 70, 3) := by decide +kernel
theorem dn_Design_addModule_81 : decode bn_Design_addModule 81 = .ok (.iconst 1, 1) := by decide +kernel
theorem dn_Design_addModule_82 : decode bn_Design_addModule 82 = .ok (.iadd, 1) := by decide +kernel
theorem dn_Design_addModule_83 : decode bn_Design_addModule 83 = .ok (.putfield 70, 3) := by decide +kernel
theorem dn_Design_addModule_86 : decode bn_Design_addModule 86 = .ok (.return_, 1) := by decide +kernel
theorem dn_Design_addPiece_0 : decode bn_Design_addPiece 0 = .ok (.aload_n 0, 1) := by decide +kernel
theorem dn_Design_addPiece_1 : decode bn_Design_addPiece 1 = .ok (.getfield 73, 3) := by decide +kernel
theorem dn_Design_addPiece_4 : decode bn_Design_addPiece 4 = .ok (.sipush 6554, 3) := by decide +kernel
theorem dn_Design_addPiece_7 : decode bn_Design_addPiece 7 = .ok (.if_icmp .lt 4, 3) := by decide +kernel
theorem dn_Design_addPiece_10 : decode bn_Design_addPiece 10 = .ok (.return_, 1) := by decide +kernel
theorem dn_Design_addPiece_11 : decode bn_Design_addPiece 11 = .ok (.aload_n 0, 1) := by decide +kernel
theorem dn_Design_addPiece_12 : decode bn_Design_addPiece 12 = .ok (.getfield 51, 3) := by decide +kernel
theorem dn_Design_addPiece_15 : decode bn_Design_addPiece 15 = .ok (.aload_n 0, 1) := by decide +kernel
theorem dn_Design_addPiece_16 : decode bn_Design_addPiece 16 = .ok (.getfield 73, 3) := by decide +kernel
theorem dn_Design_addPiece_19 : decode bn_Design_addPiece 19 = .ok (.iload_n 2, 1) := by decide +kernel
theorem dn_Design_addPiece_20 : decode bn_Design_addPiece 20 = .ok (.iastore, 1) := by decide +kernel
theorem dn_Design_addPiece_21 : decode bn_Design_addPiece 21 = .ok (.aload_n 0, 1) := by decide +kernel
theorem dn_Design_addPiece_22 : decode bn_Design_addPiece 22 = .ok (.getfield 54, 3) := by decide +kernel
theorem dn_Design_addPiece_25 : decode bn_Design_addPiece 25 = .ok (.aload_n 0, 1) := by decide +kernel
theorem dn_Design_addPiece_26 : decode bn_Design_addPiece 26 = .ok (.getfield 73, 3) := by decide +kernel
theorem dn_Design_addPiece_29 : decode bn_Design_addPiece 29 = .ok (.aload_n 0, 1) := by decide +kernel
theorem dn_Design_addPiece_30 : decode bn_Design_addPiece 30 = .ok (.getfield 21, 3) := by decide +kernel
theorem dn_Design_addPiece_33 : decode bn_Design_addPiece 33 = .ok (.getfield 89, 3) := by decide +kernel
theorem dn_Design_addPiece_36 : decode bn_Design_addPiece 36 = .ok (.iastore, 1) := by decide +kernel
theorem dn_Design_addPiece_37 : decode bn_Design_addPiece 37 = .ok (.aload_n 0, 1) := by decide +kernel
theorem dn_Design_addPiece_38 : decode bn_Design_addPiece 38 = .ok (.getfield 57, 3) := by decide +kernel
theorem dn_Design_addPiece_41 : decode bn_Design_addPiece 41 = .ok (.aload_n 0, 1) := by decide +kernel
theorem dn_Design_addPiece_42 : decode bn_Design_addPiece 42 = .ok (.getfield 73, 3) := by decide +kernel
theorem dn_Design_addPiece_45 : decode bn_Design_addPiece 45 = .ok (.iload_n 1, 1) := by decide +kernel
theorem dn_Design_addPiece_46 : decode bn_Design_addPiece 46 = .ok (.ifCond .eq 7, 3) := by decide +kernel
theorem dn_Design_addPiece_49 : decode bn_Design_addPiece 49 = .ok (.iconst 1, 1) := by decide +kernel
theorem dn_Design_addPiece_50 : decode bn_Design_addPiece 50 = .ok (.goto 4, 3) := by decide +kernel
theorem dn_Design_addPiece_53 : decode bn_Design_addPiece 53 = .ok (.iconst 0, 1) := by decide +kernel
theorem dn_Design_addPiece_54 : decode bn_Design_addPiece 54 = .ok (.iastore, 1) := by decide +kernel
theorem dn_Design_addPiece_55 : decode bn_Design_addPiece 55 = .ok (.aload_n 0, 1) := by decide +kernel
theorem dn_Design_addPiece_56 : decode bn_Design_addPiece 56 = .ok (.dup, 1) := by decide +kernel
theorem dn_Design_addPiece_57 : decode bn_Design_addPiece 57 = .ok (.getfield 73, 3) := by decide +kernel
theorem dn_Design_addPiece_60 : decode bn_Design_addPiece 60 = .ok (.iconst 1, 1) := by decide +kernel
theorem dn_Design_addPiece_61 : decode bn_Design_addPiece 61 = .ok (.iadd, 1) := by decide +kernel
theorem dn_Design_addPiece_62 : decode bn_Design_addPiece 62 = .ok (.putfield 73, 3) := by decide +kernel
theorem dn_Design_addPiece_65 : decode bn_Design_addPiece 65 = .ok (.return_, 1) := by decide +kernel
theorem dn_Design_clear_0 : decode bn_Design_clear 0 = .ok (.aload_n 0, 1) := by decide +kernel
theorem dn_Design_clear_1 : decode bn_Design_clear 1 = .ok (.iload_n 1, 1) := by decide +kernel
theorem dn_Design_clear_2 : decode bn_Design_clear 2 = .ok (.aload_n 0, 1) := by decide +kernel
theorem dn_Design_clear_3 : decode bn_Design_clear 3 = .ok (.getfield 26, 3) := by decide +kernel
theorem dn_Design_clear_6 : decode bn_Design_clear 6 = .ok (.arraylength, 1) := by decide +kernel
theorem dn_Design_clear_7 : decode bn_Design_clear 7 = .ok (.invokestatic 60, 3) := by decide +kernel
theorem dn_Design_clear_10 : decode bn_Design_clear 10 = .ok (.putfield 66, 3) := by decide +kernel
theorem dn_Design_clear_13 : decode bn_Design_clear 13 = .ok (.aload_n 0, 1) := by decide +kernel
theorem dn_Design_clear_14 : decode bn_Design_clear 14 = .ok (.iconst 0, 1) := by decide +kernel
theorem dn_Design_clear_15 : decode bn_Design_clear 15 = .ok (.putfield 70, 3) := by decide +kernel
theorem dn_Design_clear_18 : decode bn_Design_clear 18 = .ok (.aload_n 0, 1) := by decide +kernel
theorem dn_Design_clear_19 : decode bn_Design_clear 19 = .ok (.iconst 0, 1) := by decide +kernel
theorem dn_Design_clear_20 : decode bn_Design_clear 20 = .ok (.putfield 73, 3) := by decide +kernel
theorem dn_Design_clear_23 : decode bn_Design_clear 23 = .ok (.aload_n 0, 1) := by decide +kernel
theorem dn_Design_clear_24 : decode bn_Design_clear 24 = .ok (.iconst 0, 1) := by decide +kernel
theorem dn_Design_clear_25 : decode bn_Design_clear 25 = .ok (.putfield 76, 3) := by decide +kernel
theorem dn_Design_clear_28 : decode bn_Design_clear 28 = .ok (.aload_n 0, 1) := by decide +kernel
theorem dn_Design_clear_29 : decode bn_Design_clear 29 = .ok (.getfield 12, 3) := by decide +kernel
theorem dn_Design_clear_32 : decode bn_Design_clear 32 = .ok (.invokevirtual 79, 3) := by decide +kernel
theorem dn_Design_clear_35 : decode bn_Design_clear 35 = .ok (.aload_n 0, 1) := by decide +kernel
theorem dn_Design_clear_36 : decode bn_Design_clear 36 = .ok (.getfield 21, 3) := by decide +kernel
theorem dn_Design_clear_39 : decode bn_Design_clear 39 = .ok (.invokevirtual 82, 3) := by decide +kernel
theorem dn_Design_clear_42 : decode bn_Design_clear 42 = .ok (.return_, 1) := by decide +kernel
theorem dn_Design_excess_0 : decode bn_Design_excess 0 = .ok (.aload_n 0, 1) := by decide +kernel
theorem dn_Design_excess_1 : decode bn_Design_excess 1 = .ok (.getfield 70, 3) := by decide +kernel
theorem dn_Design_excess_4 : decode bn_Design_excess 4 = .ok (.iconst 1, 1) := by decide +kernel
theorem dn_Design_excess_5 : decode bn_Design_excess 5 = .ok (.isub, 1) := by decide +kernel
theorem dn_Design_excess_6 : decode bn_Design_excess 6 = .ok (.istore_n 1, 1) := by decide +kernel
theorem dn_Design_excess_7 : decode bn_Design_excess 7 = .ok (.aload_n 0, 1) := by decide +kernel
theorem dn_Design_excess_8 : decode bn_Design_excess 8 = .ok (.iconst 0, 1) := by decide +kernel
theorem dn_Design_excess_9 : decode bn_Design_excess 9 = .ok (.putfield 76, 3) := by decide +kernel
theorem dn_Design_excess_12 : decode bn_Design_excess 12 = .ok (.aload_n 0, 1) := by decide +kernel
theorem dn_Design_excess_13 : decode bn_Design_excess 13 = .ok (.iload_n 1, 1) := by decide +kernel
theorem dn_Design_excess_14 : decode bn_Design_excess 14 = .ok (.invokevirtual 111, 3) := by decide +kernel
theorem dn_Design_excess_17 : decode bn_Design_excess 17 = .ok (.istore_n 2, 1) := by decide +kernel
theorem dn_Design_excess_18 : decode bn_Design_excess 18 = .ok (.iload_n 2, 1) := by decide +kernel
theorem dn_Design_excess_19 : decode bn_Design_excess 19 = .ok (.aload_n 0, 1) := by decide +kernel
theorem dn_Design_excess_20 : decode bn_Design_excess 20 = .ok (.getfield 12, 3) := by decide +kernel
theorem dn_Design_excess_23 : decode bn_Design_excess 23 = .ok (.getfield 83, 3) := by decide +kernel
theorem dn_Design_excess_26 : decode bn_Design_excess 26 = .ok (.if_icmp .ge 41, 3) := by decide +kernel
theorem dn_Design_excess_29 : decode bn_Design_excess 29 = .ok (.aload_n 0, 1) := by decide +kernel
theorem dn_Design_excess_30 : decode bn_Design_excess 30 = .ok (.getfield 12, 3) := by decide +kernel
theorem dn_Design_excess_33 : decode bn_Design_excess 33 = .ok (.getfield 99, 3) := by decide +kernel
theorem dn_Design_excess_36 : decode bn_Design_excess 36 = .ok (.iload_n 2, 1) := by decide +kernel
theorem dn_Design_excess_37 : decode bn_Design_excess 37 = .ok (.iaload, 1) := by decide +kernel
theorem dn_Design_excess_38 : decode bn_Design_excess 38 = .ok (.ifCond .ne 23, 3) := by decide +kernel
theorem dn_Design_excess_41 : decode bn_Design_excess 41 = .ok (.aload_n 0, 1) := by decide +kernel
theorem dn_Design_excess_42 : decode bn_Design_excess 42 = .ok (.aload_n 0, 1) := by decide +kernel
theorem dn_Design_excess_43 : decode bn_Design_excess 43 = .ok (.getfield 76, 3) := by decide +kernel
theorem dn_Design_excess_46 : decode bn_Design_excess 46 = .ok (.aload_n 0, 1) := by decide +kernel
theorem dn_Design_excess_47 : decode bn_Design_excess 47 = .ok (.getfield 12, 3) := by decide +kernel
theorem dn_Design_excess_50 : decode bn_Design_excess 50 = .ok (.getfield 102, 3) := by decide +kernel
theorem dn_Design_excess_53 : decode bn_Design_excess 53 = .ok (.iload_n 2, 1) := by decide +kernel
theorem dn_Design_excess_54 : decode bn_Design_excess 54 = .ok (.iaload, 1) := by decide +kernel
theorem dn_Design_excess_55 : decode bn_Design_excess 55 = .ok (.invokestatic 105, 3) := by decide +kernel
theorem dn_Design_excess_58 : decode bn_Design_excess 58 = .ok (.putfield 76, 3) := by decide +kernel
theorem dn_Design_excess_61 : decode bn_Design_excess 61 = .ok (.iinc 2 1, 3) := by decide +kernel
theorem dn_Design_excess_64 : decode bn_Design_excess 64 = .ok (.goto (-46), 3) := by decide +kernel
theorem dn_Design_excess_67 : decode bn_Design_excess 67 = .ok (.aload_n 0, 1) := by decide +kernel
theorem dn_Design_excess_68 : decode bn_Design_excess 68 = .ok (.iconst 2, 1) := by decide +kernel
theorem dn_Design_excess_69 : decode bn_Design_excess 69 = .ok (.iload_n 1, 1) := by decide +kernel
theorem dn_Design_excess_70 : decode bn_Design_excess 70 = .ok (.invokevirtual 96, 3) := by decide +kernel
theorem dn_Design_excess_73 : decode bn_Design_excess 73 = .ok (.istore_n 2, 1) := by decide +kernel
theorem dn_Design_excess_74 : decode bn_Design_excess 74 = .ok (.aload_n 0, 1) := by decide +kernel
theorem dn_Design_excess_75 : decode bn_Design_excess 75 = .ok (.iconst 4, 1) := by decide +kernel
theorem dn_Design_excess_76 : decode bn_Design_excess 76 = .ok (.iload_n 1, 1) := by decide +kernel
theorem dn_Design_excess_77 : decode bn_Design_excess 77 = .ok (.invokevirtual 96, 3) := by decide +kernel
theorem dn_Design_excess_80 : decode bn_Design_excess 80 = .ok (.istore_n 3, 1) := by decide +kernel
theorem dn_Design_excess_81 : decode bn_Design_excess 81 = .ok (.aload_n 0, 1) := by decide +kernel
theorem dn_Design_excess_82 : decode bn_Design_excess 82 = .ok (.iconst 0, 1) := by decide +kernel
theorem dn_Design_excess_83 : decode bn_Design_excess 83 = .ok (.iload_n 1, 1) := by decide +kernel
theorem dn_Design_excess_84 : decode bn_Design_excess 84 = .ok (.invokevirtual 96, 3) := by decide +kernel
theorem dn_Design_excess_87 : decode bn_Design_excess 87 = .ok (.iconst 1, 1) := by decide +kernel
theorem dn_Design_excess_88 : decode bn_Design_excess 88 = .ok (.isub, 1) := by decide +kernel
theorem dn_Design_excess_89 : decode bn_Design_excess 89 = .ok (.sipush 256, 3) := by decide +kernel
theorem dn_Design_excess_92 : decode bn_Design_excess 92 = .ok (.if_icmp .le 6, 3) := by decide +kernel
theorem dn_Design_excess_95 : decode bn_Design_excess 95 = .ok (.bipush 40, 2) := by decide +kernel
theorem dn_Design_excess_97 : decode bn_Design_excess 97 = .ok (.ireturn, 1) := by decide +kernel
theorem dn_Design_excess_98 : decode bn_Design_excess 98 = .ok (.aload_n 0, 1) := by decide +kernel
theorem dn_Design_excess_99 : decode bn_Design_excess 99 = .ok (.iconst 1, 1) := by decide +kernel
theorem dn_Design_excess_100 : decode bn_Design_excess 100 = .ok (.iload_n 1, 1) := by decide +kernel
theorem dn_Design_excess_101 : decode bn_Design_excess 101 = .ok (.invokevirtual 96, 3) := by decide +kernel
theorem dn_Design_excess_104 : decode bn_Design_excess 104 = .ok (.sipush 1024, 3) := by decide +kernel
theorem dn_Design_excess_107 : decode bn_Design_excess 107 = .ok (.if_icmp .le 6, 3) := by decide +kernel
theorem dn_Design_excess_110 : decode bn_Design_excess 110 = .ok (.bipush 41, 2) := by decide +kernel
theorem dn_Design_excess_112 : decode bn_Design_excess 112 = .ok (.ireturn, 1) := by decide +kernel
theorem dn_Design_excess_113 : decode bn_Design_excess 113 = .ok (.iload_n 2, 1) := by decide +kernel
theorem dn_Design_excess_114 : decode bn_Design_excess 114 = .ok (.bipush 12, 2) := by decide +kernel
theorem dn_Design_excess_116 : decode bn_Design_excess 116 = .ok (.if_icmp .le 6, 3) := by decide +kernel
theorem dn_Design_excess_119 : decode bn_Design_excess 119 = .ok (.bipush 42, 2) := by decide +kernel
theorem dn_Design_excess_121 : decode bn_Design_excess 121 = .ok (.ireturn, 1) := by decide +kernel
theorem dn_Design_excess_122 : decode bn_Design_excess 122 = .ok (.aload_n 0, 1) := by decide +kernel
theorem dn_Design_excess_123 : decode bn_Design_excess 123 = .ok (.getfield 76, 3) := by decide +kernel
theorem dn_Design_excess_126 : decode bn_Design_excess 126 = .ok (.bipush 6, 2) := by decide +kernel
theorem dn_Design_excess_128 : decode bn_Design_excess 128 = .ok (.if_icmp .le 6, 3) := by decide +kernel
theorem dn_Design_excess_131 : decode bn_Design_excess 131 = .ok (.bipush 43, 2) := by decide +kernel
theorem dn_Design_excess_133 : decode bn_Design_excess 133 = .ok (.ireturn, 1) := by decide +kernel
theorem dn_Design_excess_134 : decode bn_Design_excess 134 = .ok (.iload_n 3, 1) := by decide +kernel
theorem dn_Design_excess_135 : decode bn_Design_excess 135 = .ok (.sipush 1500, 3) := by decide +kernel
theorem dn_Design_excess_138 : decode bn_Design_excess 138 = .ok (.if_icmp .le 6, 3) := by decide +kernel
theorem dn_Design_excess_141 : decode bn_Design_excess 141 = .ok (.bipush 44, 2) := by decide +kernel
theorem dn_Design_excess_143 : decode bn_Design_excess 143 = .ok (.ireturn, 1) := by decide +kernel
theorem dn_Design_excess_144 : decode bn_Design_excess 144 = .ok (.lconst 1, 1) := by decide +kernel
theorem dn_Design_excess_145 : decode bn_Design_excess 145 = .ok (.iload_n 2, 1) := by decide +kernel
theorem dn_Design_excess_146 : decode bn_Design_excess 146 = .ok (.aload_n 0, 1) := by decide +kernel
theorem dn_Design_excess_147 : decode bn_Design_excess 147 = .ok (.getfield 76, 3) := by decide +kernel
theorem dn_Design_excess_150 : decode bn_Design_excess 150 = .ok (.iadd, 1) := by decide +kernel
theorem dn_Design_excess_151 : decode bn_Design_excess 151 = .ok (.lshl, 1) := by decide +kernel
theorem dn_Design_excess_152 : decode bn_Design_excess 152 = .ok (.iconst 1, 1) := by decide +kernel
theorem dn_Design_excess_153 : decode bn_Design_excess 153 = .ok (.iload_n 3, 1) := by decide +kernel
theorem dn_Design_excess_154 : decode bn_Design_excess 154 = .ok (.invokestatic 115, 3) := by decide +kernel
theorem dn_Design_excess_157 : decode bn_Design_excess 157 = .ok (.i2l, 1) := by decide +kernel
theorem dn_Design_excess_158 : decode bn_Design_excess 158 = .ok (.lmul, 1) := by decide +kernel
theorem dn_Design_excess_159 : decode bn_Design_excess 159 = .ok (.ldc2_w 118, 3) := by decide +kernel
theorem dn_Design_excess_162 : decode bn_Design_excess 162 = .ok (.lcmp, 1) := by decide +kernel
theorem dn_Design_excess_163 : decode bn_Design_excess 163 = .ok (.ifCond .le 8, 3) := by decide +kernel
theorem dn_Design_excess_166 : decode bn_Design_excess 166 = .ok (.bipush 46, 2) := by decide +kernel
theorem dn_Design_excess_168 : decode bn_Design_excess 168 = .ok (.goto 4, 3) := by decide +kernel
theorem dn_Design_excess_171 : decode bn_Design_excess 171 = .ok (.iconst 0, 1) := by decide +kernel
theorem dn_Design_excess_172 : decode bn_Design_excess 172 = .ok (.ireturn, 1) := by decide +kernel
theorem dn_Design_firstChild_0 : decode bn_Design_firstChild 0 = .ok (.aload_n 0, 1) := by decide +kernel
theorem dn_Design_firstChild_1 : decode bn_Design_firstChild 1 = .ok (.iload_n 1, 1) := by decide +kernel
theorem dn_Design_firstChild_2 : decode bn_Design_firstChild 2 = .ok (.invokevirtual 92, 3) := by decide +kernel
theorem dn_Design_firstChild_5 : decode bn_Design_firstChild 5 = .ok (.ifCond .eq 12, 3) := by decide +kernel
theorem dn_Design_firstChild_8 : decode bn_Design_firstChild 8 = .ok (.aload_n 0, 1) := by decide +kernel
theorem dn_Design_firstChild_9 : decode bn_Design_firstChild 9 = .ok (.getfield 40, 3) := by decide +kernel
theorem dn_Design_firstChild_12 : decode bn_Design_firstChild 12 = .ok (.iload_n 1, 1) := by decide +kernel
theorem dn_Design_firstChild_13 : decode bn_Design_firstChild 13 = .ok (.iaload, 1) := by decide +kernel
theorem dn_Design_firstChild_14 : decode bn_Design_firstChild 14 = .ok (.goto 10, 3) := by decide +kernel
theorem dn_Design_firstChild_17 : decode bn_Design_firstChild 17 = .ok (.aload_n 0, 1) := by decide +kernel
theorem dn_Design_firstChild_18 : decode bn_Design_firstChild 18 = .ok (.getfield 12, 3) := by decide +kernel
theorem dn_Design_firstChild_21 : decode bn_Design_firstChild 21 = .ok (.getfield 86, 3) := by decide +kernel
theorem dn_Design_firstChild_24 : decode bn_Design_firstChild 24 = .ok (.ireturn, 1) := by decide +kernel
theorem dn_Design_firstDecl_0 : decode bn_Design_firstDecl 0 = .ok (.aload_n 0, 1) := by decide +kernel
theorem dn_Design_firstDecl_1 : decode bn_Design_firstDecl 1 = .ok (.iload_n 1, 1) := by decide +kernel
theorem dn_Design_firstDecl_2 : decode bn_Design_firstDecl 2 = .ok (.invokevirtual 92, 3) := by decide +kernel
theorem dn_Design_firstDecl_5 : decode bn_Design_firstDecl 5 = .ok (.ifCond .eq 12, 3) := by decide +kernel
theorem dn_Design_firstDecl_8 : decode bn_Design_firstDecl 8 = .ok (.aload_n 0, 1) := by decide +kernel
theorem dn_Design_firstDecl_9 : decode bn_Design_firstDecl 9 = .ok (.getfield 34, 3) := by decide +kernel
theorem dn_Design_firstDecl_12 : decode bn_Design_firstDecl 12 = .ok (.iload_n 1, 1) := by decide +kernel
theorem dn_Design_firstDecl_13 : decode bn_Design_firstDecl 13 = .ok (.iaload, 1) := by decide +kernel
theorem dn_Design_firstDecl_14 : decode bn_Design_firstDecl 14 = .ok (.goto 10, 3) := by decide +kernel
theorem dn_Design_firstDecl_17 : decode bn_Design_firstDecl 17 = .ok (.aload_n 0, 1) := by decide +kernel
theorem dn_Design_firstDecl_18 : decode bn_Design_firstDecl 18 = .ok (.getfield 12, 3) := by decide +kernel
theorem dn_Design_firstDecl_21 : decode bn_Design_firstDecl 21 = .ok (.getfield 83, 3) := by decide +kernel
theorem dn_Design_firstDecl_24 : decode bn_Design_firstDecl 24 = .ok (.ireturn, 1) := by decide +kernel
theorem dn_Design_firstPiece_0 : decode bn_Design_firstPiece 0 = .ok (.aload_n 0, 1) := by decide +kernel
theorem dn_Design_firstPiece_1 : decode bn_Design_firstPiece 1 = .ok (.iload_n 1, 1) := by decide +kernel
theorem dn_Design_firstPiece_2 : decode bn_Design_firstPiece 2 = .ok (.invokevirtual 92, 3) := by decide +kernel
theorem dn_Design_firstPiece_5 : decode bn_Design_firstPiece 5 = .ok (.ifCond .eq 12, 3) := by decide +kernel
theorem dn_Design_firstPiece_8 : decode bn_Design_firstPiece 8 = .ok (.aload_n 0, 1) := by decide +kernel
theorem dn_Design_firstPiece_9 : decode bn_Design_firstPiece 9 = .ok (.getfield 43, 3) := by decide +kernel
theorem dn_Design_firstPiece_12 : decode bn_Design_firstPiece 12 = .ok (.iload_n 1, 1) := by decide +kernel
theorem dn_Design_firstPiece_13 : decode bn_Design_firstPiece 13 = .ok (.iaload, 1) := by decide +kernel
theorem dn_Design_firstPiece_14 : decode bn_Design_firstPiece 14 = .ok (.goto 7, 3) := by decide +kernel
theorem dn_Design_firstPiece_17 : decode bn_Design_firstPiece 17 = .ok (.aload_n 0, 1) := by decide +kernel
theorem dn_Design_firstPiece_18 : decode bn_Design_firstPiece 18 = .ok (.getfield 73, 3) := by decide +kernel
theorem dn_Design_firstPiece_21 : decode bn_Design_firstPiece 21 = .ok (.ireturn, 1) := by decide +kernel
theorem dn_Design_isCalled_0 : decode bn_Design_isCalled 0 = .ok (.iload 4, 2) := by decide +kernel
theorem dn_Design_isCalled_2 : decode bn_Design_isCalled 2 = .ok (.iload_n 3, 1) := by decide +kernel
theorem dn_Design_isCalled_3 : decode bn_Design_isCalled 3 = .ok (.isub, 1) := by decide +kernel
theorem dn_Design_isCalled_4 : decode bn_Design_isCalled 4 = .ok (.istore 5, 2) := by decide +kernel
theorem dn_Design_isCalled_6 : decode bn_Design_isCalled 6 = .ok (.iload_n 1, 1) := by decide +kernel
theorem dn_Design_isCalled_7 : decode bn_Design_isCalled 7 = .ok (.ifCond .lt 25, 3) := by decide +kernel
theorem dn_Design_isCalled_10 : decode bn_Design_isCalled 10 = .ok (.iload_n 3, 1) := by decide +kernel
theorem dn_Design_isCalled_11 : decode bn_Design_isCalled 11 = .ok (.ifCond .lt 21, 3) := by decide +kernel
theorem dn_Design_isCalled_14 : decode bn_Design_isCalled 14 = .ok (.iload 4, 2) := by decide +kernel
theorem dn_Design_isCalled_16 : decode bn_Design_isCalled 16 = .ok (.aload_n 2, 1) := by decide +kernel
theorem dn_Design_isCalled_17 : decode bn_Design_isCalled 17 = .ok (.arraylength, 1) := by decide +kernel
theorem dn_Design_isCalled_18 : decode bn_Design_isCalled 18 = .ok (.if_icmp .gt 14, 3) := by decide +kernel
theorem dn_Design_isCalled_21 : decode bn_Design_isCalled 21 = .ok (.iload_n 1, 1) := by decide +kernel
theorem dn_Design_isCalled_22 : decode bn_Design_isCalled 22 = .ok (.iload 5, 2) := by decide +kernel
theorem dn_Design_isCalled_24 : decode bn_Design_isCalled 24 = .ok (.iadd, 1) := by decide +kernel
theorem dn_Design_isCalled_25 : decode bn_Design_isCalled 25 = .ok (.aload_n 0, 1) := by decide +kernel
theorem dn_Design_isCalled_26 : decode bn_Design_isCalled 26 = .ok (.getfield 66, 3) := by decide +kernel
theorem dn_Design_isCalled_29 : decode bn_Design_isCalled 29 = .ok (.if_icmp .le 5, 3) := by decide +kernel
theorem dn_Design_isCalled_32 : decode bn_Design_isCalled 32 = .ok (.iconst 0, 1) := by decide +kernel
theorem dn_Design_isCalled_33 : decode bn_Design_isCalled 33 = .ok (.ireturn, 1) := by decide +kernel
theorem dn_Design_isCalled_34 : decode bn_Design_isCalled 34 = .ok (.iconst 0, 1) := by decide +kernel
theorem dn_Design_isCalled_35 : decode bn_Design_isCalled 35 = .ok (.istore 6, 2) := by decide +kernel
theorem dn_Design_isCalled_37 : decode bn_Design_isCalled 37 = .ok (.iload 6, 2) := by decide +kernel
theorem dn_Design_isCalled_39 : decode bn_Design_isCalled 39 = .ok (.iload 5, 2) := by decide +kernel
theorem dn_Design_isCalled_41 : decode bn_Design_isCalled 41 = .ok (.if_icmp .ge 41, 3) := by decide +kernel
theorem dn_Design_isCalled_44 : decode bn_Design_isCalled 44 = .ok (.aload_n 2, 1) := by decide +kernel
theorem dn_Design_isCalled_45 : decode bn_Design_isCalled 45 = .ok (.iload_n 3, 1) := by decide +kernel
theorem dn_Design_isCalled_46 : decode bn_Design_isCalled 46 = .ok (.iload 6, 2) := by decide +kernel
theorem dn_Design_isCalled_48 : decode bn_Design_isCalled 48 = .ok (.iadd, 1) := by decide +kernel
theorem dn_Design_isCalled_49 : decode bn_Design_isCalled 49 = .ok (.baload, 1) := by decide +kernel
theorem dn_Design_isCalled_50 : decode bn_Design_isCalled 50 = .ok (.aload_n 0, 1) := by decide +kernel
theorem dn_Design_isCalled_51 : decode bn_Design_isCalled 51 = .ok (.getfield 26, 3) := by decide +kernel
theorem dn_Design_isCalled_54 : decode bn_Design_isCalled 54 = .ok (.iload_n 1, 1) := by decide +kernel
theorem dn_Design_isCalled_55 : decode bn_Design_isCalled 55 = .ok (.iload 6, 2) := by decide +kernel
theorem dn_Design_isCalled_57 : decode bn_Design_isCalled 57 = .ok (.iadd, 1) := by decide +kernel
theorem dn_Design_isCalled_58 : decode bn_Design_isCalled 58 = .ok (.baload, 1) := by decide +kernel
theorem dn_Design_isCalled_59 : decode bn_Design_isCalled 59 = .ok (.if_icmp .ne 15, 3) := by decide +kernel
theorem dn_Design_isCalled_62 : decode bn_Design_isCalled 62 = .ok (.aload_n 2, 1) := by decide +kernel
theorem dn_Design_isCalled_63 : decode bn_Design_isCalled 63 = .ok (.iload_n 3, 1) := by decide +kernel
theorem dn_Design_isCalled_64 : decode bn_Design_isCalled 64 = .ok (.iload 6, 2) := by decide +kernel
theorem dn_Design_isCalled_66 : decode bn_Design_isCalled 66 = .ok (.iadd, 1) := by decide +kernel
theorem dn_Design_isCalled_67 : decode bn_Design_isCalled 67 = .ok (.baload, 1) := by decide +kernel
theorem dn_Design_isCalled_68 : decode bn_Design_isCalled 68 = .ok (.invokestatic 120, 3) := by decide +kernel
theorem dn_Design_isCalled_71 : decode bn_Design_isCalled 71 = .ok (.ifCond .ne 5, 3) := by decide +kernel
theorem dn_Design_isCalled_74 : decode bn_Design_isCalled 74 = .ok (.iconst 0, 1) := by decide +kernel
theorem dn_Design_isCalled_75 : decode bn_Design_isCalled 75 = .ok (.ireturn, 1) := by decide +kernel
theorem dn_Design_isCalled_76 : decode bn_Design_isCalled 76 = .ok (.iinc 6 1, 3) := by decide +kernel
theorem dn_Design_isCalled_79 : decode bn_Design_isCalled 79 = .ok (.goto (-42), 3) := by decide +kernel
theorem dn_Design_isCalled_82 : decode bn_Design_isCalled 82 = .ok (.iload_n 1, 1) := by decide +kernel
theorem dn_Design_isCalled_83 : decode bn_Design_isCalled 83 = .ok (.iload 5, 2) := by decide +kernel
theorem dn_Design_isCalled_85 : decode bn_Design_isCalled 85 = .ok (.iadd, 1) := by decide +kernel
theorem dn_Design_isCalled_86 : decode bn_Design_isCalled 86 = .ok (.aload_n 0, 1) := by decide +kernel
theorem dn_Design_isCalled_87 : decode bn_Design_isCalled 87 = .ok (.getfield 66, 3) := by decide +kernel
theorem dn_Design_isCalled_90 : decode bn_Design_isCalled 90 = .ok (.if_icmp .ge 18, 3) := by decide +kernel
theorem dn_Design_isCalled_93 : decode bn_Design_isCalled 93 = .ok (.aload_n 0, 1) := by decide +kernel
theorem dn_Design_isCalled_94 : decode bn_Design_isCalled 94 = .ok (.getfield 26, 3) := by decide +kernel
theorem dn_Design_isCalled_97 : decode bn_Design_isCalled 97 = .ok (.iload_n 1, 1) := by decide +kernel
theorem dn_Design_isCalled_98 : decode bn_Design_isCalled 98 = .ok (.iload 5, 2) := by decide +kernel
theorem dn_Design_isCalled_100 : decode bn_Design_isCalled 100 = .ok (.iadd, 1) := by decide +kernel
theorem dn_Design_isCalled_101 : decode bn_Design_isCalled 101 = .ok (.baload, 1) := by decide +kernel
theorem dn_Design_isCalled_102 : decode bn_Design_isCalled 102 = .ok (.invokestatic 120, 3) := by decide +kernel
theorem dn_Design_isCalled_105 : decode bn_Design_isCalled 105 = .ok (.ifCond .ne 7, 3) := by decide +kernel
theorem dn_Design_isCalled_108 : decode bn_Design_isCalled 108 = .ok (.iconst 1, 1) := by decide +kernel
theorem dn_Design_isCalled_109 : decode bn_Design_isCalled 109 = .ok (.goto 4, 3) := by decide +kernel
theorem dn_Design_isCalled_112 : decode bn_Design_isCalled 112 = .ok (.iconst 0, 1) := by decide +kernel
theorem dn_Design_isCalled_113 : decode bn_Design_isCalled 113 = .ok (.ireturn, 1) := by decide +kernel
theorem dn_Design_isModule_0 : decode bn_Design_isModule 0 = .ok (.iload_n 1, 1) := by decide +kernel
theorem dn_Design_isModule_1 : decode bn_Design_isModule 1 = .ok (.ifCond .lt 15, 3) := by decide +kernel
theorem dn_Design_isModule_4 : decode bn_Design_isModule 4 = .ok (.iload_n 1, 1) := by decide +kernel
theorem dn_Design_isModule_5 : decode bn_Design_isModule 5 = .ok (.aload_n 0, 1) := by decide +kernel
theorem dn_Design_isModule_6 : decode bn_Design_isModule 6 = .ok (.getfield 70, 3) := by decide +kernel
theorem dn_Design_isModule_9 : decode bn_Design_isModule 9 = .ok (.if_icmp .ge 7, 3) := by decide +kernel
theorem dn_Design_isModule_12 : decode bn_Design_isModule 12 = .ok (.iconst 1, 1) := by decide +kernel
theorem dn_Design_isModule_13 : decode bn_Design_isModule 13 = .ok (.goto 4, 3) := by decide +kernel
theorem dn_Design_isModule_16 : decode bn_Design_isModule 16 = .ok (.iconst 0, 1) := by decide +kernel
theorem dn_Design_isModule_17 : decode bn_Design_isModule 17 = .ok (.ireturn, 1) := by decide +kernel
theorem dn_Design_portCount_0 : decode bn_Design_portCount 0 = .ok (.aload_n 0, 1) := by decide +kernel
theorem dn_Design_portCount_1 : decode bn_Design_portCount 1 = .ok (.iload_n 1, 1) := by decide +kernel
theorem dn_Design_portCount_2 : decode bn_Design_portCount 2 = .ok (.invokevirtual 92, 3) := by decide +kernel
theorem dn_Design_portCount_5 : decode bn_Design_portCount 5 = .ok (.ifCond .eq 12, 3) := by decide +kernel
theorem dn_Design_portCount_8 : decode bn_Design_portCount 8 = .ok (.aload_n 0, 1) := by decide +kernel
theorem dn_Design_portCount_9 : decode bn_Design_portCount 9 = .ok (.getfield 37, 3) := by decide +kernel
theorem dn_Design_portCount_12 : decode bn_Design_portCount 12 = .ok (.iload_n 1, 1) := by decide +kernel
theorem dn_Design_portCount_13 : decode bn_Design_portCount 13 = .ok (.iaload, 1) := by decide +kernel
theorem dn_Design_portCount_14 : decode bn_Design_portCount 14 = .ok (.goto 4, 3) := by decide +kernel
theorem dn_Design_portCount_17 : decode bn_Design_portCount 17 = .ok (.iconst 0, 1) := by decide +kernel
theorem dn_Design_portCount_18 : decode bn_Design_portCount 18 = .ok (.ireturn, 1) := by decide +kernel
theorem dn_Design_setPorts_0 : decode bn_Design_setPorts 0 = .ok (.aload_n 0, 1) := by decide +kernel
theorem dn_Design_setPorts_1 : decode bn_Design_setPorts 1 = .ok (.getfield 70, 3) := by decide +kernel
theorem dn_Design_setPorts_4 : decode bn_Design_setPorts 4 = .ok (.ifCond .ne 4, 3) := by decide +kernel
theorem dn_Design_setPorts_7 : decode bn_Design_setPorts 7 = .ok (.return_, 1) := by decide +kernel
theorem dn_Design_setPorts_8 : decode bn_Design_setPorts 8 = .ok (.aload_n 0, 1) := by decide +kernel
theorem dn_Design_setPorts_9 : decode bn_Design_setPorts 9 = .ok (.getfield 37, 3) := by decide +kernel
theorem dn_Design_setPorts_12 : decode bn_Design_setPorts 12 = .ok (.aload_n 0, 1) := by decide +kernel
theorem dn_Design_setPorts_13 : decode bn_Design_setPorts 13 = .ok (.getfield 70, 3) := by decide +kernel
theorem dn_Design_setPorts_16 : decode bn_Design_setPorts 16 = .ok (.iconst 1, 1) := by decide +kernel
theorem dn_Design_setPorts_17 : decode bn_Design_setPorts 17 = .ok (.isub, 1) := by decide +kernel
theorem dn_Design_setPorts_18 : decode bn_Design_setPorts 18 = .ok (.aload_n 0, 1) := by decide +kernel
theorem dn_Design_setPorts_19 : decode bn_Design_setPorts 19 = .ok (.getfield 12, 3) := by decide +kernel
theorem dn_Design_setPorts_22 : decode bn_Design_setPorts 22 = .ok (.getfield 83, 3) := by decide +kernel
theorem dn_Design_setPorts_25 : decode bn_Design_setPorts 25 = .ok (.aload_n 0, 1) := by decide +kernel
theorem dn_Design_setPorts_26 : decode bn_Design_setPorts 26 = .ok (.getfield 34, 3) := by decide +kernel
theorem dn_Design_setPorts_29 : decode bn_Design_setPorts 29 = .ok (.aload_n 0, 1) := by decide +kernel
theorem dn_Design_setPorts_30 : decode bn_Design_setPorts 30 = .ok (.getfield 70, 3) := by decide +kernel
theorem dn_Design_setPorts_33 : decode bn_Design_setPorts 33 = .ok (.iconst 1, 1) := by decide +kernel
theorem dn_Design_setPorts_34 : decode bn_Design_setPorts 34 = .ok (.isub, 1) := by decide +kernel
theorem dn_Design_setPorts_35 : decode bn_Design_setPorts 35 = .ok (.iaload, 1) := by decide +kernel
theorem dn_Design_setPorts_36 : decode bn_Design_setPorts 36 = .ok (.isub, 1) := by decide +kernel
theorem dn_Design_setPorts_37 : decode bn_Design_setPorts 37 = .ok (.iastore, 1) := by decide +kernel
theorem dn_Design_setPorts_38 : decode bn_Design_setPorts 38 = .ok (.return_, 1) := by decide +kernel
theorem dn_Design_sumOf_0 : decode bn_Design_sumOf 0 = .ok (.aload_n 0, 1) := by decide +kernel
theorem dn_Design_sumOf_1 : decode bn_Design_sumOf 1 = .ok (.iload_n 2, 1) := by decide +kernel
theorem dn_Design_sumOf_2 : decode bn_Design_sumOf 2 = .ok (.invokevirtual 92, 3) := by decide +kernel
theorem dn_Design_sumOf_5 : decode bn_Design_sumOf 5 = .ok (.ifCond .eq 14, 3) := by decide +kernel
theorem dn_Design_sumOf_8 : decode bn_Design_sumOf 8 = .ok (.aload_n 0, 1) := by decide +kernel
theorem dn_Design_sumOf_9 : decode bn_Design_sumOf 9 = .ok (.getfield 48, 3) := by decide +kernel
theorem dn_Design_sumOf_12 : decode bn_Design_sumOf 12 = .ok (.iload_n 1, 1) := by decide +kernel
theorem dn_Design_sumOf_13 : decode bn_Design_sumOf 13 = .ok (.aaload, 1) := by decide +kernel
theorem dn_Design_sumOf_14 : decode bn_Design_sumOf 14 = .ok (.iload_n 2, 1) := by decide +kernel
theorem dn_Design_sumOf_15 : decode bn_Design_sumOf 15 = .ok (.iaload, 1) := by decide +kernel
theorem dn_Design_sumOf_16 : decode bn_Design_sumOf 16 = .ok (.goto 4, 3) := by decide +kernel
theorem dn_Design_sumOf_19 : decode bn_Design_sumOf 19 = .ok (.iconst 0, 1) := by decide +kernel
theorem dn_Design_sumOf_20 : decode bn_Design_sumOf 20 = .ok (.ireturn, 1) := by decide +kernel
theorem dn_Design_sumOfTop_0 : decode bn_Design_sumOfTop 0 = .ok (.aload_n 0, 1) := by decide +kernel
theorem dn_Design_sumOfTop_1 : decode bn_Design_sumOfTop 1 = .ok (.iload_n 1, 1) := by decide +kernel
theorem dn_Design_sumOfTop_2 : decode bn_Design_sumOfTop 2 = .ok (.aload_n 0, 1) := by decide +kernel
theorem dn_Design_sumOfTop_3 : decode bn_Design_sumOfTop 3 = .ok (.getfield 70, 3) := by decide +kernel
theorem dn_Design_sumOfTop_6 : decode bn_Design_sumOfTop 6 = .ok (.iconst 1, 1) := by decide +kernel
theorem dn_Design_sumOfTop_7 : decode bn_Design_sumOfTop 7 = .ok (.isub, 1) := by decide +kernel
theorem dn_Design_sumOfTop_8 : decode bn_Design_sumOfTop 8 = .ok (.invokevirtual 96, 3) := by decide +kernel
theorem dn_Design_sumOfTop_11 : decode bn_Design_sumOfTop 11 = .ok (.ireturn, 1) := by decide +kernel
theorem dn_Design_sumUp_0 : decode bn_Design_sumUp 0 = .ok (.aload_n 0, 1) := by decide +kernel
theorem dn_Design_sumUp_1 : decode bn_Design_sumUp 1 = .ok (.getfield 70, 3) := by decide +kernel
theorem dn_Design_sumUp_4 : decode bn_Design_sumUp 4 = .ok (.iconst 1, 1) := by decide +kernel
theorem dn_Design_sumUp_5 : decode bn_Design_sumUp 5 = .ok (.isub, 1) := by decide +kernel
theorem dn_Design_sumUp_6 : decode bn_Design_sumUp 6 = .ok (.istore_n 2, 1) := by decide +kernel
theorem dn_Design_sumUp_7 : decode bn_Design_sumUp 7 = .ok (.iload_n 2, 1) := by decide +kernel
theorem dn_Design_sumUp_8 : decode bn_Design_sumUp 8 = .ok (.ifCond .ge 4, 3) := by decide +kernel
theorem dn_Design_sumUp_11 : decode bn_Design_sumUp 11 = .ok (.return_, 1) := by decide +kernel
theorem dn_Design_sumUp_12 : decode bn_Design_sumUp 12 = .ok (.iconst 0, 1) := by decide +kernel
theorem dn_Design_sumUp_13 : decode bn_Design_sumUp 13 = .ok (.istore_n 3, 1) := by decide +kernel
theorem dn_Design_sumUp_14 : decode bn_Design_sumUp 14 = .ok (.aload_n 0, 1) := by decide +kernel
theorem dn_Design_sumUp_15 : decode bn_Design_sumUp 15 = .ok (.getfield 34, 3) := by decide +kernel
theorem dn_Design_sumUp_18 : decode bn_Design_sumUp 18 = .ok (.iload_n 2, 1) := by decide +kernel
theorem dn_Design_sumUp_19 : decode bn_Design_sumUp 19 = .ok (.iaload, 1) := by decide +kernel
theorem dn_Design_sumUp_20 : decode bn_Design_sumUp 20 = .ok (.istore 4, 2) := by decide +kernel
theorem dn_Design_sumUp_22 : decode bn_Design_sumUp 22 = .ok (.iload 4, 2) := by decide +kernel
theorem dn_Design_sumUp_24 : decode bn_Design_sumUp 24 = .ok (.aload_n 0, 1) := by decide +kernel
theorem dn_Design_sumUp_25 : decode bn_Design_sumUp 25 = .ok (.getfield 12, 3) := by decide +kernel
theorem dn_Design_sumUp_28 : decode bn_Design_sumUp 28 = .ok (.getfield 83, 3) := by decide +kernel
theorem dn_Design_sumUp_31 : decode bn_Design_sumUp 31 = .ok (.if_icmp .ge 38, 3) := by decide +kernel
theorem dn_Design_sumUp_34 : decode bn_Design_sumUp 34 = .ok (.aload_n 0, 1) := by decide +kernel
theorem dn_Design_sumUp_35 : decode bn_Design_sumUp 35 = .ok (.getfield 12, 3) := by decide +kernel
theorem dn_Design_sumUp_38 : decode bn_Design_sumUp 38 = .ok (.getfield 99, 3) := by decide +kernel
theorem dn_Design_sumUp_41 : decode bn_Design_sumUp 41 = .ok (.iload 4, 2) := by decide +kernel
theorem dn_Design_sumUp_43 : decode bn_Design_sumUp 43 = .ok (.iaload, 1) := by decide +kernel
theorem dn_Design_sumUp_44 : decode bn_Design_sumUp 44 = .ok (.iconst 2, 1) := by decide +kernel
theorem dn_Design_sumUp_45 : decode bn_Design_sumUp 45 = .ok (.if_icmp .ne 18, 3) := by decide +kernel
theorem dn_Design_sumUp_48 : decode bn_Design_sumUp 48 = .ok (.iload_n 3, 1) := by decide +kernel
theorem dn_Design_sumUp_49 : decode bn_Design_sumUp 49 = .ok (.aload_n 0, 1) := by decide +kernel
theorem dn_Design_sumUp_50 : decode bn_Design_sumUp 50 = .ok (.getfield 12, 3) := by decide +kernel
theorem dn_Design_sumUp_53 : decode bn_Design_sumUp 53 = .ok (.getfield 102, 3) := by decide +kernel
theorem dn_Design_sumUp_56 : decode bn_Design_sumUp 56 = .ok (.iload 4, 2) := by decide +kernel
theorem dn_Design_sumUp_58 : decode bn_Design_sumUp 58 = .ok (.iaload, 1) := by decide +kernel
theorem dn_Design_sumUp_59 : decode bn_Design_sumUp 59 = .ok (.invokestatic 105, 3) := by decide +kernel
theorem dn_Design_sumUp_62 : decode bn_Design_sumUp 62 = .ok (.istore_n 3, 1) := by decide +kernel
theorem dn_Design_sumUp_63 : decode bn_Design_sumUp 63 = .ok (.iinc 4 1, 3) := by decide +kernel
theorem dn_Design_sumUp_66 : decode bn_Design_sumUp 66 = .ok (.goto (-44), 3) := by decide +kernel
theorem dn_Design_sumUp_69 : decode bn_Design_sumUp 69 = .ok (.iconst 0, 1) := by decide +kernel
theorem dn_Design_sumUp_70 : decode bn_Design_sumUp 70 = .ok (.istore 4, 2) := by decide +kernel
theorem dn_Design_sumUp_72 : decode bn_Design_sumUp 72 = .ok (.aload_n 0, 1) := by decide +kernel
theorem dn_Design_sumUp_73 : decode bn_Design_sumUp 73 = .ok (.getfield 43, 3) := by decide +kernel
theorem dn_Design_sumUp_76 : decode bn_Design_sumUp 76 = .ok (.iload_n 2, 1) := by decide +kernel
theorem dn_Design_sumUp_77 : decode bn_Design_sumUp 77 = .ok (.iaload, 1) := by decide +kernel
theorem dn_Design_sumUp_78 : decode bn_Design_sumUp 78 = .ok (.istore 5, 2) := by decide +kernel
theorem dn_Design_sumUp_80 : decode bn_Design_sumUp 80 = .ok (.iload 5, 2) := by decide +kernel
theorem dn_Design_sumUp_82 : decode bn_Design_sumUp 82 = .ok (.aload_n 0, 1) := by decide +kernel
theorem dn_Design_sumUp_83 : decode bn_Design_sumUp 83 = .ok (.getfield 73, 3) := by decide +kernel
theorem dn_Design_sumUp_86 : decode bn_Design_sumUp 86 = .ok (.if_icmp .ge 21, 3) := by decide +kernel
theorem dn_Design_sumUp_89 : decode bn_Design_sumUp 89 = .ok (.iload 4, 2) := by decide +kernel
theorem dn_Design_sumUp_91 : decode bn_Design_sumUp 91 = .ok (.aload_n 0, 1) := by decide +kernel
theorem dn_Design_sumUp_92 : decode bn_Design_sumUp 92 = .ok (.getfield 57, 3) := by decide +kernel
theorem dn_Design_sumUp_95 : decode bn_Design_sumUp 95 = .ok (.iload 5, 2) := by decide +kernel
theorem dn_Design_sumUp_97 : decode bn_Design_sumUp 97 = .ok (.iaload, 1) := by decide +kernel
theorem dn_Design_sumUp_98 : decode bn_Design_sumUp 98 = .ok (.iadd, 1) := by decide +kernel
theorem dn_Design_sumUp_99 : decode bn_Design_sumUp 99 = .ok (.istore 4, 2) := by decide +kernel
theorem dn_Design_sumUp_101 : decode bn_Design_sumUp 101 = .ok (.iinc 5 1, 3) := by decide +kernel
theorem dn_Design_sumUp_104 : decode bn_Design_sumUp 104 = .ok (.goto (-24), 3) := by decide +kernel
theorem dn_Design_sumUp_107 : decode bn_Design_sumUp 107 = .ok (.aload_n 0, 1) := by decide +kernel
theorem dn_Design_sumUp_108 : decode bn_Design_sumUp 108 = .ok (.getfield 48, 3) := by decide +kernel
theorem dn_Design_sumUp_111 : decode bn_Design_sumUp 111 = .ok (.iconst 0, 1) := by decide +kernel
theorem dn_Design_sumUp_112 : decode bn_Design_sumUp 112 = .ok (.aaload, 1) := by decide +kernel
theorem dn_Design_sumUp_113 : decode bn_Design_sumUp 113 = .ok (.iload_n 2, 1) := by decide +kernel
theorem dn_Design_sumUp_114 : decode bn_Design_sumUp 114 = .ok (.iconst 1, 1) := by decide +kernel
theorem dn_Design_sumUp_115 : decode bn_Design_sumUp 115 = .ok (.iastore, 1) := by decide +kernel
theorem dn_Design_sumUp_116 : decode bn_Design_sumUp 116 = .ok (.aload_n 0, 1) := by decide +kernel
theorem dn_Design_sumUp_117 : decode bn_Design_sumUp 117 = .ok (.getfield 48, 3) := by decide +kernel
theorem dn_Design_sumUp_120 : decode bn_Design_sumUp 120 = .ok (.iconst 1, 1) := by decide +kernel
theorem dn_Design_sumUp_121 : decode bn_Design_sumUp 121 = .ok (.aaload, 1) := by decide +kernel
theorem dn_Design_sumUp_122 : decode bn_Design_sumUp 122 = .ok (.iload_n 2, 1) := by decide +kernel
theorem dn_Design_sumUp_123 : decode bn_Design_sumUp 123 = .ok (.aload_n 0, 1) := by decide +kernel
theorem dn_Design_sumUp_124 : decode bn_Design_sumUp 124 = .ok (.getfield 12, 3) := by decide +kernel
theorem dn_Design_sumUp_127 : decode bn_Design_sumUp 127 = .ok (.getfield 83, 3) := by decide +kernel
theorem dn_Design_sumUp_130 : decode bn_Design_sumUp 130 = .ok (.aload_n 0, 1) := by decide +kernel
theorem dn_Design_sumUp_131 : decode bn_Design_sumUp 131 = .ok (.getfield 34, 3) := by decide +kernel
theorem dn_Design_sumUp_134 : decode bn_Design_sumUp 134 = .ok (.iload_n 2, 1) := by decide +kernel
theorem dn_Design_sumUp_135 : decode bn_Design_sumUp 135 = .ok (.iaload, 1) := by decide +kernel
theorem dn_Design_sumUp_136 : decode bn_Design_sumUp 136 = .ok (.isub, 1) := by decide +kernel
theorem dn_Design_sumUp_137 : decode bn_Design_sumUp 137 = .ok (.iastore, 1) := by decide +kernel
theorem dn_Design_sumUp_138 : decode bn_Design_sumUp 138 = .ok (.aload_n 0, 1) := by decide +kernel
theorem dn_Design_sumUp_139 : decode bn_Design_sumUp 139 = .ok (.getfield 48, 3) := by decide +kernel
theorem dn_Design_sumUp_142 : decode bn_Design_sumUp 142 = .ok (.iconst 2, 1) := by decide +kernel
theorem dn_Design_sumUp_143 : decode bn_Design_sumUp 143 = .ok (.aaload, 1) := by decide +kernel
theorem dn_Design_sumUp_144 : decode bn_Design_sumUp 144 = .ok (.iload_n 2, 1) := by decide +kernel
theorem dn_Design_sumUp_145 : decode bn_Design_sumUp 145 = .ok (.iload_n 3, 1) := by decide +kernel
theorem dn_Design_sumUp_146 : decode bn_Design_sumUp 146 = .ok (.iastore, 1) := by decide +kernel
theorem dn_Design_sumUp_147 : decode bn_Design_sumUp 147 = .ok (.aload_n 0, 1) := by decide +kernel
theorem dn_Design_sumUp_148 : decode bn_Design_sumUp 148 = .ok (.getfield 48, 3) := by decide +kernel
theorem dn_Design_sumUp_151 : decode bn_Design_sumUp 151 = .ok (.iconst 3, 1) := by decide +kernel
theorem dn_Design_sumUp_152 : decode bn_Design_sumUp 152 = .ok (.aaload, 1) := by decide +kernel
theorem dn_Design_sumUp_153 : decode bn_Design_sumUp 153 = .ok (.iload_n 2, 1) := by decide +kernel
theorem dn_Design_sumUp_154 : decode bn_Design_sumUp 154 = .ok (.iload 4, 2) := by decide +kernel
theorem dn_Design_sumUp_156 : decode bn_Design_sumUp 156 = .ok (.iastore, 1) := by decide +kernel
theorem dn_Design_sumUp_157 : decode bn_Design_sumUp 157 = .ok (.aload_n 0, 1) := by decide +kernel
theorem dn_Design_sumUp_158 : decode bn_Design_sumUp 158 = .ok (.getfield 48, 3) := by decide +kernel
theorem dn_Design_sumUp_161 : decode bn_Design_sumUp 161 = .ok (.iconst 4, 1) := by decide +kernel
theorem dn_Design_sumUp_162 : decode bn_Design_sumUp 162 = .ok (.aaload, 1) := by decide +kernel
theorem dn_Design_sumUp_163 : decode bn_Design_sumUp 163 = .ok (.iload_n 2, 1) := by decide +kernel
theorem dn_Design_sumUp_164 : decode bn_Design_sumUp 164 = .ok (.iload_n 1, 1) := by decide +kernel
theorem dn_Design_sumUp_165 : decode bn_Design_sumUp 165 = .ok (.iastore, 1) := by decide +kernel
theorem dn_Design_sumUp_166 : decode bn_Design_sumUp 166 = .ok (.aload_n 0, 1) := by decide +kernel
theorem dn_Design_sumUp_167 : decode bn_Design_sumUp 167 = .ok (.getfield 40, 3) := by decide +kernel
theorem dn_Design_sumUp_170 : decode bn_Design_sumUp 170 = .ok (.iload_n 2, 1) := by decide +kernel
theorem dn_Design_sumUp_171 : decode bn_Design_sumUp 171 = .ok (.iaload, 1) := by decide +kernel
theorem dn_Design_sumUp_172 : decode bn_Design_sumUp 172 = .ok (.istore 5, 2) := by decide +kernel
theorem dn_Design_sumUp_174 : decode bn_Design_sumUp 174 = .ok (.iload 5, 2) := by decide +kernel
theorem dn_Design_sumUp_176 : decode bn_Design_sumUp 176 = .ok (.aload_n 0, 1) := by decide +kernel
theorem dn_Design_sumUp_177 : decode bn_Design_sumUp 177 = .ok (.getfield 12, 3) := by decide +kernel
theorem dn_Design_sumUp_180 : decode bn_Design_sumUp 180 = .ok (.getfield 86, 3) := by decide +kernel
theorem dn_Design_sumUp_183 : decode bn_Design_sumUp 183 = .ok (.if_icmp .ge 65, 3) := by decide +kernel
theorem dn_Design_sumUp_186 : decode bn_Design_sumUp 186 = .ok (.aload_n 0, 1) := by decide +kernel
theorem dn_Design_sumUp_187 : decode bn_Design_sumUp 187 = .ok (.getfield 12, 3) := by decide +kernel
theorem dn_Design_sumUp_190 : decode bn_Design_sumUp 190 = .ok (.getfield 108, 3) := by decide +kernel
theorem dn_Design_sumUp_193 : decode bn_Design_sumUp 193 = .ok (.iload 5, 2) := by decide +kernel
theorem dn_Design_sumUp_195 : decode bn_Design_sumUp 195 = .ok (.iaload, 1) := by decide +kernel
theorem dn_Design_sumUp_196 : decode bn_Design_sumUp 196 = .ok (.istore 6, 2) := by decide +kernel
theorem dn_Design_sumUp_198 : decode bn_Design_sumUp 198 = .ok (.iconst 0, 1) := by decide +kernel
theorem dn_Design_sumUp_199 : decode bn_Design_sumUp 199 = .ok (.istore 7, 2) := by decide +kernel
theorem dn_Design_sumUp_201 : decode bn_Design_sumUp 201 = .ok (.iload 7, 2) := by decide +kernel
theorem dn_Design_sumUp_203 : decode bn_Design_sumUp 203 = .ok (.iconst 5, 1) := by decide +kernel
theorem dn_Design_sumUp_204 : decode bn_Design_sumUp 204 = .ok (.if_icmp .ge 38, 3) := by decide +kernel
theorem dn_Design_sumUp_207 : decode bn_Design_sumUp 207 = .ok (.aload_n 0, 1) := by decide +kernel
theorem dn_Design_sumUp_208 : decode bn_Design_sumUp 208 = .ok (.getfield 48, 3) := by decide +kernel
theorem dn_Design_sumUp_211 : decode bn_Design_sumUp 211 = .ok (.iload 7, 2) := by decide +kernel
theorem dn_Design_sumUp_213 : decode bn_Design_sumUp 213 = .ok (.aaload, 1) := by decide +kernel
theorem dn_Design_sumUp_214 : decode bn_Design_sumUp 214 = .ok (.iload_n 2, 1) := by decide +kernel
theorem dn_Design_sumUp_215 : decode bn_Design_sumUp 215 = .ok (.aload_n 0, 1) := by decide +kernel
theorem dn_Design_sumUp_216 : decode bn_Design_sumUp 216 = .ok (.getfield 48, 3) := by decide +kernel
theorem dn_Design_sumUp_219 : decode bn_Design_sumUp 219 = .ok (.iload 7, 2) := by decide +kernel
theorem dn_Design_sumUp_221 : decode bn_Design_sumUp 221 = .ok (.aaload, 1) := by decide +kernel
theorem dn_Design_sumUp_222 : decode bn_Design_sumUp 222 = .ok (.iload_n 2, 1) := by decide +kernel
theorem dn_Design_sumUp_223 : decode bn_Design_sumUp 223 = .ok (.iaload, 1) := by decide +kernel
theorem dn_Design_sumUp_224 : decode bn_Design_sumUp 224 = .ok (.aload_n 0, 1) := by decide +kernel
theorem dn_Design_sumUp_225 : decode bn_Design_sumUp 225 = .ok (.iload 7, 2) := by decide +kernel
theorem dn_Design_sumUp_227 : decode bn_Design_sumUp 227 = .ok (.iload 6, 2) := by decide +kernel
theorem dn_Design_sumUp_229 : decode bn_Design_sumUp 229 = .ok (.invokevirtual 96, 3) := by decide +kernel
theorem dn_Design_sumUp_232 : decode bn_Design_sumUp 232 = .ok (.invokestatic 105, 3) := by decide +kernel
theorem dn_Design_sumUp_235 : decode bn_Design_sumUp 235 = .ok (.iastore, 1) := by decide +kernel
theorem dn_Design_sumUp_236 : decode bn_Design_sumUp 236 = .ok (.iinc 7 1, 3) := by decide +kernel
theorem dn_Design_sumUp_239 : decode bn_Design_sumUp 239 = .ok (.goto (-38), 3) := by decide +kernel
theorem dn_Design_sumUp_242 : decode bn_Design_sumUp 242 = .ok (.iinc 5 1, 3) := by decide +kernel
theorem dn_Design_sumUp_245 : decode bn_Design_sumUp 245 = .ok (.goto (-71), 3) := by decide +kernel
theorem dn_Design_sumUp_248 : decode bn_Design_sumUp 248 = .ok (.return_, 1) := by decide +kernel
theorem dn_Design_topPlace_0 : decode bn_Design_topPlace 0 = .ok (.aload_n 0, 1) := by decide +kernel
theorem dn_Design_topPlace_1 : decode bn_Design_topPlace 1 = .ok (.getfield 70, 3) := by decide +kernel
theorem dn_Design_topPlace_4 : decode bn_Design_topPlace 4 = .ok (.ifCond .le 17, 3) := by decide +kernel
theorem dn_Design_topPlace_7 : decode bn_Design_topPlace 7 = .ok (.aload_n 0, 1) := by decide +kernel
theorem dn_Design_topPlace_8 : decode bn_Design_topPlace 8 = .ok (.getfield 30, 3) := by decide +kernel
theorem dn_Design_topPlace_11 : decode bn_Design_topPlace 11 = .ok (.aload_n 0, 1) := by decide +kernel
theorem dn_Design_topPlace_12 : decode bn_Design_topPlace 12 = .ok (.getfield 70, 3) := by decide +kernel
theorem dn_Design_topPlace_15 : decode bn_Design_topPlace 15 = .ok (.iconst 1, 1) := by decide +kernel
theorem dn_Design_topPlace_16 : decode bn_Design_topPlace 16 = .ok (.isub, 1) := by decide +kernel
theorem dn_Design_topPlace_17 : decode bn_Design_topPlace 17 = .ok (.iaload, 1) := by decide +kernel
theorem dn_Design_topPlace_18 : decode bn_Design_topPlace 18 = .ok (.goto 4, 3) := by decide +kernel
theorem dn_Design_topPlace_21 : decode bn_Design_topPlace 21 = .ok (.iconst (-1), 1) := by decide +kernel
theorem dn_Design_topPlace_22 : decode bn_Design_topPlace 22 = .ok (.ireturn, 1) := by decide +kernel
theorem dn_Grammar_always_0 : decode bn_Grammar_always 0 = .ok (.aload_n 0, 1) := by decide +kernel
theorem dn_Grammar_always_1 : decode bn_Grammar_always 1 = .ok (.getfield 24, 3) := by decide +kernel
theorem dn_Grammar_always_4 : decode bn_Grammar_always 4 = .ok (.invokevirtual 112, 3) := by decide +kernel
theorem dn_Grammar_always_7 : decode bn_Grammar_always 7 = .ok (.aload_n 0, 1) := by decide +kernel
theorem dn_Grammar_always_8 : decode bn_Grammar_always 8 = .ok (.getfield 24, 3) := by decide +kernel
theorem dn_Grammar_always_11 : decode bn_Grammar_always 11 = .ok (.bipush 64, 2) := by decide +kernel
theorem dn_Grammar_always_13 : decode bn_Grammar_always 13 = .ok (.invokevirtual 94, 3) := by decide +kernel
theorem dn_Grammar_always_16 : decode bn_Grammar_always 16 = .ok (.aload_n 0, 1) := by decide +kernel
theorem dn_Grammar_always_17 : decode bn_Grammar_always 17 = .ok (.getfield 24, 3) := by decide +kernel
theorem dn_Grammar_always_20 : decode bn_Grammar_always 20 = .ok (.bipush 40, 2) := by decide +kernel
theorem dn_Grammar_always_22 : decode bn_Grammar_always 22 = .ok (.invokevirtual 115, 3) := by decide +kernel
theorem dn_Grammar_always_25 : decode bn_Grammar_always 25 = .ok (.aload_n 0, 1) := by decide +kernel
theorem dn_Grammar_always_26 : decode bn_Grammar_always 26 = .ok (.getfield 24, 3) := by decide +kernel
theorem dn_Grammar_always_29 : decode bn_Grammar_always 29 = .ok (.sipush 136, 3) := by decide +kernel
theorem dn_Grammar_always_32 : decode bn_Grammar_always 32 = .ok (.invokevirtual 94, 3) := by decide +kernel
theorem dn_Grammar_always_35 : decode bn_Grammar_always 35 = .ok (.aload_n 0, 1) := by decide +kernel
theorem dn_Grammar_always_36 : decode bn_Grammar_always 36 = .ok (.getfield 24, 3) := by decide +kernel
theorem dn_Grammar_always_39 : decode bn_Grammar_always 39 = .ok (.sipush 137, 3) := by decide +kernel
theorem dn_Grammar_always_42 : decode bn_Grammar_always 42 = .ok (.invokevirtual 94, 3) := by decide +kernel
theorem dn_Grammar_always_45 : decode bn_Grammar_always 45 = .ok (.aload_n 0, 1) := by decide +kernel
theorem dn_Grammar_always_46 : decode bn_Grammar_always 46 = .ok (.getfield 24, 3) := by decide +kernel
theorem dn_Grammar_always_49 : decode bn_Grammar_always 49 = .ok (.bipush 41, 2) := by decide +kernel
theorem dn_Grammar_always_51 : decode bn_Grammar_always 51 = .ok (.invokevirtual 121, 3) := by decide +kernel
theorem dn_Grammar_always_54 : decode bn_Grammar_always 54 = .ok (.aload_n 0, 1) := by decide +kernel
theorem dn_Grammar_always_55 : decode bn_Grammar_always 55 = .ok (.getfield 32, 3) := by decide +kernel
theorem dn_Grammar_always_58 : decode bn_Grammar_always 58 = .ok (.invokevirtual 164, 3) := by decide +kernel
theorem dn_Grammar_always_61 : decode bn_Grammar_always 61 = .ok (.aload_n 0, 1) := by decide +kernel
theorem dn_Grammar_always_62 : decode bn_Grammar_always 62 = .ok (.iconst 4, 1) := by decide +kernel
theorem dn_Grammar_always_63 : decode bn_Grammar_always 63 = .ok (.putfield 58, 3) := by decide +kernel
theorem dn_Grammar_always_66 : decode bn_Grammar_always 66 = .ok (.return_, 1) := by decide +kernel
theorem dn_Grammar_apply_0 : decode bn_Grammar_apply 0 = .ok (.aload_n 0, 1) := by decide +kernel
theorem dn_Grammar_apply_1 : decode bn_Grammar_apply 1 = .ok (.getfield 51, 3) := by decide +kernel
theorem dn_Grammar_apply_4 : decode bn_Grammar_apply 4 = .ok (.ifCond .le 124, 3) := by decide +kernel
theorem dn_Grammar_apply_7 : decode bn_Grammar_apply 7 = .ok (.aload_n 0, 1) := by decide +kernel
theorem dn_Grammar_apply_8 : decode bn_Grammar_apply 8 = .ok (.getfield 15, 3) := by decide +kernel
theorem dn_Grammar_apply_11 : decode bn_Grammar_apply 11 = .ok (.aload_n 0, 1) := by decide +kernel
theorem dn_Grammar_apply_12 : decode bn_Grammar_apply 12 = .ok (.getfield 51, 3) := by decide +kernel
theorem dn_Grammar_apply_15 : decode bn_Grammar_apply 15 = .ok (.iconst 1, 1) := by decide +kernel
theorem dn_Grammar_apply_16 : decode bn_Grammar_apply 16 = .ok (.isub, 1) := by decide +kernel
theorem dn_Grammar_apply_17 : decode bn_Grammar_apply 17 = .ok (.iaload, 1) := by decide +kernel
theorem dn_Grammar_apply_18 : decode bn_Grammar_apply 18 = .ok (.invokestatic 296, 3) := by decide +kernel
theorem dn_Grammar_apply_21 : decode bn_Grammar_apply 21 = .ok (.iload_n 1, 1) := by decide +kernel
theorem dn_Grammar_apply_22 : decode bn_Grammar_apply 22 = .ok (.if_icmp .lt 106, 3) := by decide +kernel
theorem dn_Grammar_apply_25 : decode bn_Grammar_apply 25 = .ok (.aload_n 0, 1) := by decide +kernel
theorem dn_Grammar_apply_26 : decode bn_Grammar_apply 26 = .ok (.dup, 1) := by decide +kernel
theorem dn_Grammar_apply_27 : decode bn_Grammar_apply 27 = .ok (.getfield 51, 3) := by decide +kernel
theorem dn_Grammar_apply_30 : decode bn_Grammar_apply 30 = .ok (.iconst 1, 1) := by decide +kernel
theorem dn_Grammar_apply_31 : decode bn_Grammar_apply 31 = .ok (.isub, 1) := by decide +kernel
theorem dn_Grammar_apply_32 : decode bn_Grammar_apply 32 = .ok (.putfield 51, 3) := by decide +kernel
theorem dn_Grammar_apply_35 : decode bn_Grammar_apply 35 = .ok (.aload_n 0, 1) := by decide +kernel
theorem dn_Grammar_apply_36 : decode bn_Grammar_apply 36 = .ok (.getfield 15, 3) := by decide +kernel
theorem dn_Grammar_apply_39 : decode bn_Grammar_apply 39 = .ok (.aload_n 0, 1) := by decide +kernel
theorem dn_Grammar_apply_40 : decode bn_Grammar_apply 40 = .ok (.getfield 51, 3) := by decide +kernel
theorem dn_Grammar_apply_43 : decode bn_Grammar_apply 43 = .ok (.iaload, 1) := by decide +kernel
theorem dn_Grammar_apply_44 : decode bn_Grammar_apply 44 = .ok (.sipush 256, 3) := by decide +kernel
theorem dn_Grammar_apply_47 : decode bn_Grammar_apply 47 = .ok (.if_icmp .eq 31, 3) := by decide +kernel
theorem dn_Grammar_apply_50 : decode bn_Grammar_apply 50 = .ok (.aload_n 0, 1) := by decide +kernel
theorem dn_Grammar_apply_51 : decode bn_Grammar_apply 51 = .ok (.getfield 28, 3) := by decide +kernel
theorem dn_Grammar_apply_54 : decode bn_Grammar_apply 54 = .ok (.aload_n 0, 1) := by decide +kernel
theorem dn_Grammar_apply_55 : decode bn_Grammar_apply 55 = .ok (.getfield 15, 3) := by decide +kernel
theorem dn_Grammar_apply_58 : decode bn_Grammar_apply 58 = .ok (.aload_n 0, 1) := by decide +kernel
theorem dn_Grammar_apply_59 : decode bn_Grammar_apply 59 = .ok (.getfield 51, 3) := by decide +kernel
theorem dn_Grammar_apply_62 : decode bn_Grammar_apply 62 = .ok (.iaload, 1) := by decide +kernel
theorem dn_Grammar_apply_63 : decode bn_Grammar_apply 63 = .ok (.aload_n 0, 1) := by decide +kernel
theorem dn_Grammar_apply_64 : decode bn_Grammar_apply 64 = .ok (.getfield 18, 3) := by decide +kernel
theorem dn_Grammar_apply_67 : decode bn_Grammar_apply 67 = .ok (.aload_n 0, 1) := by decide +kernel
theorem dn_Grammar_apply_68 : decode bn_Grammar_apply 68 = .ok (.getfield 51, 3) := by decide +kernel
theorem dn_Grammar_apply_71 : decode bn_Grammar_apply 71 = .ok (.iaload, 1) := by decide +kernel
theorem dn_Grammar_apply_72 : decode bn_Grammar_apply 72 = .ok (.invokevirtual 308, 3) := by decide +kernel
theorem dn_Grammar_apply_75 : decode bn_Grammar_apply 75 = .ok (.goto (-75), 3) := by decide +kernel
theorem dn_Grammar_apply_78 : decode bn_Grammar_apply 78 = .ok (.aload_n 0, 1) := by decide +kernel
theorem dn_Grammar_apply_79 : decode bn_Grammar_apply 79 = .ok (.getfield 21, 3) := by decide +kernel
theorem dn_Grammar_apply_82 : decode bn_Grammar_apply 82 = .ok (.aload_n 0, 1) := by decide +kernel
theorem dn_Grammar_apply_83 : decode bn_Grammar_apply 83 = .ok (.getfield 51, 3) := by decide +kernel
theorem dn_Grammar_apply_86 : decode bn_Grammar_apply 86 = .ok (.iaload, 1) := by decide +kernel
theorem dn_Grammar_apply_87 : decode bn_Grammar_apply 87 = .ok (.iconst 1, 1) := by decide +kernel
theorem dn_Grammar_apply_88 : decode bn_Grammar_apply 88 = .ok (.isub, 1) := by decide +kernel
theorem dn_Grammar_apply_89 : decode bn_Grammar_apply 89 = .ok (.istore_n 2, 1) := by decide +kernel
theorem dn_Grammar_apply_90 : decode bn_Grammar_apply 90 = .ok (.iload_n 2, 1) := by decide +kernel
theorem dn_Grammar_apply_91 : decode bn_Grammar_apply 91 = .ok (.ifCond .lt 34, 3) := by decide +kernel
theorem dn_Grammar_apply_94 : decode bn_Grammar_apply 94 = .ok (.aload_n 0, 1) := by decide +kernel
theorem dn_Grammar_apply_95 : decode bn_Grammar_apply 95 = .ok (.getfield 28, 3) := by decide +kernel
theorem dn_Grammar_apply_98 : decode bn_Grammar_apply 98 = .ok (.aload_n 0, 1) := by decide +kernel
theorem dn_Grammar_apply_99 : decode bn_Grammar_apply 99 = .ok (.getfield 24, 3) := by decide +kernel
theorem dn_Grammar_apply_102 : decode bn_Grammar_apply 102 = .ok (.aload_n 0, 1) := by decide +kernel
theorem dn_Grammar_apply_103 : decode bn_Grammar_apply 103 = .ok (.getfield 18, 3) := by decide +kernel
theorem dn_Grammar_apply_106 : decode bn_Grammar_apply 106 = .ok (.aload_n 0, 1) := by decide +kernel
theorem dn_Grammar_apply_107 : decode bn_Grammar_apply 107 = .ok (.getfield 51, 3) := by decide +kernel
theorem dn_Grammar_apply_110 : decode bn_Grammar_apply 110 = .ok (.iaload, 1) := by decide +kernel
theorem dn_Grammar_apply_111 : decode bn_Grammar_apply 111 = .ok (.iload_n 2, 1) := by decide +kernel
theorem dn_Grammar_apply_112 : decode bn_Grammar_apply 112 = .ok (.iadd, 1) := by decide +kernel
theorem dn_Grammar_apply_113 : decode bn_Grammar_apply 113 = .ok (.invokevirtual 186, 3) := by decide +kernel
theorem dn_Grammar_apply_116 : decode bn_Grammar_apply 116 = .ok (.invokevirtual 311, 3) := by decide +kernel
theorem dn_Grammar_apply_119 : decode bn_Grammar_apply 119 = .ok (.iinc 2 (-1), 3) := by decide +kernel
theorem dn_Grammar_apply_122 : decode bn_Grammar_apply 122 = .ok (.goto (-32), 3) := by decide +kernel
theorem dn_Grammar_apply_125 : decode bn_Grammar_apply 125 = .ok (.goto (-125), 3) := by decide +kernel
theorem dn_Grammar_apply_128 : decode bn_Grammar_apply 128 = .ok (.return_, 1) := by decide +kernel
theorem dn_Grammar_arm_0 : decode bn_Grammar_arm 0 = .ok (.aload_n 0, 1) := by decide +kernel
theorem dn_Grammar_arm_1 : decode bn_Grammar_arm 1 = .ok (.getfield 24, 3) := by decide +kernel
theorem dn_Grammar_arm_4 : decode bn_Grammar_arm 4 = .ok (.getfield 70, 3) := by decide +kernel
theorem dn_Grammar_arm_7 : decode bn_Grammar_arm 7 = .ok (.iconst 4, 1) := by decide +kernel
theorem dn_Grammar_arm_8 : decode bn_Grammar_arm 8 = .ok (.if_icmp .ne 139, 3) := by decide +kernel
theorem dn_Grammar_arm_11 : decode bn_Grammar_arm 11 = .ok (.aload_n 0, 1) := by decide +kernel
theorem dn_Grammar_arm_12 : decode bn_Grammar_arm 12 = .ok (.getfield 32, 3) := by decide +kernel
theorem dn_Grammar_arm_15 : decode bn_Grammar_arm 15 = .ok (.aload_n 0, 1) := by decide +kernel
theorem dn_Grammar_arm_16 : decode bn_Grammar_arm 16 = .ok (.getfield 24, 3) := by decide +kernel
theorem dn_Grammar_arm_19 : decode bn_Grammar_arm 19 = .ok (.getfield 102, 3) := by decide +kernel
theorem dn_Grammar_arm_22 : decode bn_Grammar_arm 22 = .ok (.aload_n 0, 1) := by decide +kernel
theorem dn_Grammar_arm_23 : decode bn_Grammar_arm 23 = .ok (.getfield 24, 3) := by decide +kernel
theorem dn_Grammar_arm_26 : decode bn_Grammar_arm 26 = .ok (.getfield 105, 3) := by decide +kernel
theorem dn_Grammar_arm_29 : decode bn_Grammar_arm 29 = .ok (.invokevirtual 242, 3) := by decide +kernel
theorem dn_Grammar_arm_32 : decode bn_Grammar_arm 32 = .ok (.aload_n 0, 1) := by decide +kernel
theorem dn_Grammar_arm_33 : decode bn_Grammar_arm 33 = .ok (.getfield 24, 3) := by decide +kernel
theorem dn_Grammar_arm_36 : decode bn_Grammar_arm 36 = .ok (.invokevirtual 112, 3) := by decide +kernel
theorem dn_Grammar_arm_39 : decode bn_Grammar_arm 39 = .ok (.iconst 0, 1) := by decide +kernel
theorem dn_Grammar_arm_40 : decode bn_Grammar_arm 40 = .ok (.istore_n 1, 1) := by decide +kernel
theorem dn_Grammar_arm_41 : decode bn_Grammar_arm 41 = .ok (.iload_n 1, 1) := by decide +kernel
theorem dn_Grammar_arm_42 : decode bn_Grammar_arm 42 = .ok (.aload_n 0, 1) := by decide +kernel
theorem dn_Grammar_arm_43 : decode bn_Grammar_arm 43 = .ok (.getfield 24, 3) := by decide +kernel
theorem dn_Grammar_arm_46 : decode bn_Grammar_arm 46 = .ok (.getfield 61, 3) := by decide +kernel
theorem dn_Grammar_arm_49 : decode bn_Grammar_arm 49 = .ok (.if_icmp .ge 67, 3) := by decide +kernel
theorem dn_Grammar_arm_52 : decode bn_Grammar_arm 52 = .ok (.aload_n 0, 1) := by decide +kernel
theorem dn_Grammar_arm_53 : decode bn_Grammar_arm 53 = .ok (.getfield 24, 3) := by decide +kernel
theorem dn_Grammar_arm_56 : decode bn_Grammar_arm 56 = .ok (.getfield 70, 3) := by decide +kernel
theorem dn_Grammar_arm_59 : decode bn_Grammar_arm 59 = .ok (.bipush 44, 2) := by decide +kernel
theorem dn_Grammar_arm_61 : decode bn_Grammar_arm 61 = .ok (.if_icmp .ne 55, 3) := by decide +kernel
theorem dn_Grammar_arm_64 : decode bn_Grammar_arm 64 = .ok (.aload_n 0, 1) := by decide +kernel
theorem dn_Grammar_arm_65 : decode bn_Grammar_arm 65 = .ok (.getfield 24, 3) := by decide +kernel
theorem dn_Grammar_arm_68 : decode bn_Grammar_arm 68 = .ok (.invokevirtual 112, 3) := by decide +kernel
theorem dn_Grammar_arm_71 : decode bn_Grammar_arm 71 = .ok (.aload_n 0, 1) := by decide +kernel
theorem dn_Grammar_arm_72 : decode bn_Grammar_arm 72 = .ok (.getfield 24, 3) := by decide +kernel
theorem dn_Grammar_arm_75 : decode bn_Grammar_arm 75 = .ok (.iconst 4, 1) := by decide +kernel
theorem dn_Grammar_arm_76 : decode bn_Grammar_arm 76 = .ok (.invokevirtual 98, 3) := by decide +kernel
theorem dn_Grammar_arm_79 : decode bn_Grammar_arm 79 = .ok (.ifCond .eq 24, 3) := by decide +kernel
theorem dn_Grammar_arm_82 : decode bn_Grammar_arm 82 = .ok (.aload_n 0, 1) := by decide +kernel
theorem dn_Grammar_arm_83 : decode bn_Grammar_arm 83 = .ok (.getfield 32, 3) := by decide +kernel
theorem dn_Grammar_arm_86 : decode bn_Grammar_arm 86 = .ok (.aload_n 0, 1) := by decide +kernel
theorem dn_Grammar_arm_87 : decode bn_Grammar_arm 87 = .ok (.getfield 24, 3) := by decide +kernel
theorem dn_Grammar_arm_90 : decode bn_Grammar_arm 90 = .ok (.getfield 102, 3) := by decide +kernel
theorem dn_Grammar_arm_93 : decode bn_Grammar_arm 93 = .ok (.aload_n 0, 1) := by decide +kernel
theorem dn_Grammar_arm_94 : decode bn_Grammar_arm 94 = .ok (.getfield 24, 3) := by decide +kernel
theorem dn_Grammar_arm_97 : decode bn_Grammar_arm 97 = .ok (.getfield 105, 3) := by decide +kernel
theorem dn_Grammar_arm_100 : decode bn_Grammar_arm 100 = .ok (.invokevirtual 242, 3) := by decide +kernel
theorem dn_Grammar_arm_103 : decode bn_Grammar_arm 103 = .ok (.aload_n 0, 1) := by decide +kernel
theorem dn_Grammar_arm_104 : decode bn_Grammar_arm 104 = .ok (.getfield 24, 3) := by decide +kernel
theorem dn_Grammar_arm_107 : decode bn_Grammar_arm 107 = .ok (.invokevirtual 112, 3) := by decide +kernel
theorem dn_Grammar_arm_110 : decode bn_Grammar_arm 110 = .ok (.iinc 1 1, 3) := by decide +kernel
theorem dn_Grammar_arm_113 : decode bn_Grammar_arm 113 = .ok (.goto (-72), 3) := by decide +kernel
theorem dn_Grammar_arm_116 : decode bn_Grammar_arm 116 = .ok (.aload_n 0, 1) := by decide +kernel
theorem dn_Grammar_arm_117 : decode bn_Grammar_arm 117 = .ok (.getfield 24, 3) := by decide +kernel
theorem dn_Grammar_arm_120 : decode bn_Grammar_arm 120 = .ok (.bipush 58, 2) := by decide +kernel
theorem dn_Grammar_arm_122 : decode bn_Grammar_arm 122 = .ok (.invokevirtual 94, 3) := by decide +kernel
theorem dn_Grammar_arm_125 : decode bn_Grammar_arm 125 = .ok (.aload_n 0, 1) := by decide +kernel
theorem dn_Grammar_arm_126 : decode bn_Grammar_arm 126 = .ok (.getfield 32, 3) := by decide +kernel
theorem dn_Grammar_arm_129 : decode bn_Grammar_arm 129 = .ok (.invokevirtual 245, 3) := by decide +kernel
theorem dn_Grammar_arm_132 : decode bn_Grammar_arm 132 = .ok (.aload_n 0, 1) := by decide +kernel
theorem dn_Grammar_arm_133 : decode bn_Grammar_arm 133 = .ok (.sipush 201, 3) := by decide +kernel
theorem dn_Grammar_arm_136 : decode bn_Grammar_arm 136 = .ok (.invokevirtual 216, 3) := by decide +kernel
theorem dn_Grammar_arm_139 : decode bn_Grammar_arm 139 = .ok (.aload_n 0, 1) := by decide +kernel
theorem dn_Grammar_arm_140 : decode bn_Grammar_arm 140 = .ok (.iconst 4, 1) := by decide +kernel
theorem dn_Grammar_arm_141 : decode bn_Grammar_arm 141 = .ok (.putfield 58, 3) := by decide +kernel
theorem dn_Grammar_arm_144 : decode bn_Grammar_arm 144 = .ok (.goto 51, 3) := by decide +kernel
theorem dn_Grammar_arm_147 : decode bn_Grammar_arm 147 = .ok (.aload_n 0, 1) := by decide +kernel
theorem dn_Grammar_arm_148 : decode bn_Grammar_arm 148 = .ok (.getfield 24, 3) := by decide +kernel
theorem dn_Grammar_arm_151 : decode bn_Grammar_arm 151 = .ok (.getfield 70, 3) := by decide +kernel
theorem dn_Grammar_arm_154 : decode bn_Grammar_arm 154 = .ok (.sipush 144, 3) := by decide +kernel
theorem dn_Grammar_arm_157 : decode bn_Grammar_arm 157 = .ok (.if_icmp .ne 34, 3) := by decide +kernel
theorem dn_Grammar_arm_160 : decode bn_Grammar_arm 160 = .ok (.aload_n 0, 1) := by decide +kernel
theorem dn_Grammar_arm_161 : decode bn_Grammar_arm 161 = .ok (.getfield 24, 3) := by decide +kernel
theorem dn_Grammar_arm_164 : decode bn_Grammar_arm 164 = .ok (.invokevirtual 112, 3) := by decide +kernel
theorem dn_Grammar_arm_167 : decode bn_Grammar_arm 167 = .ok (.aload_n 0, 1) := by decide +kernel
theorem dn_Grammar_arm_168 : decode bn_Grammar_arm 168 = .ok (.getfield 24, 3) := by decide +kernel
theorem dn_Grammar_arm_171 : decode bn_Grammar_arm 171 = .ok (.bipush 58, 2) := by decide +kernel
theorem dn_Grammar_arm_173 : decode bn_Grammar_arm 173 = .ok (.invokevirtual 94, 3) := by decide +kernel
theorem dn_Grammar_arm_176 : decode bn_Grammar_arm 176 = .ok (.aload_n 0, 1) := by decide +kernel
theorem dn_Grammar_arm_177 : decode bn_Grammar_arm 177 = .ok (.sipush 144, 3) := by decide +kernel
theorem dn_Grammar_arm_180 : decode bn_Grammar_arm 180 = .ok (.invokevirtual 216, 3) := by decide +kernel
theorem dn_Grammar_arm_183 : decode bn_Grammar_arm 183 = .ok (.aload_n 0, 1) := by decide +kernel
theorem dn_Grammar_arm_184 : decode bn_Grammar_arm 184 = .ok (.iconst 4, 1) := by decide +kernel
theorem dn_Grammar_arm_185 : decode bn_Grammar_arm 185 = .ok (.putfield 58, 3) := by decide +kernel
theorem dn_Grammar_arm_188 : decode bn_Grammar_arm 188 = .ok (.goto 7, 3) := by decide +kernel
theorem dn_Grammar_arm_191 : decode bn_Grammar_arm 191 = .ok (.aload_n 0, 1) := by decide +kernel
theorem dn_Grammar_arm_192 : decode bn_Grammar_arm 192 = .ok (.invokevirtual 234, 3) := by decide +kernel
theorem dn_Grammar_arm_195 : decode bn_Grammar_arm 195 = .ok (.return_, 1) := by decide +kernel
theorem dn_Grammar_assignment_0 : decode bn_Grammar_assignment 0 = .ok (.aload_n 0, 1) := by decide +kernel
theorem dn_Grammar_assignment_1 : decode bn_Grammar_assignment 1 = .ok (.getfield 24, 3) := by decide +kernel
theorem dn_Grammar_assignment_4 : decode bn_Grammar_assignment 4 = .ok (.invokevirtual 112, 3) := by decide +kernel
theorem dn_Grammar_assignment_7 : decode bn_Grammar_assignment 7 = .ok (.aload_n 0, 1) := by decide +kernel
theorem dn_Grammar_assignment_8 : decode bn_Grammar_assignment 8 = .ok (.getfield 24, 3) := by decide +kernel
theorem dn_Grammar_assignment_11 : decode bn_Grammar_assignment 11 = .ok (.iconst 2, 1) := by decide +kernel
theorem dn_Grammar_assignment_12 : decode bn_Grammar_assignment 12 = .ok (.invokevirtual 98, 3) := by decide +kernel
theorem dn_Grammar_assignment_15 : decode bn_Grammar_assignment 15 = .ok (.ifCond .eq 24, 3) := by decide +kernel
theorem dn_Grammar_assignment_18 : decode bn_Grammar_assignment 18 = .ok (.aload_n 0, 1) := by decide +kernel
theorem dn_Grammar_assignment_19 : decode bn_Grammar_assignment 19 = .ok (.getfield 32, 3) := by decide +kernel
theorem dn_Grammar_assignment_22 : decode bn_Grammar_assignment 22 = .ok (.aload_n 0, 1) := by decide +kernel
theorem dn_Grammar_assignment_23 : decode bn_Grammar_assignment 23 = .ok (.getfield 24, 3) := by decide +kernel
theorem dn_Grammar_assignment_26 : decode bn_Grammar_assignment 26 = .ok (.getfield 102, 3) := by decide +kernel
theorem dn_Grammar_assignment_29 : decode bn_Grammar_assignment 29 = .ok (.aload_n 0, 1) := by decide +kernel
theorem dn_Grammar_assignment_30 : decode bn_Grammar_assignment 30 = .ok (.getfield 24, 3) := by decide +kernel
theorem dn_Grammar_assignment_33 : decode bn_Grammar_assignment 33 = .ok (.getfield 105, 3) := by decide +kernel
theorem dn_Grammar_assignment_36 : decode bn_Grammar_assignment 36 = .ok (.invokevirtual 158, 3) := by decide +kernel
theorem dn_Grammar_assignment_39 : decode bn_Grammar_assignment 39 = .ok (.aload_n 0, 1) := by decide +kernel
theorem dn_Grammar_assignment_40 : decode bn_Grammar_assignment 40 = .ok (.getfield 24, 3) := by decide +kernel
theorem dn_Grammar_assignment_43 : decode bn_Grammar_assignment 43 = .ok (.invokevirtual 112, 3) := by decide +kernel
theorem dn_Grammar_assignment_46 : decode bn_Grammar_assignment 46 = .ok (.aload_n 0, 1) := by decide +kernel
theorem dn_Grammar_assignment_47 : decode bn_Grammar_assignment 47 = .ok (.aload_n 0, 1) := by decide +kernel
theorem dn_Grammar_assignment_48 : decode bn_Grammar_assignment 48 = .ok (.getfield 24, 3) := by decide +kernel
theorem dn_Grammar_assignment_51 : decode bn_Grammar_assignment 51 = .ok (.getfield 105, 3) := by decide +kernel
theorem dn_Grammar_assignment_54 : decode bn_Grammar_assignment 54 = .ok (.putfield 161, 3) := by decide +kernel
theorem dn_Grammar_assignment_57 : decode bn_Grammar_assignment 57 = .ok (.aload_n 0, 1) := by decide +kernel
theorem dn_Grammar_assignment_58 : decode bn_Grammar_assignment 58 = .ok (.getfield 24, 3) := by decide +kernel
theorem dn_Grammar_assignment_61 : decode bn_Grammar_assignment 61 = .ok (.bipush 61, 2) := by decide +kernel
theorem dn_Grammar_assignment_63 : decode bn_Grammar_assignment 63 = .ok (.invokevirtual 94, 3) := by decide +kernel
theorem dn_Grammar_assignment_66 : decode bn_Grammar_assignment 66 = .ok (.aload_n 0, 1) := by decide +kernel
theorem dn_Grammar_assignment_67 : decode bn_Grammar_assignment 67 = .ok (.sipush 134, 3) := by decide +kernel
theorem dn_Grammar_assignment_70 : decode bn_Grammar_assignment 70 = .ok (.invokevirtual 146, 3) := by decide +kernel
theorem dn_Grammar_assignment_73 : decode bn_Grammar_assignment 73 = .ok (.return_, 1) := by decide +kernel
theorem dn_Grammar_behindExp_0 : decode bn_Grammar_behindExp 0 = .ok (.aload_n 0, 1) := by decide +kernel
theorem dn_Grammar_behindExp_1 : decode bn_Grammar_behindExp 1 = .ok (.getfield 249, 3) := by decide +kernel
theorem dn_Grammar_behindExp_4 : decode bn_Grammar_behindExp 4 = .ok (.lookupswitch 203 #[(9, 80), (134, 52), (140, 108), (142, 139), (145, 170)], 52) := by decide +kernel
theorem dn_Grammar_behindExp_56 : decode bn_Grammar_behindExp 56 = .ok (.aload_n 0, 1) := by decide +kernel
theorem dn_Grammar_behindExp_57 : decode bn_Grammar_behindExp 57 = .ok (.getfield 32, 3) := by decide +kernel
theorem dn_Grammar_behindExp_60 : decode bn_Grammar_behindExp 60 = .ok (.aload_n 0, 1) := by decide +kernel
theorem dn_Grammar_behindExp_61 : decode bn_Grammar_behindExp 61 = .ok (.getfield 161, 3) := by decide +kernel
theorem dn_Grammar_behindExp_64 : decode bn_Grammar_behindExp 64 = .ok (.invokevirtual 255, 3) := by decide +kernel
theorem dn_Grammar_behindExp_67 : decode bn_Grammar_behindExp 67 = .ok (.aload_n 0, 1) := by decide +kernel
theorem dn_Grammar_behindExp_68 : decode bn_Grammar_behindExp 68 = .ok (.getfield 24, 3) := by decide +kernel
theorem dn_Grammar_behindExp_71 : decode bn_Grammar_behindExp 71 = .ok (.bipush 59, 2) := by decide +kernel
theorem dn_Grammar_behindExp_73 : decode bn_Grammar_behindExp 73 = .ok (.invokevirtual 94, 3) := by decide +kernel
theorem dn_Grammar_behindExp_76 : decode bn_Grammar_behindExp 76 = .ok (.aload_n 0, 1) := by decide +kernel
theorem dn_Grammar_behindExp_77 : decode bn_Grammar_behindExp 77 = .ok (.iconst 2, 1) := by decide +kernel
theorem dn_Grammar_behindExp_78 : decode bn_Grammar_behindExp 78 = .ok (.putfield 58, 3) := by decide +kernel
theorem dn_Grammar_behindExp_81 : decode bn_Grammar_behindExp 81 = .ok (.goto 130, 3) := by decide +kernel
theorem dn_Grammar_behindExp_84 : decode bn_Grammar_behindExp 84 = .ok (.aload_n 0, 1) := by decide +kernel
theorem dn_Grammar_behindExp_85 : decode bn_Grammar_behindExp 85 = .ok (.getfield 32, 3) := by decide +kernel
theorem dn_Grammar_behindExp_88 : decode bn_Grammar_behindExp 88 = .ok (.aload_n 0, 1) := by decide +kernel
theorem dn_Grammar_behindExp_89 : decode bn_Grammar_behindExp 89 = .ok (.getfield 161, 3) := by decide +kernel
theorem dn_Grammar_behindExp_92 : decode bn_Grammar_behindExp 92 = .ok (.invokevirtual 258, 3) := by decide +kernel
theorem dn_Grammar_behindExp_95 : decode bn_Grammar_behindExp 95 = .ok (.aload_n 0, 1) := by decide +kernel
theorem dn_Grammar_behindExp_96 : decode bn_Grammar_behindExp 96 = .ok (.getfield 24, 3) := by decide +kernel
theorem dn_Grammar_behindExp_99 : decode bn_Grammar_behindExp 99 = .ok (.bipush 59, 2) := by decide +kernel
theorem dn_Grammar_behindExp_101 : decode bn_Grammar_behindExp 101 = .ok (.invokevirtual 94, 3) := by decide +kernel
theorem dn_Grammar_behindExp_104 : decode bn_Grammar_behindExp 104 = .ok (.aload_n 0, 1) := by decide +kernel
theorem dn_Grammar_behindExp_105 : decode bn_Grammar_behindExp 105 = .ok (.iconst 5, 1) := by decide +kernel
theorem dn_Grammar_behindExp_106 : decode bn_Grammar_behindExp 106 = .ok (.putfield 58, 3) := by decide +kernel
theorem dn_Grammar_behindExp_109 : decode bn_Grammar_behindExp 109 = .ok (.goto 102, 3) := by decide +kernel
theorem dn_Grammar_behindExp_112 : decode bn_Grammar_behindExp 112 = .ok (.aload_n 0, 1) := by decide +kernel
theorem dn_Grammar_behindExp_113 : decode bn_Grammar_behindExp 113 = .ok (.getfield 24, 3) := by decide +kernel
theorem dn_Grammar_behindExp_116 : decode bn_Grammar_behindExp 116 = .ok (.bipush 41, 2) := by decide +kernel
theorem dn_Grammar_behindExp_118 : decode bn_Grammar_behindExp 118 = .ok (.invokevirtual 121, 3) := by decide +kernel
theorem dn_Grammar_behindExp_121 : decode bn_Grammar_behindExp 121 = .ok (.aload_n 0, 1) := by decide +kernel
theorem dn_Grammar_behindExp_122 : decode bn_Grammar_behindExp 122 = .ok (.getfield 32, 3) := by decide +kernel
theorem dn_Grammar_behindExp_125 : decode bn_Grammar_behindExp 125 = .ok (.invokevirtual 261, 3) := by decide +kernel
theorem dn_Grammar_behindExp_128 : decode bn_Grammar_behindExp 128 = .ok (.aload_n 0, 1) := by decide +kernel
theorem dn_Grammar_behindExp_129 : decode bn_Grammar_behindExp 129 = .ok (.sipush 140, 3) := by decide +kernel
theorem dn_Grammar_behindExp_132 : decode bn_Grammar_behindExp 132 = .ok (.invokevirtual 199, 3) := by decide +kernel
theorem dn_Grammar_behindExp_135 : decode bn_Grammar_behindExp 135 = .ok (.aload_n 0, 1) := by decide +kernel
theorem dn_Grammar_behindExp_136 : decode bn_Grammar_behindExp 136 = .ok (.iconst 4, 1) := by decide +kernel
theorem dn_Grammar_behindExp_137 : decode bn_Grammar_behindExp 137 = .ok (.putfield 58, 3) := by decide +kernel
theorem dn_Grammar_behindExp_140 : decode bn_Grammar_behindExp 140 = .ok (.goto 71, 3) := by decide +kernel
theorem dn_Grammar_behindExp_143 : decode bn_Grammar_behindExp 143 = .ok (.aload_n 0, 1) := by decide +kernel
theorem dn_Grammar_behindExp_144 : decode bn_Grammar_behindExp 144 = .ok (.getfield 24, 3) := by decide +kernel
theorem dn_Grammar_behindExp_147 : decode bn_Grammar_behindExp 147 = .ok (.bipush 41, 2) := by decide +kernel
theorem dn_Grammar_behindExp_149 : decode bn_Grammar_behindExp 149 = .ok (.invokevirtual 121, 3) := by decide +kernel
theorem dn_Grammar_behindExp_152 : decode bn_Grammar_behindExp 152 = .ok (.aload_n 0, 1) := by decide +kernel
theorem dn_Grammar_behindExp_153 : decode bn_Grammar_behindExp 153 = .ok (.getfield 32, 3) := by decide +kernel
theorem dn_Grammar_behindExp_156 : decode bn_Grammar_behindExp 156 = .ok (.invokevirtual 264, 3) := by decide +kernel
theorem dn_Grammar_behindExp_159 : decode bn_Grammar_behindExp 159 = .ok (.aload_n 0, 1) := by decide +kernel
theorem dn_Grammar_behindExp_160 : decode bn_Grammar_behindExp 160 = .ok (.sipush 142, 3) := by decide +kernel
theorem dn_Grammar_behindExp_163 : decode bn_Grammar_behindExp 163 = .ok (.invokevirtual 199, 3) := by decide +kernel
theorem dn_Grammar_behindExp_166 : decode bn_Grammar_behindExp 166 = .ok (.aload_n 0, 1) := by decide +kernel
theorem dn_Grammar_behindExp_167 : decode bn_Grammar_behindExp 167 = .ok (.iconst 5, 1) := by decide +kernel
theorem dn_Grammar_behindExp_168 : decode bn_Grammar_behindExp 168 = .ok (.putfield 58, 3) := by decide +kernel
theorem dn_Grammar_behindExp_171 : decode bn_Grammar_behindExp 171 = .ok (.goto 40, 3) := by decide +kernel
theorem dn_Grammar_behindExp_174 : decode bn_Grammar_behindExp 174 = .ok (.aload_n 0, 1) := by decide +kernel
theorem dn_Grammar_behindExp_175 : decode bn_Grammar_behindExp 175 = .ok (.getfield 24, 3) := by decide +kernel
theorem dn_Grammar_behindExp_178 : decode bn_Grammar_behindExp 178 = .ok (.bipush 41, 2) := by decide +kernel
theorem dn_Grammar_behindExp_180 : decode bn_Grammar_behindExp 180 = .ok (.invokevirtual 121, 3) := by decide +kernel
theorem dn_Grammar_behindExp_183 : decode bn_Grammar_behindExp 183 = .ok (.aload_n 0, 1) := by decide +kernel
theorem dn_Grammar_behindExp_184 : decode bn_Grammar_behindExp 184 = .ok (.getfield 24, 3) := by decide +kernel
theorem dn_Grammar_behindExp_187 : decode bn_Grammar_behindExp 187 = .ok (.bipush 59, 2) := by decide +kernel
theorem dn_Grammar_behindExp_189 : decode bn_Grammar_behindExp 189 = .ok (.invokevirtual 94, 3) := by decide +kernel
theorem dn_Grammar_behindExp_192 : decode bn_Grammar_behindExp 192 = .ok (.aload_n 0, 1) := by decide +kernel
theorem dn_Grammar_behindExp_193 : decode bn_Grammar_behindExp 193 = .ok (.getfield 32, 3) := by decide +kernel
theorem dn_Grammar_behindExp_196 : decode bn_Grammar_behindExp 196 = .ok (.invokevirtual 267, 3) := by decide +kernel
theorem dn_Grammar_behindExp_199 : decode bn_Grammar_behindExp 199 = .ok (.aload_n 0, 1) := by decide +kernel
theorem dn_Grammar_behindExp_200 : decode bn_Grammar_behindExp 200 = .ok (.iconst 2, 1) := by decide +kernel
theorem dn_Grammar_behindExp_201 : decode bn_Grammar_behindExp 201 = .ok (.putfield 58, 3) := by decide +kernel
theorem dn_Grammar_behindExp_204 : decode bn_Grammar_behindExp 204 = .ok (.goto 7, 3) := by decide +kernel
theorem dn_Grammar_behindExp_207 : decode bn_Grammar_behindExp 207 = .ok (.aload_n 0, 1) := by decide +kernel
theorem dn_Grammar_behindExp_208 : decode bn_Grammar_behindExp 208 = .ok (.invokevirtual 270, 3) := by decide +kernel
theorem dn_Grammar_behindExp_211 : decode bn_Grammar_behindExp 211 = .ok (.return_, 1) := by decide +kernel
theorem dn_Grammar_behindOperand_0 : decode bn_Grammar_behindOperand 0 = .ok (.aload_n 0, 1) := by decide +kernel
theorem dn_Grammar_behindOperand_1 : decode bn_Grammar_behindOperand 1 = .ok (.getfield 24, 3) := by decide +kernel
theorem dn_Grammar_behindOperand_4 : decode bn_Grammar_behindOperand 4 = .ok (.getfield 70, 3) := by decide +kernel
theorem dn_Grammar_behindOperand_7 : decode bn_Grammar_behindOperand 7 = .ok (.invokestatic 296, 3) := by decide +kernel
theorem dn_Grammar_behindOperand_10 : decode bn_Grammar_behindOperand 10 = .ok (.istore_n 1, 1) := by decide +kernel
theorem dn_Grammar_behindOperand_11 : decode bn_Grammar_behindOperand 11 = .ok (.iload_n 1, 1) := by decide +kernel
theorem dn_Grammar_behindOperand_12 : decode bn_Grammar_behindOperand 12 = .ok (.ifCond .le 41, 3) := by decide +kernel
theorem dn_Grammar_behindOperand_15 : decode bn_Grammar_behindOperand 15 = .ok (.aload_n 0, 1) := by decide +kernel
theorem dn_Grammar_behindOperand_16 : decode bn_Grammar_behindOperand 16 = .ok (.iload_n 1, 1) := by decide +kernel
theorem dn_Grammar_behindOperand_17 : decode bn_Grammar_behindOperand 17 = .ok (.invokevirtual 299, 3) := by decide +kernel
theorem dn_Grammar_behindOperand_20 : decode bn_Grammar_behindOperand 20 = .ok (.aload_n 0, 1) := by decide +kernel
theorem dn_Grammar_behindOperand_21 : decode bn_Grammar_behindOperand 21 = .ok (.aload_n 0, 1) := by decide +kernel
theorem dn_Grammar_behindOperand_22 : decode bn_Grammar_behindOperand 22 = .ok (.getfield 24, 3) := by decide +kernel
theorem dn_Grammar_behindOperand_25 : decode bn_Grammar_behindOperand 25 = .ok (.getfield 70, 3) := by decide +kernel
theorem dn_Grammar_behindOperand_28 : decode bn_Grammar_behindOperand 28 = .ok (.aload_n 0, 1) := by decide +kernel
theorem dn_Grammar_behindOperand_29 : decode bn_Grammar_behindOperand 29 = .ok (.getfield 24, 3) := by decide +kernel
theorem dn_Grammar_behindOperand_32 : decode bn_Grammar_behindOperand 32 = .ok (.getfield 105, 3) := by decide +kernel
theorem dn_Grammar_behindOperand_35 : decode bn_Grammar_behindOperand 35 = .ok (.iconst 0, 1) := by decide +kernel
theorem dn_Grammar_behindOperand_36 : decode bn_Grammar_behindOperand 36 = .ok (.invokevirtual 276, 3) := by decide +kernel
theorem dn_Grammar_behindOperand_39 : decode bn_Grammar_behindOperand 39 = .ok (.aload_n 0, 1) := by decide +kernel
theorem dn_Grammar_behindOperand_40 : decode bn_Grammar_behindOperand 40 = .ok (.getfield 24, 3) := by decide +kernel
theorem dn_Grammar_behindOperand_43 : decode bn_Grammar_behindOperand 43 = .ok (.invokevirtual 112, 3) := by decide +kernel
theorem dn_Grammar_behindOperand_46 : decode bn_Grammar_behindOperand 46 = .ok (.aload_n 0, 1) := by decide +kernel
theorem dn_Grammar_behindOperand_47 : decode bn_Grammar_behindOperand 47 = .ok (.bipush 6, 2) := by decide +kernel
theorem dn_Grammar_behindOperand_49 : decode bn_Grammar_behindOperand 49 = .ok (.putfield 58, 3) := by decide +kernel
theorem dn_Grammar_behindOperand_52 : decode bn_Grammar_behindOperand 52 = .ok (.return_, 1) := by decide +kernel
theorem dn_Grammar_behindOperand_53 : decode bn_Grammar_behindOperand 53 = .ok (.aload_n 0, 1) := by decide +kernel
theorem dn_Grammar_behindOperand_54 : decode bn_Grammar_behindOperand 54 = .ok (.iconst 1, 1) := by decide +kernel
theorem dn_Grammar_behindOperand_55 : decode bn_Grammar_behindOperand 55 = .ok (.invokevirtual 299, 3) := by decide +kernel
theorem dn_Grammar_behindOperand_58 : decode bn_Grammar_behindOperand 58 = .ok (.aload_n 0, 1) := by decide +kernel
theorem dn_Grammar_behindOperand_59 : decode bn_Grammar_behindOperand 59 = .ok (.getfield 24, 3) := by decide +kernel
theorem dn_Grammar_behindOperand_62 : decode bn_Grammar_behindOperand 62 = .ok (.getfield 70, 3) := by decide +kernel
theorem dn_Grammar_behindOperand_65 : decode bn_Grammar_behindOperand 65 = .ok (.bipush 63, 2) := by decide +kernel
theorem dn_Grammar_behindOperand_67 : decode bn_Grammar_behindOperand 67 = .ok (.if_icmp .ne 33, 3) := by decide +kernel
theorem dn_Grammar_behindOperand_70 : decode bn_Grammar_behindOperand 70 = .ok (.aload_n 0, 1) := by decide +kernel
theorem dn_Grammar_behindOperand_71 : decode bn_Grammar_behindOperand 71 = .ok (.bipush 63, 2) := by decide +kernel
theorem dn_Grammar_behindOperand_73 : decode bn_Grammar_behindOperand 73 = .ok (.aload_n 0, 1) := by decide +kernel
theorem dn_Grammar_behindOperand_74 : decode bn_Grammar_behindOperand 74 = .ok (.getfield 24, 3) := by decide +kernel
theorem dn_Grammar_behindOperand_77 : decode bn_Grammar_behindOperand 77 = .ok (.getfield 105, 3) := by decide +kernel
theorem dn_Grammar_behindOperand_80 : decode bn_Grammar_behindOperand 80 = .ok (.iconst 0, 1) := by decide +kernel
theorem dn_Grammar_behindOperand_81 : decode bn_Grammar_behindOperand 81 = .ok (.invokevirtual 276, 3) := by decide +kernel
theorem dn_Grammar_behindOperand_84 : decode bn_Grammar_behindOperand 84 = .ok (.aload_n 0, 1) := by decide +kernel
theorem dn_Grammar_behindOperand_85 : decode bn_Grammar_behindOperand 85 = .ok (.getfield 24, 3) := by decide +kernel
theorem dn_Grammar_behindOperand_88 : decode bn_Grammar_behindOperand 88 = .ok (.bipush 63, 2) := by decide +kernel
theorem dn_Grammar_behindOperand_90 : decode bn_Grammar_behindOperand 90 = .ok (.invokevirtual 115, 3) := by decide +kernel
theorem dn_Grammar_behindOperand_93 : decode bn_Grammar_behindOperand 93 = .ok (.aload_n 0, 1) := by decide +kernel
theorem dn_Grammar_behindOperand_94 : decode bn_Grammar_behindOperand 94 = .ok (.bipush 6, 2) := by decide +kernel
theorem dn_Grammar_behindOperand_96 : decode bn_Grammar_behindOperand 96 = .ok (.putfield 58, 3) := by decide +kernel
theorem dn_Grammar_behindOperand_99 : decode bn_Grammar_behindOperand 99 = .ok (.return_, 1) := by decide +kernel
theorem dn_Grammar_behindOperand_100 : decode bn_Grammar_behindOperand 100 = .ok (.aload_n 0, 1) := by decide +kernel
theorem dn_Grammar_behindOperand_101 : decode bn_Grammar_behindOperand 101 = .ok (.getfield 51, 3) := by decide +kernel
theorem dn_Grammar_behindOperand_104 : decode bn_Grammar_behindOperand 104 = .ok (.ifCond .le 55, 3) := by decide +kernel
theorem dn_Grammar_behindOperand_107 : decode bn_Grammar_behindOperand 107 = .ok (.aload_n 0, 1) := by decide +kernel
theorem dn_Grammar_behindOperand_108 : decode bn_Grammar_behindOperand 108 = .ok (.getfield 15, 3) := by decide +kernel
theorem dn_Grammar_behindOperand_111 : decode bn_Grammar_behindOperand 111 = .ok (.aload_n 0, 1) := by decide +kernel
theorem dn_Grammar_behindOperand_112 : decode bn_Grammar_behindOperand 112 = .ok (.getfield 51, 3) := by decide +kernel
theorem dn_Grammar_behindOperand_115 : decode bn_Grammar_behindOperand 115 = .ok (.iconst 1, 1) := by decide +kernel
theorem dn_Grammar_behindOperand_116 : decode bn_Grammar_behindOperand 116 = .ok (.isub, 1) := by decide +kernel
theorem dn_Grammar_behindOperand_117 : decode bn_Grammar_behindOperand 117 = .ok (.iaload, 1) := by decide +kernel
theorem dn_Grammar_behindOperand_118 : decode bn_Grammar_behindOperand 118 = .ok (.bipush 58, 2) := by decide +kernel
theorem dn_Grammar_behindOperand_120 : decode bn_Grammar_behindOperand 120 = .ok (.if_icmp .ne 39, 3) := by decide +kernel
theorem dn_Grammar_behindOperand_123 : decode bn_Grammar_behindOperand 123 = .ok (.aload_n 0, 1) := by decide +kernel
theorem dn_Grammar_behindOperand_124 : decode bn_Grammar_behindOperand 124 = .ok (.dup, 1) := by decide +kernel
theorem dn_Grammar_behindOperand_125 : decode bn_Grammar_behindOperand 125 = .ok (.getfield 51, 3) := by decide +kernel
theorem dn_Grammar_behindOperand_128 : decode bn_Grammar_behindOperand 128 = .ok (.iconst 1, 1) := by decide +kernel
theorem dn_Grammar_behindOperand_129 : decode bn_Grammar_behindOperand 129 = .ok (.isub, 1) := by decide +kernel
theorem dn_Grammar_behindOperand_130 : decode bn_Grammar_behindOperand 130 = .ok (.putfield 51, 3) := by decide +kernel
theorem dn_Grammar_behindOperand_133 : decode bn_Grammar_behindOperand 133 = .ok (.aload_n 0, 1) := by decide +kernel
theorem dn_Grammar_behindOperand_134 : decode bn_Grammar_behindOperand 134 = .ok (.getfield 24, 3) := by decide +kernel
theorem dn_Grammar_behindOperand_137 : decode bn_Grammar_behindOperand 137 = .ok (.invokevirtual 238, 3) := by decide +kernel
theorem dn_Grammar_behindOperand_140 : decode bn_Grammar_behindOperand 140 = .ok (.aload_n 0, 1) := by decide +kernel
theorem dn_Grammar_behindOperand_141 : decode bn_Grammar_behindOperand 141 = .ok (.getfield 28, 3) := by decide +kernel
theorem dn_Grammar_behindOperand_144 : decode bn_Grammar_behindOperand 144 = .ok (.aload_n 0, 1) := by decide +kernel
theorem dn_Grammar_behindOperand_145 : decode bn_Grammar_behindOperand 145 = .ok (.getfield 18, 3) := by decide +kernel
theorem dn_Grammar_behindOperand_148 : decode bn_Grammar_behindOperand 148 = .ok (.aload_n 0, 1) := by decide +kernel
theorem dn_Grammar_behindOperand_149 : decode bn_Grammar_behindOperand 149 = .ok (.getfield 51, 3) := by decide +kernel
theorem dn_Grammar_behindOperand_152 : decode bn_Grammar_behindOperand 152 = .ok (.iaload, 1) := by decide +kernel
theorem dn_Grammar_behindOperand_153 : decode bn_Grammar_behindOperand 153 = .ok (.invokevirtual 302, 3) := by decide +kernel
theorem dn_Grammar_behindOperand_156 : decode bn_Grammar_behindOperand 156 = .ok (.goto (-56), 3) := by decide +kernel
theorem dn_Grammar_behindOperand_159 : decode bn_Grammar_behindOperand 159 = .ok (.aload_n 0, 1) := by decide +kernel
theorem dn_Grammar_behindOperand_160 : decode bn_Grammar_behindOperand 160 = .ok (.getfield 51, 3) := by decide +kernel
theorem dn_Grammar_behindOperand_163 : decode bn_Grammar_behindOperand 163 = .ok (.ifCond .ne 12, 3) := by decide +kernel
theorem dn_Grammar_behindOperand_166 : decode bn_Grammar_behindOperand 166 = .ok (.aload_n 0, 1) := by decide +kernel
theorem dn_Grammar_behindOperand_167 : decode bn_Grammar_behindOperand 167 = .ok (.bipush 8, 2) := by decide +kernel
theorem dn_Grammar_behindOperand_169 : decode bn_Grammar_behindOperand 169 = .ok (.putfield 58, 3) := by decide +kernel
theorem dn_Grammar_behindOperand_172 : decode bn_Grammar_behindOperand 172 = .ok (.goto 13, 3) := by decide +kernel
theorem dn_Grammar_behindOperand_175 : decode bn_Grammar_behindOperand 175 = .ok (.aload_n 0, 1) := by decide +kernel
theorem dn_Grammar_behindOperand_176 : decode bn_Grammar_behindOperand 176 = .ok (.aload_n 0, 1) := by decide +kernel
theorem dn_Grammar_behindOperand_177 : decode bn_Grammar_behindOperand 177 = .ok (.getfield 51, 3) := by decide +kernel
theorem dn_Grammar_behindOperand_180 : decode bn_Grammar_behindOperand 180 = .ok (.iconst 1, 1) := by decide +kernel
theorem dn_Grammar_behindOperand_181 : decode bn_Grammar_behindOperand 181 = .ok (.isub, 1) := by decide +kernel
theorem dn_Grammar_behindOperand_182 : decode bn_Grammar_behindOperand 182 = .ok (.invokevirtual 305, 3) := by decide +kernel
theorem dn_Grammar_behindOperand_185 : decode bn_Grammar_behindOperand 185 = .ok (.return_, 1) := by decide +kernel
theorem dn_Grammar_behindStatement_0 : decode bn_Grammar_behindStatement 0 = .ok (.aload_n 0, 1) := by decide +kernel
theorem dn_Grammar_behindStatement_1 : decode bn_Grammar_behindStatement 1 = .ok (.getfield 55, 3) := by decide +kernel
theorem dn_Grammar_behindStatement_4 : decode bn_Grammar_behindStatement 4 = .ok (.ifCond .ne 16, 3) := by decide +kernel
theorem dn_Grammar_behindStatement_7 : decode bn_Grammar_behindStatement 7 = .ok (.aload_n 0, 1) := by decide +kernel
theorem dn_Grammar_behindStatement_8 : decode bn_Grammar_behindStatement 8 = .ok (.getfield 32, 3) := by decide +kernel
theorem dn_Grammar_behindStatement_11 : decode bn_Grammar_behindStatement 11 = .ok (.invokevirtual 219, 3) := by decide +kernel
theorem dn_Grammar_behindStatement_14 : decode bn_Grammar_behindStatement 14 = .ok (.aload_n 0, 1) := by decide +kernel
theorem dn_Grammar_behindStatement_15 : decode bn_Grammar_behindStatement 15 = .ok (.iconst 2, 1) := by decide +kernel
theorem dn_Grammar_behindStatement_16 : decode bn_Grammar_behindStatement 16 = .ok (.putfield 58, 3) := by decide +kernel
theorem dn_Grammar_behindStatement_19 : decode bn_Grammar_behindStatement 19 = .ok (.return_, 1) := by decide +kernel
theorem dn_Grammar_behindStatement_20 : decode bn_Grammar_behindStatement 20 = .ok (.aload_n 0, 1) := by decide +kernel
theorem dn_Grammar_behindStatement_21 : decode bn_Grammar_behindStatement 21 = .ok (.getfield 9, 3) := by decide +kernel
theorem dn_Grammar_behindStatement_24 : decode bn_Grammar_behindStatement 24 = .ok (.aload_n 0, 1) := by decide +kernel
theorem dn_Grammar_behindStatement_25 : decode bn_Grammar_behindStatement 25 = .ok (.getfield 55, 3) := by decide +kernel
theorem dn_Grammar_behindStatement_28 : decode bn_Grammar_behindStatement 28 = .ok (.iconst 1, 1) := by decide +kernel
theorem dn_Grammar_behindStatement_29 : decode bn_Grammar_behindStatement 29 = .ok (.isub, 1) := by decide +kernel
theorem dn_Grammar_behindStatement_30 : decode bn_Grammar_behindStatement 30 = .ok (.iaload, 1) := by decide +kernel
theorem dn_Grammar_behindStatement_31 : decode bn_Grammar_behindStatement 31 = .ok (.lookupswitch 151 #[(138, 49), (140, 93), (141, 120), (142, 127), (201, 134)], 49) := by decide +kernel
theorem dn_Grammar_behindStatement_80 : decode bn_Grammar_behindStatement 80 = .ok (.aload_n 0, 1) := by decide +kernel
theorem dn_Grammar_behindStatement_81 : decode bn_Grammar_behindStatement 81 = .ok (.getfield 24, 3) := by decide +kernel
theorem dn_Grammar_behindStatement_84 : decode bn_Grammar_behindStatement 84 = .ok (.getfield 70, 3) := by decide +kernel
theorem dn_Grammar_behindStatement_87 : decode bn_Grammar_behindStatement 87 = .ok (.sipush 139, 3) := by decide +kernel
theorem dn_Grammar_behindStatement_90 : decode bn_Grammar_behindStatement 90 = .ok (.if_icmp .ne 26, 3) := by decide +kernel
theorem dn_Grammar_behindStatement_93 : decode bn_Grammar_behindStatement 93 = .ok (.aload_n 0, 1) := by decide +kernel
theorem dn_Grammar_behindStatement_94 : decode bn_Grammar_behindStatement 94 = .ok (.getfield 24, 3) := by decide +kernel
theorem dn_Grammar_behindStatement_97 : decode bn_Grammar_behindStatement 97 = .ok (.sipush 139, 3) := by decide +kernel
theorem dn_Grammar_behindStatement_100 : decode bn_Grammar_behindStatement 100 = .ok (.invokevirtual 121, 3) := by decide +kernel
theorem dn_Grammar_behindStatement_103 : decode bn_Grammar_behindStatement 103 = .ok (.aload_n 0, 1) := by decide +kernel
theorem dn_Grammar_behindStatement_104 : decode bn_Grammar_behindStatement 104 = .ok (.dup, 1) := by decide +kernel
theorem dn_Grammar_behindStatement_105 : decode bn_Grammar_behindStatement 105 = .ok (.getfield 55, 3) := by decide +kernel
theorem dn_Grammar_behindStatement_108 : decode bn_Grammar_behindStatement 108 = .ok (.iconst 1, 1) := by decide +kernel
theorem dn_Grammar_behindStatement_109 : decode bn_Grammar_behindStatement 109 = .ok (.isub, 1) := by decide +kernel
theorem dn_Grammar_behindStatement_110 : decode bn_Grammar_behindStatement 110 = .ok (.putfield 55, 3) := by decide +kernel
theorem dn_Grammar_behindStatement_113 : decode bn_Grammar_behindStatement 113 = .ok (.goto 73, 3) := by decide +kernel
theorem dn_Grammar_behindStatement_116 : decode bn_Grammar_behindStatement 116 = .ok (.aload_n 0, 1) := by decide +kernel
theorem dn_Grammar_behindStatement_117 : decode bn_Grammar_behindStatement 117 = .ok (.iconst 4, 1) := by decide +kernel
theorem dn_Grammar_behindStatement_118 : decode bn_Grammar_behindStatement 118 = .ok (.putfield 58, 3) := by decide +kernel
theorem dn_Grammar_behindStatement_121 : decode bn_Grammar_behindStatement 121 = .ok (.goto 65, 3) := by decide +kernel
theorem dn_Grammar_behindStatement_124 : decode bn_Grammar_behindStatement 124 = .ok (.aload_n 0, 1) := by decide +kernel
theorem dn_Grammar_behindStatement_125 : decode bn_Grammar_behindStatement 125 = .ok (.getfield 24, 3) := by decide +kernel
theorem dn_Grammar_behindStatement_128 : decode bn_Grammar_behindStatement 128 = .ok (.getfield 70, 3) := by decide +kernel
theorem dn_Grammar_behindStatement_131 : decode bn_Grammar_behindStatement 131 = .ok (.sipush 141, 3) := by decide +kernel
theorem dn_Grammar_behindStatement_134 : decode bn_Grammar_behindStatement 134 = .ok (.if_icmp .ne 10, 3) := by decide +kernel
theorem dn_Grammar_behindStatement_137 : decode bn_Grammar_behindStatement 137 = .ok (.aload_n 0, 1) := by decide +kernel
theorem dn_Grammar_behindStatement_138 : decode bn_Grammar_behindStatement 138 = .ok (.invokevirtual 222, 3) := by decide +kernel
theorem dn_Grammar_behindStatement_141 : decode bn_Grammar_behindStatement 141 = .ok (.goto 45, 3) := by decide +kernel
theorem dn_Grammar_behindStatement_144 : decode bn_Grammar_behindStatement 144 = .ok (.aload_n 0, 1) := by decide +kernel
theorem dn_Grammar_behindStatement_145 : decode bn_Grammar_behindStatement 145 = .ok (.invokevirtual 225, 3) := by decide +kernel
theorem dn_Grammar_behindStatement_148 : decode bn_Grammar_behindStatement 148 = .ok (.goto 38, 3) := by decide +kernel
theorem dn_Grammar_behindStatement_151 : decode bn_Grammar_behindStatement 151 = .ok (.aload_n 0, 1) := by decide +kernel
theorem dn_Grammar_behindStatement_152 : decode bn_Grammar_behindStatement 152 = .ok (.invokevirtual 225, 3) := by decide +kernel
theorem dn_Grammar_behindStatement_155 : decode bn_Grammar_behindStatement 155 = .ok (.goto 31, 3) := by decide +kernel
theorem dn_Grammar_behindStatement_158 : decode bn_Grammar_behindStatement 158 = .ok (.aload_n 0, 1) := by decide +kernel
theorem dn_Grammar_behindStatement_159 : decode bn_Grammar_behindStatement 159 = .ok (.invokevirtual 228, 3) := by decide +kernel
theorem dn_Grammar_behindStatement_162 : decode bn_Grammar_behindStatement 162 = .ok (.goto 24, 3) := by decide +kernel
theorem dn_Grammar_behindStatement_165 : decode bn_Grammar_behindStatement 165 = .ok (.aload_n 0, 1) := by decide +kernel
theorem dn_Grammar_behindStatement_166 : decode bn_Grammar_behindStatement 166 = .ok (.getfield 32, 3) := by decide +kernel
theorem dn_Grammar_behindStatement_169 : decode bn_Grammar_behindStatement 169 = .ok (.invokevirtual 231, 3) := by decide +kernel
theorem dn_Grammar_behindStatement_172 : decode bn_Grammar_behindStatement 172 = .ok (.aload_n 0, 1) := by decide +kernel
theorem dn_Grammar_behindStatement_173 : decode bn_Grammar_behindStatement 173 = .ok (.sipush 142, 3) := by decide +kernel
theorem dn_Grammar_behindStatement_176 : decode bn_Grammar_behindStatement 176 = .ok (.invokevirtual 216, 3) := by decide +kernel
theorem dn_Grammar_behindStatement_179 : decode bn_Grammar_behindStatement 179 = .ok (.goto 7, 3) := by decide +kernel
theorem dn_Grammar_behindStatement_182 : decode bn_Grammar_behindStatement 182 = .ok (.aload_n 0, 1) := by decide +kernel
theorem dn_Grammar_behindStatement_183 : decode bn_Grammar_behindStatement 183 = .ok (.invokevirtual 234, 3) := by decide +kernel
theorem dn_Grammar_behindStatement_186 : decode bn_Grammar_behindStatement 186 = .ok (.return_, 1) := by decide +kernel
theorem dn_Grammar_brace_0 : decode bn_Grammar_brace 0 = .ok (.aload_n 0, 1) := by decide +kernel
theorem dn_Grammar_brace_1 : decode bn_Grammar_brace 1 = .ok (.getfield 24, 3) := by decide +kernel
theorem dn_Grammar_brace_4 : decode bn_Grammar_brace 4 = .ok (.getfield 105, 3) := by decide +kernel
theorem dn_Grammar_brace_7 : decode bn_Grammar_brace 7 = .ok (.istore_n 1, 1) := by decide +kernel
theorem dn_Grammar_brace_8 : decode bn_Grammar_brace 8 = .ok (.aload_n 0, 1) := by decide +kernel
theorem dn_Grammar_brace_9 : decode bn_Grammar_brace 9 = .ok (.getfield 24, 3) := by decide +kernel
theorem dn_Grammar_brace_12 : decode bn_Grammar_brace 12 = .ok (.bipush 123, 2) := by decide +kernel
theorem dn_Grammar_brace_14 : decode bn_Grammar_brace 14 = .ok (.invokevirtual 115, 3) := by decide +kernel
theorem dn_Grammar_brace_17 : decode bn_Grammar_brace 17 = .ok (.aload_n 0, 1) := by decide +kernel
theorem dn_Grammar_brace_18 : decode bn_Grammar_brace 18 = .ok (.getfield 24, 3) := by decide +kernel
theorem dn_Grammar_brace_21 : decode bn_Grammar_brace 21 = .ok (.getfield 70, 3) := by decide +kernel
theorem dn_Grammar_brace_24 : decode bn_Grammar_brace 24 = .ok (.iconst 3, 1) := by decide +kernel
theorem dn_Grammar_brace_25 : decode bn_Grammar_brace 25 = .ok (.if_icmp .ne 37, 3) := by decide +kernel
theorem dn_Grammar_brace_28 : decode bn_Grammar_brace 28 = .ok (.aload_n 0, 1) := by decide +kernel
theorem dn_Grammar_brace_29 : decode bn_Grammar_brace 29 = .ok (.sipush 202, 3) := by decide +kernel
theorem dn_Grammar_brace_32 : decode bn_Grammar_brace 32 = .ok (.iload_n 1, 1) := by decide +kernel
theorem dn_Grammar_brace_33 : decode bn_Grammar_brace 33 = .ok (.aload_n 0, 1) := by decide +kernel
theorem dn_Grammar_brace_34 : decode bn_Grammar_brace 34 = .ok (.getfield 24, 3) := by decide +kernel
theorem dn_Grammar_brace_37 : decode bn_Grammar_brace 37 = .ok (.getfield 102, 3) := by decide +kernel
theorem dn_Grammar_brace_40 : decode bn_Grammar_brace 40 = .ok (.invokevirtual 276, 3) := by decide +kernel
theorem dn_Grammar_brace_43 : decode bn_Grammar_brace 43 = .ok (.aload_n 0, 1) := by decide +kernel
theorem dn_Grammar_brace_44 : decode bn_Grammar_brace 44 = .ok (.getfield 24, 3) := by decide +kernel
theorem dn_Grammar_brace_47 : decode bn_Grammar_brace 47 = .ok (.invokevirtual 112, 3) := by decide +kernel
theorem dn_Grammar_brace_50 : decode bn_Grammar_brace 50 = .ok (.aload_n 0, 1) := by decide +kernel
theorem dn_Grammar_brace_51 : decode bn_Grammar_brace 51 = .ok (.getfield 24, 3) := by decide +kernel
theorem dn_Grammar_brace_54 : decode bn_Grammar_brace 54 = .ok (.bipush 123, 2) := by decide +kernel
theorem dn_Grammar_brace_56 : decode bn_Grammar_brace 56 = .ok (.invokevirtual 115, 3) := by decide +kernel
theorem dn_Grammar_brace_59 : decode bn_Grammar_brace 59 = .ok (.goto 11, 3) := by decide +kernel
theorem dn_Grammar_brace_62 : decode bn_Grammar_brace 62 = .ok (.aload_n 0, 1) := by decide +kernel
theorem dn_Grammar_brace_63 : decode bn_Grammar_brace 63 = .ok (.bipush 123, 2) := by decide +kernel
theorem dn_Grammar_brace_65 : decode bn_Grammar_brace 65 = .ok (.iload_n 1, 1) := by decide +kernel
theorem dn_Grammar_brace_66 : decode bn_Grammar_brace 66 = .ok (.iconst 0, 1) := by decide +kernel
theorem dn_Grammar_brace_67 : decode bn_Grammar_brace 67 = .ok (.invokevirtual 276, 3) := by decide +kernel
theorem dn_Grammar_brace_70 : decode bn_Grammar_brace 70 = .ok (.return_, 1) := by decide +kernel
theorem dn_Grammar_caseEnd_0 : decode bn_Grammar_caseEnd 0 = .ok (.aload_n 0, 1) := by decide +kernel
theorem dn_Grammar_caseEnd_1 : decode bn_Grammar_caseEnd 1 = .ok (.getfield 24, 3) := by decide +kernel
theorem dn_Grammar_caseEnd_4 : decode bn_Grammar_caseEnd 4 = .ok (.sipush 143, 3) := by decide +kernel
theorem dn_Grammar_caseEnd_7 : decode bn_Grammar_caseEnd 7 = .ok (.invokevirtual 121, 3) := by decide +kernel
theorem dn_Grammar_caseEnd_10 : decode bn_Grammar_caseEnd 10 = .ok (.aload_n 0, 1) := by decide +kernel
theorem dn_Grammar_caseEnd_11 : decode bn_Grammar_caseEnd 11 = .ok (.getfield 32, 3) := by decide +kernel
theorem dn_Grammar_caseEnd_14 : decode bn_Grammar_caseEnd 14 = .ok (.invokevirtual 248, 3) := by decide +kernel
theorem dn_Grammar_caseEnd_17 : decode bn_Grammar_caseEnd 17 = .ok (.aload_n 0, 1) := by decide +kernel
theorem dn_Grammar_caseEnd_18 : decode bn_Grammar_caseEnd 18 = .ok (.dup, 1) := by decide +kernel
theorem dn_Grammar_caseEnd_19 : decode bn_Grammar_caseEnd 19 = .ok (.getfield 55, 3) := by decide +kernel
theorem dn_Grammar_caseEnd_22 : decode bn_Grammar_caseEnd 22 = .ok (.iconst 1, 1) := by decide +kernel
theorem dn_Grammar_caseEnd_23 : decode bn_Grammar_caseEnd 23 = .ok (.isub, 1) := by decide +kernel
theorem dn_Grammar_caseEnd_24 : decode bn_Grammar_caseEnd 24 = .ok (.putfield 55, 3) := by decide +kernel
theorem dn_Grammar_caseEnd_27 : decode bn_Grammar_caseEnd 27 = .ok (.return_, 1) := by decide +kernel
theorem dn_Grammar_close_0 : decode bn_Grammar_close 0 = .ok (.aload_n 0, 1) := by decide +kernel
theorem dn_Grammar_close_1 : decode bn_Grammar_close 1 = .ok (.getfield 15, 3) := by decide +kernel
theorem dn_Grammar_close_4 : decode bn_Grammar_close 4 = .ok (.iload_n 1, 1) := by decide +kernel
theorem dn_Grammar_close_5 : decode bn_Grammar_close 5 = .ok (.iaload, 1) := by decide +kernel
theorem dn_Grammar_close_6 : decode bn_Grammar_close 6 = .ok (.lookupswitch 192 #[(40, 76), (44, 177), (63, 50), (91, 98), (202, 127)], 50) := by decide +kernel
theorem dn_Grammar_close_56 : decode bn_Grammar_close 56 = .ok (.aload_n 0, 1) := by decide +kernel
theorem dn_Grammar_close_57 : decode bn_Grammar_close 57 = .ok (.getfield 24, 3) := by decide +kernel
theorem dn_Grammar_close_60 : decode bn_Grammar_close 60 = .ok (.bipush 58, 2) := by decide +kernel
theorem dn_Grammar_close_62 : decode bn_Grammar_close 62 = .ok (.invokevirtual 94, 3) := by decide +kernel
theorem dn_Grammar_close_65 : decode bn_Grammar_close 65 = .ok (.aload_n 0, 1) := by decide +kernel
theorem dn_Grammar_close_66 : decode bn_Grammar_close 66 = .ok (.getfield 15, 3) := by decide +kernel
theorem dn_Grammar_close_69 : decode bn_Grammar_close 69 = .ok (.iload_n 1, 1) := by decide +kernel
theorem dn_Grammar_close_70 : decode bn_Grammar_close 70 = .ok (.bipush 58, 2) := by decide +kernel
theorem dn_Grammar_close_72 : decode bn_Grammar_close 72 = .ok (.iastore, 1) := by decide +kernel
theorem dn_Grammar_close_73 : decode bn_Grammar_close 73 = .ok (.aload_n 0, 1) := by decide +kernel
theorem dn_Grammar_close_74 : decode bn_Grammar_close 74 = .ok (.bipush 6, 2) := by decide +kernel
theorem dn_Grammar_close_76 : decode bn_Grammar_close 76 = .ok (.putfield 58, 3) := by decide +kernel
theorem dn_Grammar_close_79 : decode bn_Grammar_close 79 = .ok (.goto 124, 3) := by decide +kernel
theorem dn_Grammar_close_82 : decode bn_Grammar_close 82 = .ok (.aload_n 0, 1) := by decide +kernel
theorem dn_Grammar_close_83 : decode bn_Grammar_close 83 = .ok (.getfield 24, 3) := by decide +kernel
theorem dn_Grammar_close_86 : decode bn_Grammar_close 86 = .ok (.bipush 41, 2) := by decide +kernel
theorem dn_Grammar_close_88 : decode bn_Grammar_close 88 = .ok (.invokevirtual 121, 3) := by decide +kernel
theorem dn_Grammar_close_91 : decode bn_Grammar_close 91 = .ok (.aload_n 0, 1) := by decide +kernel
theorem dn_Grammar_close_92 : decode bn_Grammar_close 92 = .ok (.dup, 1) := by decide +kernel
theorem dn_Grammar_close_93 : decode bn_Grammar_close 93 = .ok (.getfield 51, 3) := by decide +kernel
theorem dn_Grammar_close_96 : decode bn_Grammar_close 96 = .ok (.iconst 1, 1) := by decide +kernel
theorem dn_Grammar_close_97 : decode bn_Grammar_close 97 = .ok (.isub, 1) := by decide +kernel
theorem dn_Grammar_close_98 : decode bn_Grammar_close 98 = .ok (.putfield 51, 3) := by decide +kernel
theorem dn_Grammar_close_101 : decode bn_Grammar_close 101 = .ok (.goto 102, 3) := by decide +kernel
theorem dn_Grammar_close_104 : decode bn_Grammar_close 104 = .ok (.aload_n 0, 1) := by decide +kernel
theorem dn_Grammar_close_105 : decode bn_Grammar_close 105 = .ok (.getfield 24, 3) := by decide +kernel
theorem dn_Grammar_close_108 : decode bn_Grammar_close 108 = .ok (.bipush 93, 2) := by decide +kernel
theorem dn_Grammar_close_110 : decode bn_Grammar_close 110 = .ok (.invokevirtual 121, 3) := by decide +kernel
theorem dn_Grammar_close_113 : decode bn_Grammar_close 113 = .ok (.aload_n 0, 1) := by decide +kernel
theorem dn_Grammar_close_114 : decode bn_Grammar_close 114 = .ok (.getfield 28, 3) := by decide +kernel
theorem dn_Grammar_close_117 : decode bn_Grammar_close 117 = .ok (.invokevirtual 314, 3) := by decide +kernel
theorem dn_Grammar_close_120 : decode bn_Grammar_close 120 = .ok (.aload_n 0, 1) := by decide +kernel
theorem dn_Grammar_close_121 : decode bn_Grammar_close 121 = .ok (.dup, 1) := by decide +kernel
theorem dn_Grammar_close_122 : decode bn_Grammar_close 122 = .ok (.getfield 51, 3) := by decide +kernel
theorem dn_Grammar_close_125 : decode bn_Grammar_close 125 = .ok (.iconst 1, 1) := by decide +kernel
theorem dn_Grammar_close_126 : decode bn_Grammar_close 126 = .ok (.isub, 1) := by decide +kernel
theorem dn_Grammar_close_127 : decode bn_Grammar_close 127 = .ok (.putfield 51, 3) := by decide +kernel
theorem dn_Grammar_close_130 : decode bn_Grammar_close 130 = .ok (.goto 73, 3) := by decide +kernel
theorem dn_Grammar_close_133 : decode bn_Grammar_close 133 = .ok (.aload_n 0, 1) := by decide +kernel
theorem dn_Grammar_close_134 : decode bn_Grammar_close 134 = .ok (.getfield 24, 3) := by decide +kernel
theorem dn_Grammar_close_137 : decode bn_Grammar_close 137 = .ok (.bipush 125, 2) := by decide +kernel
theorem dn_Grammar_close_139 : decode bn_Grammar_close 139 = .ok (.invokevirtual 121, 3) := by decide +kernel
theorem dn_Grammar_close_142 : decode bn_Grammar_close 142 = .ok (.aload_n 0, 1) := by decide +kernel
theorem dn_Grammar_close_143 : decode bn_Grammar_close 143 = .ok (.getfield 24, 3) := by decide +kernel
theorem dn_Grammar_close_146 : decode bn_Grammar_close 146 = .ok (.bipush 125, 2) := by decide +kernel
theorem dn_Grammar_close_148 : decode bn_Grammar_close 148 = .ok (.invokevirtual 121, 3) := by decide +kernel
theorem dn_Grammar_close_151 : decode bn_Grammar_close 151 = .ok (.aload_n 0, 1) := by decide +kernel
theorem dn_Grammar_close_152 : decode bn_Grammar_close 152 = .ok (.getfield 28, 3) := by decide +kernel
theorem dn_Grammar_close_155 : decode bn_Grammar_close 155 = .ok (.aload_n 0, 1) := by decide +kernel
theorem dn_Grammar_close_156 : decode bn_Grammar_close 156 = .ok (.getfield 21, 3) := by decide +kernel
theorem dn_Grammar_close_159 : decode bn_Grammar_close 159 = .ok (.iload_n 1, 1) := by decide +kernel
theorem dn_Grammar_close_160 : decode bn_Grammar_close 160 = .ok (.iaload, 1) := by decide +kernel
theorem dn_Grammar_close_161 : decode bn_Grammar_close 161 = .ok (.aload_n 0, 1) := by decide +kernel
theorem dn_Grammar_close_162 : decode bn_Grammar_close 162 = .ok (.getfield 18, 3) := by decide +kernel
theorem dn_Grammar_close_165 : decode bn_Grammar_close 165 = .ok (.iload_n 1, 1) := by decide +kernel
theorem dn_Grammar_close_166 : decode bn_Grammar_close 166 = .ok (.iaload, 1) := by decide +kernel
theorem dn_Grammar_close_167 : decode bn_Grammar_close 167 = .ok (.invokevirtual 316, 3) := by decide +kernel
theorem dn_Grammar_close_170 : decode bn_Grammar_close 170 = .ok (.aload_n 0, 1) := by decide +kernel
theorem dn_Grammar_close_171 : decode bn_Grammar_close 171 = .ok (.dup, 1) := by decide +kernel
theorem dn_Grammar_close_172 : decode bn_Grammar_close 172 = .ok (.getfield 51, 3) := by decide +kernel
theorem dn_Grammar_close_175 : decode bn_Grammar_close 175 = .ok (.iconst 1, 1) := by decide +kernel
theorem dn_Grammar_close_176 : decode bn_Grammar_close 176 = .ok (.isub, 1) := by decide +kernel
theorem dn_Grammar_close_177 : decode bn_Grammar_close 177 = .ok (.putfield 51, 3) := by decide +kernel
theorem dn_Grammar_close_180 : decode bn_Grammar_close 180 = .ok (.goto 23, 3) := by decide +kernel
theorem dn_Grammar_close_183 : decode bn_Grammar_close 183 = .ok (.aload_n 0, 1) := by decide +kernel
theorem dn_Grammar_close_184 : decode bn_Grammar_close 184 = .ok (.getfield 28, 3) := by decide +kernel
theorem dn_Grammar_close_187 : decode bn_Grammar_close 187 = .ok (.invokevirtual 319, 3) := by decide +kernel
theorem dn_Grammar_close_190 : decode bn_Grammar_close 190 = .ok (.aload_n 0, 1) := by decide +kernel
theorem dn_Grammar_close_191 : decode bn_Grammar_close 191 = .ok (.iload_n 1, 1) := by decide +kernel
theorem dn_Grammar_close_192 : decode bn_Grammar_close 192 = .ok (.invokevirtual 322, 3) := by decide +kernel
theorem dn_Grammar_close_195 : decode bn_Grammar_close 195 = .ok (.goto 8, 3) := by decide +kernel
theorem dn_Grammar_close_198 : decode bn_Grammar_close 198 = .ok (.aload_n 0, 1) := by decide +kernel
theorem dn_Grammar_close_199 : decode bn_Grammar_close 199 = .ok (.iload_n 1, 1) := by decide +kernel
theorem dn_Grammar_close_200 : decode bn_Grammar_close 200 = .ok (.invokevirtual 322, 3) := by decide +kernel
theorem dn_Grammar_close_203 : decode bn_Grammar_close 203 = .ok (.return_, 1) := by decide +kernel
theorem dn_Grammar_closeBrace_0 : decode bn_Grammar_closeBrace 0 = .ok (.aload_n 0, 1) := by decide +kernel
theorem dn_Grammar_closeBrace_1 : decode bn_Grammar_closeBrace 1 = .ok (.getfield 24, 3) := by decide +kernel
theorem dn_Grammar_closeBrace_4 : decode bn_Grammar_closeBrace 4 = .ok (.getfield 70, 3) := by decide +kernel
theorem dn_Grammar_closeBrace_7 : decode bn_Grammar_closeBrace 7 = .ok (.bipush 44, 2) := by decide +kernel
theorem dn_Grammar_closeBrace_9 : decode bn_Grammar_closeBrace 9 = .ok (.if_icmp .ne 27, 3) := by decide +kernel
theorem dn_Grammar_closeBrace_12 : decode bn_Grammar_closeBrace 12 = .ok (.aload_n 0, 1) := by decide +kernel
theorem dn_Grammar_closeBrace_13 : decode bn_Grammar_closeBrace 13 = .ok (.getfield 24, 3) := by decide +kernel
theorem dn_Grammar_closeBrace_16 : decode bn_Grammar_closeBrace 16 = .ok (.invokevirtual 112, 3) := by decide +kernel
theorem dn_Grammar_closeBrace_19 : decode bn_Grammar_closeBrace 19 = .ok (.aload_n 0, 1) := by decide +kernel
theorem dn_Grammar_closeBrace_20 : decode bn_Grammar_closeBrace 20 = .ok (.getfield 15, 3) := by decide +kernel
theorem dn_Grammar_closeBrace_23 : decode bn_Grammar_closeBrace 23 = .ok (.iload_n 1, 1) := by decide +kernel
theorem dn_Grammar_closeBrace_24 : decode bn_Grammar_closeBrace 24 = .ok (.bipush 44, 2) := by decide +kernel
theorem dn_Grammar_closeBrace_26 : decode bn_Grammar_closeBrace 26 = .ok (.iastore, 1) := by decide +kernel
theorem dn_Grammar_closeBrace_27 : decode bn_Grammar_closeBrace 27 = .ok (.aload_n 0, 1) := by decide +kernel
theorem dn_Grammar_closeBrace_28 : decode bn_Grammar_closeBrace 28 = .ok (.bipush 6, 2) := by decide +kernel
theorem dn_Grammar_closeBrace_30 : decode bn_Grammar_closeBrace 30 = .ok (.putfield 58, 3) := by decide +kernel
theorem dn_Grammar_closeBrace_33 : decode bn_Grammar_closeBrace 33 = .ok (.goto 35, 3) := by decide +kernel
theorem dn_Grammar_closeBrace_36 : decode bn_Grammar_closeBrace 36 = .ok (.aload_n 0, 1) := by decide +kernel
theorem dn_Grammar_closeBrace_37 : decode bn_Grammar_closeBrace 37 = .ok (.getfield 24, 3) := by decide +kernel
theorem dn_Grammar_closeBrace_40 : decode bn_Grammar_closeBrace 40 = .ok (.bipush 125, 2) := by decide +kernel
theorem dn_Grammar_closeBrace_42 : decode bn_Grammar_closeBrace 42 = .ok (.invokevirtual 121, 3) := by decide +kernel
theorem dn_Grammar_closeBrace_45 : decode bn_Grammar_closeBrace 45 = .ok (.aload_n 0, 1) := by decide +kernel
theorem dn_Grammar_closeBrace_46 : decode bn_Grammar_closeBrace 46 = .ok (.getfield 28, 3) := by decide +kernel
theorem dn_Grammar_closeBrace_49 : decode bn_Grammar_closeBrace 49 = .ok (.aload_n 0, 1) := by decide +kernel
theorem dn_Grammar_closeBrace_50 : decode bn_Grammar_closeBrace 50 = .ok (.getfield 18, 3) := by decide +kernel
theorem dn_Grammar_closeBrace_53 : decode bn_Grammar_closeBrace 53 = .ok (.iload_n 1, 1) := by decide +kernel
theorem dn_Grammar_closeBrace_54 : decode bn_Grammar_closeBrace 54 = .ok (.iaload, 1) := by decide +kernel
theorem dn_Grammar_closeBrace_55 : decode bn_Grammar_closeBrace 55 = .ok (.invokevirtual 325, 3) := by decide +kernel
theorem dn_Grammar_closeBrace_58 : decode bn_Grammar_closeBrace 58 = .ok (.aload_n 0, 1) := by decide +kernel
theorem dn_Grammar_closeBrace_59 : decode bn_Grammar_closeBrace 59 = .ok (.dup, 1) := by decide +kernel
theorem dn_Grammar_closeBrace_60 : decode bn_Grammar_closeBrace 60 = .ok (.getfield 51, 3) := by decide +kernel
theorem dn_Grammar_closeBrace_63 : decode bn_Grammar_closeBrace 63 = .ok (.iconst 1, 1) := by decide +kernel
theorem dn_Grammar_closeBrace_64 : decode bn_Grammar_closeBrace 64 = .ok (.isub, 1) := by decide +kernel
theorem dn_Grammar_closeBrace_65 : decode bn_Grammar_closeBrace 65 = .ok (.putfield 51, 3) := by decide +kernel
theorem dn_Grammar_closeBrace_68 : decode bn_Grammar_closeBrace 68 = .ok (.return_, 1) := by decide +kernel
theorem dn_Grammar_declaration_0 : decode bn_Grammar_declaration 0 = .ok (.aload_n 0, 1) := by decide +kernel
theorem dn_Grammar_declaration_1 : decode bn_Grammar_declaration 1 = .ok (.getfield 24, 3) := by decide +kernel
theorem dn_Grammar_declaration_4 : decode bn_Grammar_declaration 4 = .ok (.getfield 70, 3) := by decide +kernel
theorem dn_Grammar_declaration_7 : decode bn_Grammar_declaration 7 = .ok (.bipush 91, 2) := by decide +kernel
theorem dn_Grammar_declaration_9 : decode bn_Grammar_declaration 9 = .ok (.if_icmp .ne 82, 3) := by decide +kernel
theorem dn_Grammar_declaration_12 : decode bn_Grammar_declaration 12 = .ok (.aload_n 0, 1) := by decide +kernel
theorem dn_Grammar_declaration_13 : decode bn_Grammar_declaration 13 = .ok (.getfield 24, 3) := by decide +kernel
theorem dn_Grammar_declaration_16 : decode bn_Grammar_declaration 16 = .ok (.getfield 105, 3) := by decide +kernel
theorem dn_Grammar_declaration_19 : decode bn_Grammar_declaration 19 = .ok (.istore_n 2, 1) := by decide +kernel
theorem dn_Grammar_declaration_20 : decode bn_Grammar_declaration 20 = .ok (.aload_n 0, 1) := by decide +kernel
theorem dn_Grammar_declaration_21 : decode bn_Grammar_declaration 21 = .ok (.getfield 24, 3) := by decide +kernel
theorem dn_Grammar_declaration_24 : decode bn_Grammar_declaration 24 = .ok (.bipush 91, 2) := by decide +kernel
theorem dn_Grammar_declaration_26 : decode bn_Grammar_declaration 26 = .ok (.invokevirtual 115, 3) := by decide +kernel
theorem dn_Grammar_declaration_29 : decode bn_Grammar_declaration 29 = .ok (.aload_n 0, 1) := by decide +kernel
theorem dn_Grammar_declaration_30 : decode bn_Grammar_declaration 30 = .ok (.getfield 24, 3) := by decide +kernel
theorem dn_Grammar_declaration_33 : decode bn_Grammar_declaration 33 = .ok (.getfield 102, 3) := by decide +kernel
theorem dn_Grammar_declaration_36 : decode bn_Grammar_declaration 36 = .ok (.istore_n 3, 1) := by decide +kernel
theorem dn_Grammar_declaration_37 : decode bn_Grammar_declaration 37 = .ok (.aload_n 0, 1) := by decide +kernel
theorem dn_Grammar_declaration_38 : decode bn_Grammar_declaration 38 = .ok (.getfield 24, 3) := by decide +kernel
theorem dn_Grammar_declaration_41 : decode bn_Grammar_declaration 41 = .ok (.iconst 3, 1) := by decide +kernel
theorem dn_Grammar_declaration_42 : decode bn_Grammar_declaration 42 = .ok (.invokevirtual 94, 3) := by decide +kernel
theorem dn_Grammar_declaration_45 : decode bn_Grammar_declaration 45 = .ok (.aload_n 0, 1) := by decide +kernel
theorem dn_Grammar_declaration_46 : decode bn_Grammar_declaration 46 = .ok (.getfield 24, 3) := by decide +kernel
theorem dn_Grammar_declaration_49 : decode bn_Grammar_declaration 49 = .ok (.bipush 58, 2) := by decide +kernel
theorem dn_Grammar_declaration_51 : decode bn_Grammar_declaration 51 = .ok (.invokevirtual 94, 3) := by decide +kernel
theorem dn_Grammar_declaration_54 : decode bn_Grammar_declaration 54 = .ok (.aload_n 0, 1) := by decide +kernel
theorem dn_Grammar_declaration_55 : decode bn_Grammar_declaration 55 = .ok (.getfield 24, 3) := by decide +kernel
theorem dn_Grammar_declaration_58 : decode bn_Grammar_declaration 58 = .ok (.getfield 102, 3) := by decide +kernel
theorem dn_Grammar_declaration_61 : decode bn_Grammar_declaration 61 = .ok (.istore 4, 2) := by decide +kernel
theorem dn_Grammar_declaration_63 : decode bn_Grammar_declaration 63 = .ok (.aload_n 0, 1) := by decide +kernel
theorem dn_Grammar_declaration_64 : decode bn_Grammar_declaration 64 = .ok (.getfield 24, 3) := by decide +kernel
theorem dn_Grammar_declaration_67 : decode bn_Grammar_declaration 67 = .ok (.iconst 3, 1) := by decide +kernel
theorem dn_Grammar_declaration_68 : decode bn_Grammar_declaration 68 = .ok (.invokevirtual 94, 3) := by decide +kernel
theorem dn_Grammar_declaration_71 : decode bn_Grammar_declaration 71 = .ok (.aload_n 0, 1) := by decide +kernel
theorem dn_Grammar_declaration_72 : decode bn_Grammar_declaration 72 = .ok (.getfield 24, 3) := by decide +kernel
theorem dn_Grammar_declaration_75 : decode bn_Grammar_declaration 75 = .ok (.bipush 93, 2) := by decide +kernel
theorem dn_Grammar_declaration_77 : decode bn_Grammar_declaration 77 = .ok (.invokevirtual 121, 3) := by decide +kernel
theorem dn_Grammar_declaration_80 : decode bn_Grammar_declaration 80 = .ok (.aload_n 0, 1) := by decide +kernel
theorem dn_Grammar_declaration_81 : decode bn_Grammar_declaration 81 = .ok (.getfield 32, 3) := by decide +kernel
theorem dn_Grammar_declaration_84 : decode bn_Grammar_declaration 84 = .ok (.iload_n 2, 1) := by decide +kernel
theorem dn_Grammar_declaration_85 : decode bn_Grammar_declaration 85 = .ok (.iload_n 3, 1) := by decide +kernel
theorem dn_Grammar_declaration_86 : decode bn_Grammar_declaration 86 = .ok (.iload 4, 2) := by decide +kernel
theorem dn_Grammar_declaration_88 : decode bn_Grammar_declaration 88 = .ok (.invokevirtual 130, 3) := by decide +kernel
theorem dn_Grammar_declaration_91 : decode bn_Grammar_declaration 91 = .ok (.aload_n 0, 1) := by decide +kernel
theorem dn_Grammar_declaration_92 : decode bn_Grammar_declaration 92 = .ok (.getfield 24, 3) := by decide +kernel
theorem dn_Grammar_declaration_95 : decode bn_Grammar_declaration 95 = .ok (.iconst 2, 1) := by decide +kernel
theorem dn_Grammar_declaration_96 : decode bn_Grammar_declaration 96 = .ok (.invokevirtual 98, 3) := by decide +kernel
theorem dn_Grammar_declaration_99 : decode bn_Grammar_declaration 99 = .ok (.ifCond .eq 25, 3) := by decide +kernel
theorem dn_Grammar_declaration_102 : decode bn_Grammar_declaration 102 = .ok (.aload_n 0, 1) := by decide +kernel
theorem dn_Grammar_declaration_103 : decode bn_Grammar_declaration 103 = .ok (.getfield 32, 3) := by decide +kernel
theorem dn_Grammar_declaration_106 : decode bn_Grammar_declaration 106 = .ok (.iload_n 1, 1) := by decide +kernel
theorem dn_Grammar_declaration_107 : decode bn_Grammar_declaration 107 = .ok (.aload_n 0, 1) := by decide +kernel
theorem dn_Grammar_declaration_108 : decode bn_Grammar_declaration 108 = .ok (.getfield 24, 3) := by decide +kernel
theorem dn_Grammar_declaration_111 : decode bn_Grammar_declaration 111 = .ok (.getfield 102, 3) := by decide +kernel
theorem dn_Grammar_declaration_114 : decode bn_Grammar_declaration 114 = .ok (.aload_n 0, 1) := by decide +kernel
theorem dn_Grammar_declaration_115 : decode bn_Grammar_declaration 115 = .ok (.getfield 24, 3) := by decide +kernel
theorem dn_Grammar_declaration_118 : decode bn_Grammar_declaration 118 = .ok (.getfield 105, 3) := by decide +kernel
theorem dn_Grammar_declaration_121 : decode bn_Grammar_declaration 121 = .ok (.invokevirtual 134, 3) := by decide +kernel
theorem dn_Grammar_declaration_124 : decode bn_Grammar_declaration 124 = .ok (.aload_n 0, 1) := by decide +kernel
theorem dn_Grammar_declaration_125 : decode bn_Grammar_declaration 125 = .ok (.getfield 24, 3) := by decide +kernel
theorem dn_Grammar_declaration_128 : decode bn_Grammar_declaration 128 = .ok (.invokevirtual 112, 3) := by decide +kernel
theorem dn_Grammar_declaration_131 : decode bn_Grammar_declaration 131 = .ok (.iload_n 1, 1) := by decide +kernel
theorem dn_Grammar_declaration_132 : decode bn_Grammar_declaration 132 = .ok (.iconst 2, 1) := by decide +kernel
theorem dn_Grammar_declaration_133 : decode bn_Grammar_declaration 133 = .ok (.if_icmp .ne 15, 3) := by decide +kernel
theorem dn_Grammar_declaration_136 : decode bn_Grammar_declaration 136 = .ok (.aload_n 0, 1) := by decide +kernel
theorem dn_Grammar_declaration_137 : decode bn_Grammar_declaration 137 = .ok (.getfield 24, 3) := by decide +kernel
theorem dn_Grammar_declaration_140 : decode bn_Grammar_declaration 140 = .ok (.getfield 70, 3) := by decide +kernel
theorem dn_Grammar_declaration_143 : decode bn_Grammar_declaration 143 = .ok (.bipush 61, 2) := by decide +kernel
theorem dn_Grammar_declaration_145 : decode bn_Grammar_declaration 145 = .ok (.if_icmp .eq 4, 3) := by decide +kernel
theorem dn_Grammar_declaration_148 : decode bn_Grammar_declaration 148 = .ok (.return_, 1) := by decide +kernel
theorem dn_Grammar_declaration_149 : decode bn_Grammar_declaration 149 = .ok (.aload_n 0, 1) := by decide +kernel
theorem dn_Grammar_declaration_150 : decode bn_Grammar_declaration 150 = .ok (.getfield 24, 3) := by decide +kernel
theorem dn_Grammar_declaration_153 : decode bn_Grammar_declaration 153 = .ok (.invokevirtual 112, 3) := by decide +kernel
theorem dn_Grammar_declaration_156 : decode bn_Grammar_declaration 156 = .ok (.aload_n 0, 1) := by decide +kernel
theorem dn_Grammar_declaration_157 : decode bn_Grammar_declaration 157 = .ok (.getfield 24, 3) := by decide +kernel
theorem dn_Grammar_declaration_160 : decode bn_Grammar_declaration 160 = .ok (.iconst 4, 1) := by decide +kernel
theorem dn_Grammar_declaration_161 : decode bn_Grammar_declaration 161 = .ok (.invokevirtual 98, 3) := by decide +kernel
theorem dn_Grammar_declaration_164 : decode bn_Grammar_declaration 164 = .ok (.ifCond .eq 24, 3) := by decide +kernel
theorem dn_Grammar_declaration_167 : decode bn_Grammar_declaration 167 = .ok (.aload_n 0, 1) := by decide +kernel
theorem dn_Grammar_declaration_168 : decode bn_Grammar_declaration 168 = .ok (.getfield 32, 3) := by decide +kernel
theorem dn_Grammar_declaration_171 : decode bn_Grammar_declaration 171 = .ok (.aload_n 0, 1) := by decide +kernel
theorem dn_Grammar_declaration_172 : decode bn_Grammar_declaration 172 = .ok (.getfield 24, 3) := by decide +kernel
theorem dn_Grammar_declaration_175 : decode bn_Grammar_declaration 175 = .ok (.getfield 102, 3) := by decide +kernel
theorem dn_Grammar_declaration_178 : decode bn_Grammar_declaration 178 = .ok (.aload_n 0, 1) := by decide +kernel
theorem dn_Grammar_declaration_179 : decode bn_Grammar_declaration 179 = .ok (.getfield 24, 3) := by decide +kernel
theorem dn_Grammar_declaration_182 : decode bn_Grammar_declaration 182 = .ok (.getfield 105, 3) := by decide +kernel
theorem dn_Grammar_declaration_185 : decode bn_Grammar_declaration 185 = .ok (.invokevirtual 137, 3) := by decide +kernel
theorem dn_Grammar_declaration_188 : decode bn_Grammar_declaration 188 = .ok (.aload_n 0, 1) := by decide +kernel
theorem dn_Grammar_declaration_189 : decode bn_Grammar_declaration 189 = .ok (.getfield 24, 3) := by decide +kernel
theorem dn_Grammar_declaration_192 : decode bn_Grammar_declaration 192 = .ok (.invokevirtual 112, 3) := by decide +kernel
theorem dn_Grammar_declaration_195 : decode bn_Grammar_declaration 195 = .ok (.return_, 1) := by decide +kernel
theorem dn_Grammar_enter_0 : decode bn_Grammar_enter 0 = .ok (.aload_n 0, 1) := by decide +kernel
theorem dn_Grammar_enter_1 : decode bn_Grammar_enter 1 = .ok (.getfield 55, 3) := by decide +kernel
theorem dn_Grammar_enter_4 : decode bn_Grammar_enter 4 = .ok (.aload_n 0, 1) := by decide +kernel
theorem dn_Grammar_enter_5 : decode bn_Grammar_enter 5 = .ok (.getfield 9, 3) := by decide +kernel
theorem dn_Grammar_enter_8 : decode bn_Grammar_enter 8 = .ok (.arraylength, 1) := by decide +kernel
theorem dn_Grammar_enter_9 : decode bn_Grammar_enter 9 = .ok (.if_icmp .lt 4, 3) := by decide +kernel
theorem dn_Grammar_enter_12 : decode bn_Grammar_enter 12 = .ok (.return_, 1) := by decide +kernel
theorem dn_Grammar_enter_13 : decode bn_Grammar_enter 13 = .ok (.aload_n 0, 1) := by decide +kernel
theorem dn_Grammar_enter_14 : decode bn_Grammar_enter 14 = .ok (.dup, 1) := by decide +kernel
theorem dn_Grammar_enter_15 : decode bn_Grammar_enter 15 = .ok (.getfield 55, 3) := by decide +kernel
theorem dn_Grammar_enter_18 : decode bn_Grammar_enter 18 = .ok (.iconst 1, 1) := by decide +kernel
theorem dn_Grammar_enter_19 : decode bn_Grammar_enter 19 = .ok (.iadd, 1) := by decide +kernel
theorem dn_Grammar_enter_20 : decode bn_Grammar_enter 20 = .ok (.putfield 55, 3) := by decide +kernel
theorem dn_Grammar_enter_23 : decode bn_Grammar_enter 23 = .ok (.aload_n 0, 1) := by decide +kernel
theorem dn_Grammar_enter_24 : decode bn_Grammar_enter 24 = .ok (.iload_n 1, 1) := by decide +kernel
theorem dn_Grammar_enter_25 : decode bn_Grammar_enter 25 = .ok (.invokevirtual 216, 3) := by decide +kernel
theorem dn_Grammar_enter_28 : decode bn_Grammar_enter 28 = .ok (.return_, 1) := by decide +kernel
theorem dn_Grammar_expFor_0 : decode bn_Grammar_expFor 0 = .ok (.aload_n 0, 1) := by decide +kernel
theorem dn_Grammar_expFor_1 : decode bn_Grammar_expFor 1 = .ok (.iload_n 1, 1) := by decide +kernel
theorem dn_Grammar_expFor_2 : decode bn_Grammar_expFor 2 = .ok (.putfield 249, 3) := by decide +kernel
theorem dn_Grammar_expFor_5 : decode bn_Grammar_expFor 5 = .ok (.aload_n 0, 1) := by decide +kernel
theorem dn_Grammar_expFor_6 : decode bn_Grammar_expFor 6 = .ok (.aload_n 0, 1) := by decide +kernel
theorem dn_Grammar_expFor_7 : decode bn_Grammar_expFor 7 = .ok (.getfield 24, 3) := by decide +kernel
theorem dn_Grammar_expFor_10 : decode bn_Grammar_expFor 10 = .ok (.getfield 105, 3) := by decide +kernel
theorem dn_Grammar_expFor_13 : decode bn_Grammar_expFor 13 = .ok (.putfield 190, 3) := by decide +kernel
theorem dn_Grammar_expFor_16 : decode bn_Grammar_expFor 16 = .ok (.aload_n 0, 1) := by decide +kernel
theorem dn_Grammar_expFor_17 : decode bn_Grammar_expFor 17 = .ok (.aload_n 0, 1) := by decide +kernel
theorem dn_Grammar_expFor_18 : decode bn_Grammar_expFor 18 = .ok (.getfield 24, 3) := by decide +kernel
theorem dn_Grammar_expFor_21 : decode bn_Grammar_expFor 21 = .ok (.getfield 180, 3) := by decide +kernel
theorem dn_Grammar_expFor_24 : decode bn_Grammar_expFor 24 = .ok (.putfield 183, 3) := by decide +kernel
theorem dn_Grammar_expFor_27 : decode bn_Grammar_expFor 27 = .ok (.aload_n 0, 1) := by decide +kernel
theorem dn_Grammar_expFor_28 : decode bn_Grammar_expFor 28 = .ok (.iconst 0, 1) := by decide +kernel
theorem dn_Grammar_expFor_29 : decode bn_Grammar_expFor 29 = .ok (.putfield 51, 3) := by decide +kernel
theorem dn_Grammar_expFor_32 : decode bn_Grammar_expFor 32 = .ok (.aload_n 0, 1) := by decide +kernel
theorem dn_Grammar_expFor_33 : decode bn_Grammar_expFor 33 = .ok (.getfield 28, 3) := by decide +kernel
theorem dn_Grammar_expFor_36 : decode bn_Grammar_expFor 36 = .ok (.invokevirtual 252, 3) := by decide +kernel
theorem dn_Grammar_expFor_39 : decode bn_Grammar_expFor 39 = .ok (.aload_n 0, 1) := by decide +kernel
theorem dn_Grammar_expFor_40 : decode bn_Grammar_expFor 40 = .ok (.bipush 6, 2) := by decide +kernel
theorem dn_Grammar_expFor_42 : decode bn_Grammar_expFor 42 = .ok (.putfield 58, 3) := by decide +kernel
theorem dn_Grammar_expFor_45 : decode bn_Grammar_expFor 45 = .ok (.return_, 1) := by decide +kernel
theorem dn_Grammar_goOnIn_0 : decode bn_Grammar_goOnIn 0 = .ok (.aload_n 0, 1) := by decide +kernel
theorem dn_Grammar_goOnIn_1 : decode bn_Grammar_goOnIn 1 = .ok (.getfield 55, 3) := by decide +kernel
theorem dn_Grammar_goOnIn_4 : decode bn_Grammar_goOnIn 4 = .ok (.ifCond .le 15, 3) := by decide +kernel
theorem dn_Grammar_goOnIn_7 : decode bn_Grammar_goOnIn 7 = .ok (.aload_n 0, 1) := by decide +kernel
theorem dn_Grammar_goOnIn_8 : decode bn_Grammar_goOnIn 8 = .ok (.getfield 9, 3) := by decide +kernel
theorem dn_Grammar_goOnIn_11 : decode bn_Grammar_goOnIn 11 = .ok (.aload_n 0, 1) := by decide +kernel
theorem dn_Grammar_goOnIn_12 : decode bn_Grammar_goOnIn 12 = .ok (.getfield 55, 3) := by decide +kernel
theorem dn_Grammar_goOnIn_15 : decode bn_Grammar_goOnIn 15 = .ok (.iconst 1, 1) := by decide +kernel
theorem dn_Grammar_goOnIn_16 : decode bn_Grammar_goOnIn 16 = .ok (.isub, 1) := by decide +kernel
theorem dn_Grammar_goOnIn_17 : decode bn_Grammar_goOnIn 17 = .ok (.iload_n 1, 1) := by decide +kernel
theorem dn_Grammar_goOnIn_18 : decode bn_Grammar_goOnIn 18 = .ok (.iastore, 1) := by decide +kernel
theorem dn_Grammar_goOnIn_19 : decode bn_Grammar_goOnIn 19 = .ok (.return_, 1) := by decide +kernel
theorem dn_Grammar_hold_0 : decode bn_Grammar_hold 0 = .ok (.aload_n 0, 1) := by decide +kernel
theorem dn_Grammar_hold_1 : decode bn_Grammar_hold 1 = .ok (.getfield 51, 3) := by decide +kernel
theorem dn_Grammar_hold_4 : decode bn_Grammar_hold 4 = .ok (.sipush 1024, 3) := by decide +kernel
theorem dn_Grammar_hold_7 : decode bn_Grammar_hold 7 = .ok (.if_icmp .lt 4, 3) := by decide +kernel
theorem dn_Grammar_hold_10 : decode bn_Grammar_hold 10 = .ok (.return_, 1) := by decide +kernel
theorem dn_Grammar_hold_11 : decode bn_Grammar_hold 11 = .ok (.aload_n 0, 1) := by decide +kernel
theorem dn_Grammar_hold_12 : decode bn_Grammar_hold 12 = .ok (.getfield 15, 3) := by decide +kernel
theorem dn_Grammar_hold_15 : decode bn_Grammar_hold 15 = .ok (.aload_n 0, 1) := by decide +kernel
theorem dn_Grammar_hold_16 : decode bn_Grammar_hold 16 = .ok (.getfield 51, 3) := by decide +kernel
theorem dn_Grammar_hold_19 : decode bn_Grammar_hold 19 = .ok (.iload_n 1, 1) := by decide +kernel
theorem dn_Grammar_hold_20 : decode bn_Grammar_hold 20 = .ok (.iastore, 1) := by decide +kernel
theorem dn_Grammar_hold_21 : decode bn_Grammar_hold 21 = .ok (.aload_n 0, 1) := by decide +kernel
theorem dn_Grammar_hold_22 : decode bn_Grammar_hold 22 = .ok (.getfield 18, 3) := by decide +kernel
theorem dn_Grammar_hold_25 : decode bn_Grammar_hold 25 = .ok (.aload_n 0, 1) := by decide +kernel
theorem dn_Grammar_hold_26 : decode bn_Grammar_hold 26 = .ok (.getfield 51, 3) := by decide +kernel
theorem dn_Grammar_hold_29 : decode bn_Grammar_hold 29 = .ok (.iload_n 2, 1) := by decide +kernel
theorem dn_Grammar_hold_30 : decode bn_Grammar_hold 30 = .ok (.iastore, 1) := by decide +kernel
theorem dn_Grammar_hold_31 : decode bn_Grammar_hold 31 = .ok (.aload_n 0, 1) := by decide +kernel
theorem dn_Grammar_hold_32 : decode bn_Grammar_hold 32 = .ok (.getfield 21, 3) := by decide +kernel
theorem dn_Grammar_hold_35 : decode bn_Grammar_hold 35 = .ok (.aload_n 0, 1) := by decide +kernel
theorem dn_Grammar_hold_36 : decode bn_Grammar_hold 36 = .ok (.getfield 51, 3) := by decide +kernel
theorem dn_Grammar_hold_39 : decode bn_Grammar_hold 39 = .ok (.iload_n 3, 1) := by decide +kernel
theorem dn_Grammar_hold_40 : decode bn_Grammar_hold 40 = .ok (.iastore, 1) := by decide +kernel
theorem dn_Grammar_hold_41 : decode bn_Grammar_hold 41 = .ok (.aload_n 0, 1) := by decide +kernel
theorem dn_Grammar_hold_42 : decode bn_Grammar_hold 42 = .ok (.dup, 1) := by decide +kernel
theorem dn_Grammar_hold_43 : decode bn_Grammar_hold 43 = .ok (.getfield 51, 3) := by decide +kernel
theorem dn_Grammar_hold_46 : decode bn_Grammar_hold 46 = .ok (.iconst 1, 1) := by decide +kernel
theorem dn_Grammar_hold_47 : decode bn_Grammar_hold 47 = .ok (.iadd, 1) := by decide +kernel
theorem dn_Grammar_hold_48 : decode bn_Grammar_hold 48 = .ok (.putfield 51, 3) := by decide +kernel
theorem dn_Grammar_hold_51 : decode bn_Grammar_hold 51 = .ok (.return_, 1) := by decide +kernel
theorem dn_Grammar_ifEnd_0 : decode bn_Grammar_ifEnd 0 = .ok (.aload_n 0, 1) := by decide +kernel
theorem dn_Grammar_ifEnd_1 : decode bn_Grammar_ifEnd 1 = .ok (.getfield 24, 3) := by decide +kernel
theorem dn_Grammar_ifEnd_4 : decode bn_Grammar_ifEnd 4 = .ok (.invokevirtual 238, 3) := by decide +kernel
theorem dn_Grammar_ifEnd_7 : decode bn_Grammar_ifEnd 7 = .ok (.aload_n 0, 1) := by decide +kernel
theorem dn_Grammar_ifEnd_8 : decode bn_Grammar_ifEnd 8 = .ok (.getfield 32, 3) := by decide +kernel
theorem dn_Grammar_ifEnd_11 : decode bn_Grammar_ifEnd 11 = .ok (.invokevirtual 241, 3) := by decide +kernel
theorem dn_Grammar_ifEnd_14 : decode bn_Grammar_ifEnd 14 = .ok (.aload_n 0, 1) := by decide +kernel
theorem dn_Grammar_ifEnd_15 : decode bn_Grammar_ifEnd 15 = .ok (.dup, 1) := by decide +kernel
theorem dn_Grammar_ifEnd_16 : decode bn_Grammar_ifEnd 16 = .ok (.getfield 55, 3) := by decide +kernel
theorem dn_Grammar_ifEnd_19 : decode bn_Grammar_ifEnd 19 = .ok (.iconst 1, 1) := by decide +kernel
theorem dn_Grammar_ifEnd_20 : decode bn_Grammar_ifEnd 20 = .ok (.isub, 1) := by decide +kernel
theorem dn_Grammar_ifEnd_21 : decode bn_Grammar_ifEnd 21 = .ok (.putfield 55, 3) := by decide +kernel
theorem dn_Grammar_ifEnd_24 : decode bn_Grammar_ifEnd 24 = .ok (.return_, 1) := by decide +kernel
theorem dn_Grammar_instance_0 : decode bn_Grammar_instance 0 = .ok (.aload_n 0, 1) := by decide +kernel
theorem dn_Grammar_instance_1 : decode bn_Grammar_instance 1 = .ok (.getfield 32, 3) := by decide +kernel
theorem dn_Grammar_instance_4 : decode bn_Grammar_instance 4 = .ok (.aload_n 0, 1) := by decide +kernel
theorem dn_Grammar_instance_5 : decode bn_Grammar_instance 5 = .ok (.getfield 24, 3) := by decide +kernel
theorem dn_Grammar_instance_8 : decode bn_Grammar_instance 8 = .ok (.getfield 102, 3) := by decide +kernel
theorem dn_Grammar_instance_11 : decode bn_Grammar_instance 11 = .ok (.aload_n 0, 1) := by decide +kernel
theorem dn_Grammar_instance_12 : decode bn_Grammar_instance 12 = .ok (.getfield 24, 3) := by decide +kernel
theorem dn_Grammar_instance_15 : decode bn_Grammar_instance 15 = .ok (.getfield 105, 3) := by decide +kernel
theorem dn_Grammar_instance_18 : decode bn_Grammar_instance 18 = .ok (.invokevirtual 165, 3) := by decide +kernel
theorem dn_Grammar_instance_21 : decode bn_Grammar_instance 21 = .ok (.aload_n 0, 1) := by decide +kernel
theorem dn_Grammar_instance_22 : decode bn_Grammar_instance 22 = .ok (.getfield 24, 3) := by decide +kernel
theorem dn_Grammar_instance_25 : decode bn_Grammar_instance 25 = .ok (.invokevirtual 112, 3) := by decide +kernel
theorem dn_Grammar_instance_28 : decode bn_Grammar_instance 28 = .ok (.aload_n 0, 1) := by decide +kernel
theorem dn_Grammar_instance_29 : decode bn_Grammar_instance 29 = .ok (.getfield 24, 3) := by decide +kernel
theorem dn_Grammar_instance_32 : decode bn_Grammar_instance 32 = .ok (.iconst 2, 1) := by decide +kernel
theorem dn_Grammar_instance_33 : decode bn_Grammar_instance 33 = .ok (.invokevirtual 98, 3) := by decide +kernel
theorem dn_Grammar_instance_36 : decode bn_Grammar_instance 36 = .ok (.ifCond .eq 24, 3) := by decide +kernel
theorem dn_Grammar_instance_39 : decode bn_Grammar_instance 39 = .ok (.aload_n 0, 1) := by decide +kernel
theorem dn_Grammar_instance_40 : decode bn_Grammar_instance 40 = .ok (.getfield 32, 3) := by decide +kernel
theorem dn_Grammar_instance_43 : decode bn_Grammar_instance 43 = .ok (.aload_n 0, 1) := by decide +kernel
theorem dn_Grammar_instance_44 : decode bn_Grammar_instance 44 = .ok (.getfield 24, 3) := by decide +kernel
theorem dn_Grammar_instance_47 : decode bn_Grammar_instance 47 = .ok (.getfield 102, 3) := by decide +kernel
theorem dn_Grammar_instance_50 : decode bn_Grammar_instance 50 = .ok (.aload_n 0, 1) := by decide +kernel
theorem dn_Grammar_instance_51 : decode bn_Grammar_instance 51 = .ok (.getfield 24, 3) := by decide +kernel
theorem dn_Grammar_instance_54 : decode bn_Grammar_instance 54 = .ok (.getfield 105, 3) := by decide +kernel
theorem dn_Grammar_instance_57 : decode bn_Grammar_instance 57 = .ok (.invokevirtual 167, 3) := by decide +kernel
theorem dn_Grammar_instance_60 : decode bn_Grammar_instance 60 = .ok (.aload_n 0, 1) := by decide +kernel
theorem dn_Grammar_instance_61 : decode bn_Grammar_instance 61 = .ok (.getfield 24, 3) := by decide +kernel
theorem dn_Grammar_instance_64 : decode bn_Grammar_instance 64 = .ok (.invokevirtual 112, 3) := by decide +kernel
theorem dn_Grammar_instance_67 : decode bn_Grammar_instance 67 = .ok (.aload_n 0, 1) := by decide +kernel
theorem dn_Grammar_instance_68 : decode bn_Grammar_instance 68 = .ok (.getfield 24, 3) := by decide +kernel
theorem dn_Grammar_instance_71 : decode bn_Grammar_instance 71 = .ok (.bipush 40, 2) := by decide +kernel
theorem dn_Grammar_instance_73 : decode bn_Grammar_instance 73 = .ok (.invokevirtual 115, 3) := by decide +kernel
theorem dn_Grammar_instance_76 : decode bn_Grammar_instance 76 = .ok (.aload_n 0, 1) := by decide +kernel
theorem dn_Grammar_instance_77 : decode bn_Grammar_instance 77 = .ok (.getfield 24, 3) := by decide +kernel
theorem dn_Grammar_instance_80 : decode bn_Grammar_instance 80 = .ok (.getfield 70, 3) := by decide +kernel
theorem dn_Grammar_instance_83 : decode bn_Grammar_instance 83 = .ok (.bipush 41, 2) := by decide +kernel
theorem dn_Grammar_instance_85 : decode bn_Grammar_instance 85 = .ok (.if_icmp .ne 10, 3) := by decide +kernel
theorem dn_Grammar_instance_88 : decode bn_Grammar_instance 88 = .ok (.aload_n 0, 1) := by decide +kernel
theorem dn_Grammar_instance_89 : decode bn_Grammar_instance 89 = .ok (.invokevirtual 170, 3) := by decide +kernel
theorem dn_Grammar_instance_92 : decode bn_Grammar_instance 92 = .ok (.goto 8, 3) := by decide +kernel
theorem dn_Grammar_instance_95 : decode bn_Grammar_instance 95 = .ok (.aload_n 0, 1) := by decide +kernel
theorem dn_Grammar_instance_96 : decode bn_Grammar_instance 96 = .ok (.iconst 3, 1) := by decide +kernel
theorem dn_Grammar_instance_97 : decode bn_Grammar_instance 97 = .ok (.putfield 58, 3) := by decide +kernel
theorem dn_Grammar_instance_100 : decode bn_Grammar_instance 100 = .ok (.return_, 1) := by decide +kernel
theorem dn_Grammar_instanceEnd_0 : decode bn_Grammar_instanceEnd 0 = .ok (.aload_n 0, 1) := by decide +kernel
theorem dn_Grammar_instanceEnd_1 : decode bn_Grammar_instanceEnd 1 = .ok (.getfield 24, 3) := by decide +kernel
theorem dn_Grammar_instanceEnd_4 : decode bn_Grammar_instanceEnd 4 = .ok (.bipush 41, 2) := by decide +kernel
theorem dn_Grammar_instanceEnd_6 : decode bn_Grammar_instanceEnd 6 = .ok (.invokevirtual 121, 3) := by decide +kernel
theorem dn_Grammar_instanceEnd_9 : decode bn_Grammar_instanceEnd 9 = .ok (.aload_n 0, 1) := by decide +kernel
theorem dn_Grammar_instanceEnd_10 : decode bn_Grammar_instanceEnd 10 = .ok (.getfield 24, 3) := by decide +kernel
theorem dn_Grammar_instanceEnd_13 : decode bn_Grammar_instanceEnd 13 = .ok (.bipush 59, 2) := by decide +kernel
theorem dn_Grammar_instanceEnd_15 : decode bn_Grammar_instanceEnd 15 = .ok (.invokevirtual 94, 3) := by decide +kernel
theorem dn_Grammar_instanceEnd_18 : decode bn_Grammar_instanceEnd 18 = .ok (.aload_n 0, 1) := by decide +kernel
theorem dn_Grammar_instanceEnd_19 : decode bn_Grammar_instanceEnd 19 = .ok (.getfield 32, 3) := by decide +kernel
theorem dn_Grammar_instanceEnd_22 : decode bn_Grammar_instanceEnd 22 = .ok (.invokevirtual 173, 3) := by decide +kernel
theorem dn_Grammar_instanceEnd_25 : decode bn_Grammar_instanceEnd 25 = .ok (.aload_n 0, 1) := by decide +kernel
theorem dn_Grammar_instanceEnd_26 : decode bn_Grammar_instanceEnd 26 = .ok (.iconst 2, 1) := by decide +kernel
theorem dn_Grammar_instanceEnd_27 : decode bn_Grammar_instanceEnd 27 = .ok (.putfield 58, 3) := by decide +kernel
theorem dn_Grammar_instanceEnd_30 : decode bn_Grammar_instanceEnd 30 = .ok (.return_, 1) := by decide +kernel
theorem dn_Grammar_isUnary_0 : decode bn_Grammar_isUnary 0 = .ok (.iload_n 0, 1) := by decide +kernel
theorem dn_Grammar_isUnary_1 : decode bn_Grammar_isUnary 1 = .ok (.bipush 126, 2) := by decide +kernel
theorem dn_Grammar_isUnary_3 : decode bn_Grammar_isUnary 3 = .ok (.if_icmp .eq 33, 3) := by decide +kernel
theorem dn_Grammar_isUnary_6 : decode bn_Grammar_isUnary 6 = .ok (.iload_n 0, 1) := by decide +kernel
theorem dn_Grammar_isUnary_7 : decode bn_Grammar_isUnary 7 = .ok (.bipush 33, 2) := by decide +kernel
theorem dn_Grammar_isUnary_9 : decode bn_Grammar_isUnary 9 = .ok (.if_icmp .eq 27, 3) := by decide +kernel
theorem dn_Grammar_isUnary_12 : decode bn_Grammar_isUnary 12 = .ok (.iload_n 0, 1) := by decide +kernel
theorem dn_Grammar_isUnary_13 : decode bn_Grammar_isUnary 13 = .ok (.bipush 45, 2) := by decide +kernel
theorem dn_Grammar_isUnary_15 : decode bn_Grammar_isUnary 15 = .ok (.if_icmp .eq 21, 3) := by decide +kernel
theorem dn_Grammar_isUnary_18 : decode bn_Grammar_isUnary 18 = .ok (.iload_n 0, 1) := by decide +kernel
theorem dn_Grammar_isUnary_19 : decode bn_Grammar_isUnary 19 = .ok (.bipush 38, 2) := by decide +kernel
theorem dn_Grammar_isUnary_21 : decode bn_Grammar_isUnary 21 = .ok (.if_icmp .eq 15, 3) := by decide +kernel
theorem dn_Grammar_isUnary_24 : decode bn_Grammar_isUnary 24 = .ok (.iload_n 0, 1) := by decide +kernel
theorem dn_Grammar_isUnary_25 : decode bn_Grammar_isUnary 25 = .ok (.bipush 124, 2) := by decide +kernel
theorem dn_Grammar_isUnary_27 : decode bn_Grammar_isUnary 27 = .ok (.if_icmp .eq 9, 3) := by decide +kernel
theorem dn_Grammar_isUnary_30 : decode bn_Grammar_isUnary 30 = .ok (.iload_n 0, 1) := by decide +kernel
theorem dn_Grammar_isUnary_31 : decode bn_Grammar_isUnary 31 = .ok (.bipush 94, 2) := by decide +kernel
theorem dn_Grammar_isUnary_33 : decode bn_Grammar_isUnary 33 = .ok (.if_icmp .ne 7, 3) := by decide +kernel
theorem dn_Grammar_isUnary_36 : decode bn_Grammar_isUnary 36 = .ok (.iconst 1, 1) := by decide +kernel
theorem dn_Grammar_isUnary_37 : decode bn_Grammar_isUnary 37 = .ok (.goto 4, 3) := by decide +kernel
theorem dn_Grammar_isUnary_40 : decode bn_Grammar_isUnary 40 = .ok (.iconst 0, 1) := by decide +kernel
theorem dn_Grammar_isUnary_41 : decode bn_Grammar_isUnary 41 = .ok (.ireturn, 1) := by decide +kernel
theorem dn_Grammar_item_0 : decode bn_Grammar_item 0 = .ok (.aload_n 0, 1) := by decide +kernel
theorem dn_Grammar_item_1 : decode bn_Grammar_item 1 = .ok (.getfield 24, 3) := by decide +kernel
theorem dn_Grammar_item_4 : decode bn_Grammar_item 4 = .ok (.getfield 70, 3) := by decide +kernel
theorem dn_Grammar_item_7 : decode bn_Grammar_item 7 = .ok (.istore_n 1, 1) := by decide +kernel
theorem dn_Grammar_item_8 : decode bn_Grammar_item 8 = .ok (.iload_n 1, 1) := by decide +kernel
theorem dn_Grammar_item_9 : decode bn_Grammar_item 9 = .ok (.lookupswitch 171 #[(2, 142), (129, 149), (132, 67), (133, 67), (134, 102), (135, 109), (145, 116)], 67) := by decide +kernel
theorem dn_Grammar_item_76 : decode bn_Grammar_item 76 = .ok (.aload_n 0, 1) := by decide +kernel
theorem dn_Grammar_item_77 : decode bn_Grammar_item 77 = .ok (.getfield 24, 3) := by decide +kernel
theorem dn_Grammar_item_80 : decode bn_Grammar_item 80 = .ok (.invokevirtual 112, 3) := by decide +kernel
theorem dn_Grammar_item_83 : decode bn_Grammar_item 83 = .ok (.aload_n 0, 1) := by decide +kernel
theorem dn_Grammar_item_84 : decode bn_Grammar_item 84 = .ok (.iload_n 1, 1) := by decide +kernel
theorem dn_Grammar_item_85 : decode bn_Grammar_item 85 = .ok (.sipush 133, 3) := by decide +kernel
theorem dn_Grammar_item_88 : decode bn_Grammar_item 88 = .ok (.if_icmp .ne 7, 3) := by decide +kernel
theorem dn_Grammar_item_91 : decode bn_Grammar_item 91 = .ok (.iconst 2, 1) := by decide +kernel
theorem dn_Grammar_item_92 : decode bn_Grammar_item 92 = .ok (.goto 4, 3) := by decide +kernel
theorem dn_Grammar_item_95 : decode bn_Grammar_item 95 = .ok (.iconst 1, 1) := by decide +kernel
theorem dn_Grammar_item_96 : decode bn_Grammar_item 96 = .ok (.invokevirtual 127, 3) := by decide +kernel
theorem dn_Grammar_item_99 : decode bn_Grammar_item 99 = .ok (.aload_n 0, 1) := by decide +kernel
theorem dn_Grammar_item_100 : decode bn_Grammar_item 100 = .ok (.getfield 24, 3) := by decide +kernel
theorem dn_Grammar_item_103 : decode bn_Grammar_item 103 = .ok (.bipush 59, 2) := by decide +kernel
theorem dn_Grammar_item_105 : decode bn_Grammar_item 105 = .ok (.invokevirtual 94, 3) := by decide +kernel
theorem dn_Grammar_item_108 : decode bn_Grammar_item 108 = .ok (.goto 79, 3) := by decide +kernel
theorem dn_Grammar_item_111 : decode bn_Grammar_item 111 = .ok (.aload_n 0, 1) := by decide +kernel
theorem dn_Grammar_item_112 : decode bn_Grammar_item 112 = .ok (.invokevirtual 140, 3) := by decide +kernel
theorem dn_Grammar_item_115 : decode bn_Grammar_item 115 = .ok (.goto 72, 3) := by decide +kernel
theorem dn_Grammar_item_118 : decode bn_Grammar_item 118 = .ok (.aload_n 0, 1) := by decide +kernel
theorem dn_Grammar_item_119 : decode bn_Grammar_item 119 = .ok (.invokevirtual 143, 3) := by decide +kernel
theorem dn_Grammar_item_122 : decode bn_Grammar_item 122 = .ok (.goto 65, 3) := by decide +kernel
theorem dn_Grammar_item_125 : decode bn_Grammar_item 125 = .ok (.aload_n 0, 1) := by decide +kernel
theorem dn_Grammar_item_126 : decode bn_Grammar_item 126 = .ok (.getfield 24, 3) := by decide +kernel
theorem dn_Grammar_item_129 : decode bn_Grammar_item 129 = .ok (.invokevirtual 112, 3) := by decide +kernel
theorem dn_Grammar_item_132 : decode bn_Grammar_item 132 = .ok (.aload_n 0, 1) := by decide +kernel
theorem dn_Grammar_item_133 : decode bn_Grammar_item 133 = .ok (.getfield 24, 3) := by decide +kernel
theorem dn_Grammar_item_136 : decode bn_Grammar_item 136 = .ok (.bipush 40, 2) := by decide +kernel
theorem dn_Grammar_item_138 : decode bn_Grammar_item 138 = .ok (.invokevirtual 115, 3) := by decide +kernel
theorem dn_Grammar_item_141 : decode bn_Grammar_item 141 = .ok (.aload_n 0, 1) := by decide +kernel
theorem dn_Grammar_item_142 : decode bn_Grammar_item 142 = .ok (.sipush 145, 3) := by decide +kernel
theorem dn_Grammar_item_145 : decode bn_Grammar_item 145 = .ok (.invokevirtual 146, 3) := by decide +kernel
theorem dn_Grammar_item_148 : decode bn_Grammar_item 148 = .ok (.goto 39, 3) := by decide +kernel
theorem dn_Grammar_item_151 : decode bn_Grammar_item 151 = .ok (.aload_n 0, 1) := by decide +kernel
theorem dn_Grammar_item_152 : decode bn_Grammar_item 152 = .ok (.invokevirtual 149, 3) := by decide +kernel
theorem dn_Grammar_item_155 : decode bn_Grammar_item 155 = .ok (.goto 32, 3) := by decide +kernel
theorem dn_Grammar_item_158 : decode bn_Grammar_item 158 = .ok (.aload_n 0, 1) := by decide +kernel
theorem dn_Grammar_item_159 : decode bn_Grammar_item 159 = .ok (.getfield 32, 3) := by decide +kernel
theorem dn_Grammar_item_162 : decode bn_Grammar_item 162 = .ok (.invokevirtual 152, 3) := by decide +kernel
theorem dn_Grammar_item_165 : decode bn_Grammar_item 165 = .ok (.aload_n 0, 1) := by decide +kernel
theorem dn_Grammar_item_166 : decode bn_Grammar_item 166 = .ok (.getfield 24, 3) := by decide +kernel
theorem dn_Grammar_item_169 : decode bn_Grammar_item 169 = .ok (.invokevirtual 112, 3) := by decide +kernel
theorem dn_Grammar_item_172 : decode bn_Grammar_item 172 = .ok (.aload_n 0, 1) := by decide +kernel
theorem dn_Grammar_item_173 : decode bn_Grammar_item 173 = .ok (.iconst 1, 1) := by decide +kernel
theorem dn_Grammar_item_174 : decode bn_Grammar_item 174 = .ok (.putfield 58, 3) := by decide +kernel
theorem dn_Grammar_item_177 : decode bn_Grammar_item 177 = .ok (.goto 10, 3) := by decide +kernel
theorem dn_Grammar_item_180 : decode bn_Grammar_item 180 = .ok (.aload_n 0, 1) := by decide +kernel
theorem dn_Grammar_item_181 : decode bn_Grammar_item 181 = .ok (.getfield 24, 3) := by decide +kernel
theorem dn_Grammar_item_184 : decode bn_Grammar_item 184 = .ok (.invokevirtual 155, 3) := by decide +kernel
theorem dn_Grammar_item_187 : decode bn_Grammar_item 187 = .ok (.return_, 1) := by decide +kernel
theorem dn_Grammar_link_0 : decode bn_Grammar_link 0 = .ok (.aload_n 0, 1) := by decide +kernel
theorem dn_Grammar_link_1 : decode bn_Grammar_link 1 = .ok (.aload_n 0, 1) := by decide +kernel
theorem dn_Grammar_link_2 : decode bn_Grammar_link 2 = .ok (.getfield 24, 3) := by decide +kernel
theorem dn_Grammar_link_5 : decode bn_Grammar_link 5 = .ok (.getfield 105, 3) := by decide +kernel
theorem dn_Grammar_link_8 : decode bn_Grammar_link 8 = .ok (.putfield 174, 3) := by decide +kernel
theorem dn_Grammar_link_11 : decode bn_Grammar_link 11 = .ok (.aload_n 0, 1) := by decide +kernel
theorem dn_Grammar_link_12 : decode bn_Grammar_link 12 = .ok (.getfield 24, 3) := by decide +kernel
theorem dn_Grammar_link_15 : decode bn_Grammar_link 15 = .ok (.bipush 46, 2) := by decide +kernel
theorem dn_Grammar_link_17 : decode bn_Grammar_link 17 = .ok (.invokevirtual 94, 3) := by decide +kernel
theorem dn_Grammar_link_20 : decode bn_Grammar_link 20 = .ok (.aload_n 0, 1) := by decide +kernel
theorem dn_Grammar_link_21 : decode bn_Grammar_link 21 = .ok (.getfield 24, 3) := by decide +kernel
theorem dn_Grammar_link_24 : decode bn_Grammar_link 24 = .ok (.iconst 2, 1) := by decide +kernel
theorem dn_Grammar_link_25 : decode bn_Grammar_link 25 = .ok (.invokevirtual 98, 3) := by decide +kernel
theorem dn_Grammar_link_28 : decode bn_Grammar_link 28 = .ok (.ifCond .eq 24, 3) := by decide +kernel
theorem dn_Grammar_link_31 : decode bn_Grammar_link 31 = .ok (.aload_n 0, 1) := by decide +kernel
theorem dn_Grammar_link_32 : decode bn_Grammar_link 32 = .ok (.getfield 32, 3) := by decide +kernel
theorem dn_Grammar_link_35 : decode bn_Grammar_link 35 = .ok (.aload_n 0, 1) := by decide +kernel
theorem dn_Grammar_link_36 : decode bn_Grammar_link 36 = .ok (.getfield 24, 3) := by decide +kernel
theorem dn_Grammar_link_39 : decode bn_Grammar_link 39 = .ok (.getfield 102, 3) := by decide +kernel
theorem dn_Grammar_link_42 : decode bn_Grammar_link 42 = .ok (.aload_n 0, 1) := by decide +kernel
theorem dn_Grammar_link_43 : decode bn_Grammar_link 43 = .ok (.getfield 24, 3) := by decide +kernel
theorem dn_Grammar_link_46 : decode bn_Grammar_link 46 = .ok (.getfield 105, 3) := by decide +kernel
theorem dn_Grammar_link_49 : decode bn_Grammar_link 49 = .ok (.invokevirtual 177, 3) := by decide +kernel
theorem dn_Grammar_link_52 : decode bn_Grammar_link 52 = .ok (.aload_n 0, 1) := by decide +kernel
theorem dn_Grammar_link_53 : decode bn_Grammar_link 53 = .ok (.getfield 24, 3) := by decide +kernel
theorem dn_Grammar_link_56 : decode bn_Grammar_link 56 = .ok (.invokevirtual 112, 3) := by decide +kernel
theorem dn_Grammar_link_59 : decode bn_Grammar_link 59 = .ok (.aload_n 0, 1) := by decide +kernel
theorem dn_Grammar_link_60 : decode bn_Grammar_link 60 = .ok (.getfield 24, 3) := by decide +kernel
theorem dn_Grammar_link_63 : decode bn_Grammar_link 63 = .ok (.bipush 40, 2) := by decide +kernel
theorem dn_Grammar_link_65 : decode bn_Grammar_link 65 = .ok (.invokevirtual 115, 3) := by decide +kernel
theorem dn_Grammar_link_68 : decode bn_Grammar_link 68 = .ok (.aload_n 0, 1) := by decide +kernel
theorem dn_Grammar_link_69 : decode bn_Grammar_link 69 = .ok (.sipush 200, 3) := by decide +kernel
theorem dn_Grammar_link_72 : decode bn_Grammar_link 72 = .ok (.invokevirtual 146, 3) := by decide +kernel
theorem dn_Grammar_link_75 : decode bn_Grammar_link 75 = .ok (.return_, 1) := by decide +kernel
theorem dn_Grammar_linkEnd_0 : decode bn_Grammar_linkEnd 0 = .ok (.aload_n 0, 1) := by decide +kernel
theorem dn_Grammar_linkEnd_1 : decode bn_Grammar_linkEnd 1 = .ok (.getfield 24, 3) := by decide +kernel
theorem dn_Grammar_linkEnd_4 : decode bn_Grammar_linkEnd 4 = .ok (.getfield 180, 3) := by decide +kernel
theorem dn_Grammar_linkEnd_7 : decode bn_Grammar_linkEnd 7 = .ok (.aload_n 0, 1) := by decide +kernel
theorem dn_Grammar_linkEnd_8 : decode bn_Grammar_linkEnd 8 = .ok (.getfield 183, 3) := by decide +kernel
theorem dn_Grammar_linkEnd_11 : decode bn_Grammar_linkEnd 11 = .ok (.iconst 1, 1) := by decide +kernel
theorem dn_Grammar_linkEnd_12 : decode bn_Grammar_linkEnd 12 = .ok (.iadd, 1) := by decide +kernel
theorem dn_Grammar_linkEnd_13 : decode bn_Grammar_linkEnd 13 = .ok (.if_icmp .ne 22, 3) := by decide +kernel
theorem dn_Grammar_linkEnd_16 : decode bn_Grammar_linkEnd 16 = .ok (.aload_n 0, 1) := by decide +kernel
theorem dn_Grammar_linkEnd_17 : decode bn_Grammar_linkEnd 17 = .ok (.getfield 24, 3) := by decide +kernel
theorem dn_Grammar_linkEnd_20 : decode bn_Grammar_linkEnd 20 = .ok (.aload_n 0, 1) := by decide +kernel
theorem dn_Grammar_linkEnd_21 : decode bn_Grammar_linkEnd 21 = .ok (.getfield 183, 3) := by decide +kernel
theorem dn_Grammar_linkEnd_24 : decode bn_Grammar_linkEnd 24 = .ok (.invokevirtual 186, 3) := by decide +kernel
theorem dn_Grammar_linkEnd_27 : decode bn_Grammar_linkEnd 27 = .ok (.iconst 2, 1) := by decide +kernel
theorem dn_Grammar_linkEnd_28 : decode bn_Grammar_linkEnd 28 = .ok (.if_icmp .ne 7, 3) := by decide +kernel
theorem dn_Grammar_linkEnd_31 : decode bn_Grammar_linkEnd 31 = .ok (.iconst 1, 1) := by decide +kernel
theorem dn_Grammar_linkEnd_32 : decode bn_Grammar_linkEnd 32 = .ok (.goto 4, 3) := by decide +kernel
theorem dn_Grammar_linkEnd_35 : decode bn_Grammar_linkEnd 35 = .ok (.iconst 0, 1) := by decide +kernel
theorem dn_Grammar_linkEnd_36 : decode bn_Grammar_linkEnd 36 = .ok (.istore_n 1, 1) := by decide +kernel
theorem dn_Grammar_linkEnd_37 : decode bn_Grammar_linkEnd 37 = .ok (.aload_n 0, 1) := by decide +kernel
theorem dn_Grammar_linkEnd_38 : decode bn_Grammar_linkEnd 38 = .ok (.getfield 24, 3) := by decide +kernel
theorem dn_Grammar_linkEnd_41 : decode bn_Grammar_linkEnd 41 = .ok (.bipush 41, 2) := by decide +kernel
theorem dn_Grammar_linkEnd_43 : decode bn_Grammar_linkEnd 43 = .ok (.invokevirtual 121, 3) := by decide +kernel
theorem dn_Grammar_linkEnd_46 : decode bn_Grammar_linkEnd 46 = .ok (.aload_n 0, 1) := by decide +kernel
theorem dn_Grammar_linkEnd_47 : decode bn_Grammar_linkEnd 47 = .ok (.getfield 32, 3) := by decide +kernel
theorem dn_Grammar_linkEnd_50 : decode bn_Grammar_linkEnd 50 = .ok (.aload_n 0, 1) := by decide +kernel
theorem dn_Grammar_linkEnd_51 : decode bn_Grammar_linkEnd 51 = .ok (.getfield 174, 3) := by decide +kernel
theorem dn_Grammar_linkEnd_54 : decode bn_Grammar_linkEnd 54 = .ok (.aload_n 0, 1) := by decide +kernel
theorem dn_Grammar_linkEnd_55 : decode bn_Grammar_linkEnd 55 = .ok (.getfield 190, 3) := by decide +kernel
theorem dn_Grammar_linkEnd_58 : decode bn_Grammar_linkEnd 58 = .ok (.iload_n 1, 1) := by decide +kernel
theorem dn_Grammar_linkEnd_59 : decode bn_Grammar_linkEnd 59 = .ok (.ifCond .eq 17, 3) := by decide +kernel
theorem dn_Grammar_linkEnd_62 : decode bn_Grammar_linkEnd 62 = .ok (.aload_n 0, 1) := by decide +kernel
theorem dn_Grammar_linkEnd_63 : decode bn_Grammar_linkEnd 63 = .ok (.getfield 24, 3) := by decide +kernel
theorem dn_Grammar_linkEnd_66 : decode bn_Grammar_linkEnd 66 = .ok (.aload_n 0, 1) := by decide +kernel
theorem dn_Grammar_linkEnd_67 : decode bn_Grammar_linkEnd 67 = .ok (.getfield 183, 3) := by decide +kernel
theorem dn_Grammar_linkEnd_70 : decode bn_Grammar_linkEnd 70 = .ok (.invokevirtual 193, 3) := by decide +kernel
theorem dn_Grammar_linkEnd_73 : decode bn_Grammar_linkEnd 73 = .ok (.goto 4, 3) := by decide +kernel
theorem dn_Grammar_linkEnd_76 : decode bn_Grammar_linkEnd 76 = .ok (.iconst (-1), 1) := by decide +kernel
theorem dn_Grammar_linkEnd_77 : decode bn_Grammar_linkEnd 77 = .ok (.invokevirtual 196, 3) := by decide +kernel
theorem dn_Grammar_linkEnd_80 : decode bn_Grammar_linkEnd 80 = .ok (.aload_n 0, 1) := by decide +kernel
theorem dn_Grammar_linkEnd_81 : decode bn_Grammar_linkEnd 81 = .ok (.getfield 24, 3) := by decide +kernel
theorem dn_Grammar_linkEnd_84 : decode bn_Grammar_linkEnd 84 = .ok (.getfield 70, 3) := by decide +kernel
theorem dn_Grammar_linkEnd_87 : decode bn_Grammar_linkEnd 87 = .ok (.bipush 44, 2) := by decide +kernel
theorem dn_Grammar_linkEnd_89 : decode bn_Grammar_linkEnd 89 = .ok (.if_icmp .ne 18, 3) := by decide +kernel
theorem dn_Grammar_linkEnd_92 : decode bn_Grammar_linkEnd 92 = .ok (.aload_n 0, 1) := by decide +kernel
theorem dn_Grammar_linkEnd_93 : decode bn_Grammar_linkEnd 93 = .ok (.getfield 24, 3) := by decide +kernel
theorem dn_Grammar_linkEnd_96 : decode bn_Grammar_linkEnd 96 = .ok (.invokevirtual 112, 3) := by decide +kernel
theorem dn_Grammar_linkEnd_99 : decode bn_Grammar_linkEnd 99 = .ok (.aload_n 0, 1) := by decide +kernel
theorem dn_Grammar_linkEnd_100 : decode bn_Grammar_linkEnd 100 = .ok (.iconst 3, 1) := by decide +kernel
theorem dn_Grammar_linkEnd_101 : decode bn_Grammar_linkEnd 101 = .ok (.putfield 58, 3) := by decide +kernel
theorem dn_Grammar_linkEnd_104 : decode bn_Grammar_linkEnd 104 = .ok (.goto 7, 3) := by decide +kernel
theorem dn_Grammar_linkEnd_107 : decode bn_Grammar_linkEnd 107 = .ok (.aload_n 0, 1) := by decide +kernel
theorem dn_Grammar_linkEnd_108 : decode bn_Grammar_linkEnd 108 = .ok (.invokevirtual 170, 3) := by decide +kernel
theorem dn_Grammar_linkEnd_111 : decode bn_Grammar_linkEnd 111 = .ok (.return_, 1) := by decide +kernel
theorem dn_Grammar_moduleHead_0 : decode bn_Grammar_moduleHead 0 = .ok (.aload_n 0, 1) := by decide +kernel
theorem dn_Grammar_moduleHead_1 : decode bn_Grammar_moduleHead 1 = .ok (.getfield 24, 3) := by decide +kernel
theorem dn_Grammar_moduleHead_4 : decode bn_Grammar_moduleHead 4 = .ok (.sipush 128, 3) := by decide +kernel
theorem dn_Grammar_moduleHead_7 : decode bn_Grammar_moduleHead 7 = .ok (.invokevirtual 94, 3) := by decide +kernel
theorem dn_Grammar_moduleHead_10 : decode bn_Grammar_moduleHead 10 = .ok (.aload_n 0, 1) := by decide +kernel
theorem dn_Grammar_moduleHead_11 : decode bn_Grammar_moduleHead 11 = .ok (.getfield 24, 3) := by decide +kernel
theorem dn_Grammar_moduleHead_14 : decode bn_Grammar_moduleHead 14 = .ok (.iconst 2, 1) := by decide +kernel
theorem dn_Grammar_moduleHead_15 : decode bn_Grammar_moduleHead 15 = .ok (.invokevirtual 98, 3) := by decide +kernel
theorem dn_Grammar_moduleHead_18 : decode bn_Grammar_moduleHead 18 = .ok (.ifCond .eq 24, 3) := by decide +kernel
theorem dn_Grammar_moduleHead_21 : decode bn_Grammar_moduleHead 21 = .ok (.aload_n 0, 1) := by decide +kernel
theorem dn_Grammar_moduleHead_22 : decode bn_Grammar_moduleHead 22 = .ok (.getfield 32, 3) := by decide +kernel
theorem dn_Grammar_moduleHead_25 : decode bn_Grammar_moduleHead 25 = .ok (.aload_n 0, 1) := by decide +kernel
theorem dn_Grammar_moduleHead_26 : decode bn_Grammar_moduleHead 26 = .ok (.getfield 24, 3) := by decide +kernel
theorem dn_Grammar_moduleHead_29 : decode bn_Grammar_moduleHead 29 = .ok (.getfield 102, 3) := by decide +kernel
theorem dn_Grammar_moduleHead_32 : decode bn_Grammar_moduleHead 32 = .ok (.aload_n 0, 1) := by decide +kernel
theorem dn_Grammar_moduleHead_33 : decode bn_Grammar_moduleHead 33 = .ok (.getfield 24, 3) := by decide +kernel
theorem dn_Grammar_moduleHead_36 : decode bn_Grammar_moduleHead 36 = .ok (.getfield 105, 3) := by decide +kernel
theorem dn_Grammar_moduleHead_39 : decode bn_Grammar_moduleHead 39 = .ok (.invokevirtual 108, 3) := by decide +kernel
theorem dn_Grammar_moduleHead_42 : decode bn_Grammar_moduleHead 42 = .ok (.aload_n 0, 1) := by decide +kernel
theorem dn_Grammar_moduleHead_43 : decode bn_Grammar_moduleHead 43 = .ok (.getfield 24, 3) := by decide +kernel
theorem dn_Grammar_moduleHead_46 : decode bn_Grammar_moduleHead 46 = .ok (.invokevirtual 112, 3) := by decide +kernel
theorem dn_Grammar_moduleHead_49 : decode bn_Grammar_moduleHead 49 = .ok (.aload_n 0, 1) := by decide +kernel
theorem dn_Grammar_moduleHead_50 : decode bn_Grammar_moduleHead 50 = .ok (.getfield 24, 3) := by decide +kernel
theorem dn_Grammar_moduleHead_53 : decode bn_Grammar_moduleHead 53 = .ok (.bipush 40, 2) := by decide +kernel
theorem dn_Grammar_moduleHead_55 : decode bn_Grammar_moduleHead 55 = .ok (.invokevirtual 115, 3) := by decide +kernel
theorem dn_Grammar_moduleHead_58 : decode bn_Grammar_moduleHead 58 = .ok (.aload_n 0, 1) := by decide +kernel
theorem dn_Grammar_moduleHead_59 : decode bn_Grammar_moduleHead 59 = .ok (.getfield 24, 3) := by decide +kernel
theorem dn_Grammar_moduleHead_62 : decode bn_Grammar_moduleHead 62 = .ok (.getfield 70, 3) := by decide +kernel
theorem dn_Grammar_moduleHead_65 : decode bn_Grammar_moduleHead 65 = .ok (.bipush 41, 2) := by decide +kernel
theorem dn_Grammar_moduleHead_67 : decode bn_Grammar_moduleHead 67 = .ok (.if_icmp .eq 49, 3) := by decide +kernel
theorem dn_Grammar_moduleHead_70 : decode bn_Grammar_moduleHead 70 = .ok (.aload_n 0, 1) := by decide +kernel
theorem dn_Grammar_moduleHead_71 : decode bn_Grammar_moduleHead 71 = .ok (.invokevirtual 118, 3) := by decide +kernel
theorem dn_Grammar_moduleHead_74 : decode bn_Grammar_moduleHead 74 = .ok (.iconst 0, 1) := by decide +kernel
theorem dn_Grammar_moduleHead_75 : decode bn_Grammar_moduleHead 75 = .ok (.istore_n 1, 1) := by decide +kernel
theorem dn_Grammar_moduleHead_76 : decode bn_Grammar_moduleHead 76 = .ok (.iload_n 1, 1) := by decide +kernel
theorem dn_Grammar_moduleHead_77 : decode bn_Grammar_moduleHead 77 = .ok (.aload_n 0, 1) := by decide +kernel
theorem dn_Grammar_moduleHead_78 : decode bn_Grammar_moduleHead 78 = .ok (.getfield 24, 3) := by decide +kernel
theorem dn_Grammar_moduleHead_81 : decode bn_Grammar_moduleHead 81 = .ok (.getfield 61, 3) := by decide +kernel
theorem dn_Grammar_moduleHead_84 : decode bn_Grammar_moduleHead 84 = .ok (.if_icmp .ge 32, 3) := by decide +kernel
theorem dn_Grammar_moduleHead_87 : decode bn_Grammar_moduleHead 87 = .ok (.aload_n 0, 1) := by decide +kernel
theorem dn_Grammar_moduleHead_88 : decode bn_Grammar_moduleHead 88 = .ok (.getfield 24, 3) := by decide +kernel
theorem dn_Grammar_moduleHead_91 : decode bn_Grammar_moduleHead 91 = .ok (.getfield 70, 3) := by decide +kernel
theorem dn_Grammar_moduleHead_94 : decode bn_Grammar_moduleHead 94 = .ok (.bipush 44, 2) := by decide +kernel
theorem dn_Grammar_moduleHead_96 : decode bn_Grammar_moduleHead 96 = .ok (.if_icmp .ne 20, 3) := by decide +kernel
theorem dn_Grammar_moduleHead_99 : decode bn_Grammar_moduleHead 99 = .ok (.aload_n 0, 1) := by decide +kernel
theorem dn_Grammar_moduleHead_100 : decode bn_Grammar_moduleHead 100 = .ok (.getfield 24, 3) := by decide +kernel
theorem dn_Grammar_moduleHead_103 : decode bn_Grammar_moduleHead 103 = .ok (.invokevirtual 112, 3) := by decide +kernel
theorem dn_Grammar_moduleHead_106 : decode bn_Grammar_moduleHead 106 = .ok (.aload_n 0, 1) := by decide +kernel
theorem dn_Grammar_moduleHead_107 : decode bn_Grammar_moduleHead 107 = .ok (.invokevirtual 118, 3) := by decide +kernel
theorem dn_Grammar_moduleHead_110 : decode bn_Grammar_moduleHead 110 = .ok (.iinc 1 1, 3) := by decide +kernel
theorem dn_Grammar_moduleHead_113 : decode bn_Grammar_moduleHead 113 = .ok (.goto (-37), 3) := by decide +kernel
theorem dn_Grammar_moduleHead_116 : decode bn_Grammar_moduleHead 116 = .ok (.aload_n 0, 1) := by decide +kernel
theorem dn_Grammar_moduleHead_117 : decode bn_Grammar_moduleHead 117 = .ok (.getfield 24, 3) := by decide +kernel
theorem dn_Grammar_moduleHead_120 : decode bn_Grammar_moduleHead 120 = .ok (.bipush 41, 2) := by decide +kernel
theorem dn_Grammar_moduleHead_122 : decode bn_Grammar_moduleHead 122 = .ok (.invokevirtual 121, 3) := by decide +kernel
theorem dn_Grammar_moduleHead_125 : decode bn_Grammar_moduleHead 125 = .ok (.aload_n 0, 1) := by decide +kernel
theorem dn_Grammar_moduleHead_126 : decode bn_Grammar_moduleHead 126 = .ok (.getfield 24, 3) := by decide +kernel
theorem dn_Grammar_moduleHead_129 : decode bn_Grammar_moduleHead 129 = .ok (.bipush 59, 2) := by decide +kernel
theorem dn_Grammar_moduleHead_131 : decode bn_Grammar_moduleHead 131 = .ok (.invokevirtual 94, 3) := by decide +kernel
theorem dn_Grammar_moduleHead_134 : decode bn_Grammar_moduleHead 134 = .ok (.aload_n 0, 1) := by decide +kernel
theorem dn_Grammar_moduleHead_135 : decode bn_Grammar_moduleHead 135 = .ok (.getfield 32, 3) := by decide +kernel
theorem dn_Grammar_moduleHead_138 : decode bn_Grammar_moduleHead 138 = .ok (.invokevirtual 124, 3) := by decide +kernel
theorem dn_Grammar_moduleHead_141 : decode bn_Grammar_moduleHead 141 = .ok (.aload_n 0, 1) := by decide +kernel
theorem dn_Grammar_moduleHead_142 : decode bn_Grammar_moduleHead 142 = .ok (.iconst 2, 1) := by decide +kernel
theorem dn_Grammar_moduleHead_143 : decode bn_Grammar_moduleHead 143 = .ok (.putfield 58, 3) := by decide +kernel
theorem dn_Grammar_moduleHead_146 : decode bn_Grammar_moduleHead 146 = .ok (.return_, 1) := by decide +kernel
theorem dn_Grammar_named_0 : decode bn_Grammar_named 0 = .ok (.aload_n 0, 1) := by decide +kernel
theorem dn_Grammar_named_1 : decode bn_Grammar_named 1 = .ok (.getfield 28, 3) := by decide +kernel
theorem dn_Grammar_named_4 : decode bn_Grammar_named 4 = .ok (.aload_n 0, 1) := by decide +kernel
theorem dn_Grammar_named_5 : decode bn_Grammar_named 5 = .ok (.getfield 24, 3) := by decide +kernel
theorem dn_Grammar_named_8 : decode bn_Grammar_named 8 = .ok (.getfield 102, 3) := by decide +kernel
theorem dn_Grammar_named_11 : decode bn_Grammar_named 11 = .ok (.aload_n 0, 1) := by decide +kernel
theorem dn_Grammar_named_12 : decode bn_Grammar_named 12 = .ok (.getfield 24, 3) := by decide +kernel
theorem dn_Grammar_named_15 : decode bn_Grammar_named 15 = .ok (.getfield 105, 3) := by decide +kernel
theorem dn_Grammar_named_18 : decode bn_Grammar_named 18 = .ok (.invokevirtual 291, 3) := by decide +kernel
theorem dn_Grammar_named_21 : decode bn_Grammar_named 21 = .ok (.aload_n 0, 1) := by decide +kernel
theorem dn_Grammar_named_22 : decode bn_Grammar_named 22 = .ok (.getfield 24, 3) := by decide +kernel
theorem dn_Grammar_named_25 : decode bn_Grammar_named 25 = .ok (.invokevirtual 112, 3) := by decide +kernel
theorem dn_Grammar_named_28 : decode bn_Grammar_named 28 = .ok (.aload_n 0, 1) := by decide +kernel
theorem dn_Grammar_named_29 : decode bn_Grammar_named 29 = .ok (.getfield 24, 3) := by decide +kernel
theorem dn_Grammar_named_32 : decode bn_Grammar_named 32 = .ok (.getfield 105, 3) := by decide +kernel
theorem dn_Grammar_named_35 : decode bn_Grammar_named 35 = .ok (.istore_n 1, 1) := by decide +kernel
theorem dn_Grammar_named_36 : decode bn_Grammar_named 36 = .ok (.aload_n 0, 1) := by decide +kernel
theorem dn_Grammar_named_37 : decode bn_Grammar_named 37 = .ok (.getfield 24, 3) := by decide +kernel
theorem dn_Grammar_named_40 : decode bn_Grammar_named 40 = .ok (.getfield 70, 3) := by decide +kernel
theorem dn_Grammar_named_43 : decode bn_Grammar_named 43 = .ok (.bipush 91, 2) := by decide +kernel
theorem dn_Grammar_named_45 : decode bn_Grammar_named 45 = .ok (.if_icmp .eq 10, 3) := by decide +kernel
theorem dn_Grammar_named_48 : decode bn_Grammar_named 48 = .ok (.aload_n 0, 1) := by decide +kernel
theorem dn_Grammar_named_49 : decode bn_Grammar_named 49 = .ok (.bipush 7, 2) := by decide +kernel
theorem dn_Grammar_named_51 : decode bn_Grammar_named 51 = .ok (.putfield 58, 3) := by decide +kernel
theorem dn_Grammar_named_54 : decode bn_Grammar_named 54 = .ok (.return_, 1) := by decide +kernel
theorem dn_Grammar_named_55 : decode bn_Grammar_named 55 = .ok (.aload_n 0, 1) := by decide +kernel
theorem dn_Grammar_named_56 : decode bn_Grammar_named 56 = .ok (.getfield 24, 3) := by decide +kernel
theorem dn_Grammar_named_59 : decode bn_Grammar_named 59 = .ok (.bipush 91, 2) := by decide +kernel
theorem dn_Grammar_named_61 : decode bn_Grammar_named 61 = .ok (.invokevirtual 115, 3) := by decide +kernel
theorem dn_Grammar_named_64 : decode bn_Grammar_named 64 = .ok (.aload_n 0, 1) := by decide +kernel
theorem dn_Grammar_named_65 : decode bn_Grammar_named 65 = .ok (.getfield 24, 3) := by decide +kernel
theorem dn_Grammar_named_68 : decode bn_Grammar_named 68 = .ok (.getfield 70, 3) := by decide +kernel
theorem dn_Grammar_named_71 : decode bn_Grammar_named 71 = .ok (.iconst 3, 1) := by decide +kernel
theorem dn_Grammar_named_72 : decode bn_Grammar_named 72 = .ok (.if_icmp .ne 24, 3) := by decide +kernel
theorem dn_Grammar_named_75 : decode bn_Grammar_named 75 = .ok (.aload_n 0, 1) := by decide +kernel
theorem dn_Grammar_named_76 : decode bn_Grammar_named 76 = .ok (.getfield 28, 3) := by decide +kernel
theorem dn_Grammar_named_79 : decode bn_Grammar_named 79 = .ok (.aload_n 0, 1) := by decide +kernel
theorem dn_Grammar_named_80 : decode bn_Grammar_named 80 = .ok (.invokevirtual 208, 3) := by decide +kernel
theorem dn_Grammar_named_83 : decode bn_Grammar_named 83 = .ok (.iload_n 1, 1) := by decide +kernel
theorem dn_Grammar_named_84 : decode bn_Grammar_named 84 = .ok (.invokevirtual 294, 3) := by decide +kernel
theorem dn_Grammar_named_87 : decode bn_Grammar_named 87 = .ok (.aload_n 0, 1) := by decide +kernel
theorem dn_Grammar_named_88 : decode bn_Grammar_named 88 = .ok (.bipush 7, 2) := by decide +kernel
theorem dn_Grammar_named_90 : decode bn_Grammar_named 90 = .ok (.putfield 58, 3) := by decide +kernel
theorem dn_Grammar_named_93 : decode bn_Grammar_named 93 = .ok (.goto 11, 3) := by decide +kernel
theorem dn_Grammar_named_96 : decode bn_Grammar_named 96 = .ok (.aload_n 0, 1) := by decide +kernel
theorem dn_Grammar_named_97 : decode bn_Grammar_named 97 = .ok (.bipush 91, 2) := by decide +kernel
theorem dn_Grammar_named_99 : decode bn_Grammar_named 99 = .ok (.iload_n 1, 1) := by decide +kernel
theorem dn_Grammar_named_100 : decode bn_Grammar_named 100 = .ok (.iconst 0, 1) := by decide +kernel
theorem dn_Grammar_named_101 : decode bn_Grammar_named 101 = .ok (.invokevirtual 276, 3) := by decide +kernel
theorem dn_Grammar_named_104 : decode bn_Grammar_named 104 = .ok (.return_, 1) := by decide +kernel
theorem dn_Grammar_operand_0 : decode bn_Grammar_operand 0 = .ok (.aload_n 0, 1) := by decide +kernel
theorem dn_Grammar_operand_1 : decode bn_Grammar_operand 1 = .ok (.getfield 24, 3) := by decide +kernel
theorem dn_Grammar_operand_4 : decode bn_Grammar_operand 4 = .ok (.getfield 70, 3) := by decide +kernel
theorem dn_Grammar_operand_7 : decode bn_Grammar_operand 7 = .ok (.lookupswitch 166 #[(2, 159), (4, 129), (33, 89), (38, 89), (40, 96), (45, 89), (94, 89), (123, 122), (124, 89), (126, 89)], 89) := by decide +kernel
theorem dn_Grammar_operand_96 : decode bn_Grammar_operand 96 = .ok (.aload_n 0, 1) := by decide +kernel
theorem dn_Grammar_operand_97 : decode bn_Grammar_operand 97 = .ok (.invokevirtual 273, 3) := by decide +kernel
theorem dn_Grammar_operand_100 : decode bn_Grammar_operand 100 = .ok (.goto 80, 3) := by decide +kernel
theorem dn_Grammar_operand_103 : decode bn_Grammar_operand 103 = .ok (.aload_n 0, 1) := by decide +kernel
theorem dn_Grammar_operand_104 : decode bn_Grammar_operand 104 = .ok (.bipush 40, 2) := by decide +kernel
theorem dn_Grammar_operand_106 : decode bn_Grammar_operand 106 = .ok (.aload_n 0, 1) := by decide +kernel
theorem dn_Grammar_operand_107 : decode bn_Grammar_operand 107 = .ok (.getfield 24, 3) := by decide +kernel
theorem dn_Grammar_operand_110 : decode bn_Grammar_operand 110 = .ok (.getfield 105, 3) := by decide +kernel
theorem dn_Grammar_operand_113 : decode bn_Grammar_operand 113 = .ok (.iconst 0, 1) := by decide +kernel
theorem dn_Grammar_operand_114 : decode bn_Grammar_operand 114 = .ok (.invokevirtual 276, 3) := by decide +kernel
theorem dn_Grammar_operand_117 : decode bn_Grammar_operand 117 = .ok (.aload_n 0, 1) := by decide +kernel
theorem dn_Grammar_operand_118 : decode bn_Grammar_operand 118 = .ok (.getfield 24, 3) := by decide +kernel
theorem dn_Grammar_operand_121 : decode bn_Grammar_operand 121 = .ok (.bipush 40, 2) := by decide +kernel
theorem dn_Grammar_operand_123 : decode bn_Grammar_operand 123 = .ok (.invokevirtual 115, 3) := by decide +kernel
theorem dn_Grammar_operand_126 : decode bn_Grammar_operand 126 = .ok (.goto 54, 3) := by decide +kernel
theorem dn_Grammar_operand_129 : decode bn_Grammar_operand 129 = .ok (.aload_n 0, 1) := by decide +kernel
theorem dn_Grammar_operand_130 : decode bn_Grammar_operand 130 = .ok (.invokevirtual 279, 3) := by decide +kernel
theorem dn_Grammar_operand_133 : decode bn_Grammar_operand 133 = .ok (.goto 47, 3) := by decide +kernel
theorem dn_Grammar_operand_136 : decode bn_Grammar_operand 136 = .ok (.aload_n 0, 1) := by decide +kernel
theorem dn_Grammar_operand_137 : decode bn_Grammar_operand 137 = .ok (.getfield 28, 3) := by decide +kernel
theorem dn_Grammar_operand_140 : decode bn_Grammar_operand 140 = .ok (.aload_n 0, 1) := by decide +kernel
theorem dn_Grammar_operand_141 : decode bn_Grammar_operand 141 = .ok (.getfield 24, 3) := by decide +kernel
theorem dn_Grammar_operand_144 : decode bn_Grammar_operand 144 = .ok (.getfield 102, 3) := by decide +kernel
theorem dn_Grammar_operand_147 : decode bn_Grammar_operand 147 = .ok (.invokevirtual 282, 3) := by decide +kernel
theorem dn_Grammar_operand_150 : decode bn_Grammar_operand 150 = .ok (.aload_n 0, 1) := by decide +kernel
theorem dn_Grammar_operand_151 : decode bn_Grammar_operand 151 = .ok (.getfield 24, 3) := by decide +kernel
theorem dn_Grammar_operand_154 : decode bn_Grammar_operand 154 = .ok (.invokevirtual 112, 3) := by decide +kernel
theorem dn_Grammar_operand_157 : decode bn_Grammar_operand 157 = .ok (.aload_n 0, 1) := by decide +kernel
theorem dn_Grammar_operand_158 : decode bn_Grammar_operand 158 = .ok (.bipush 7, 2) := by decide +kernel
theorem dn_Grammar_operand_160 : decode bn_Grammar_operand 160 = .ok (.putfield 58, 3) := by decide +kernel
theorem dn_Grammar_operand_163 : decode bn_Grammar_operand 163 = .ok (.goto 17, 3) := by decide +kernel
theorem dn_Grammar_operand_166 : decode bn_Grammar_operand 166 = .ok (.aload_n 0, 1) := by decide +kernel
theorem dn_Grammar_operand_167 : decode bn_Grammar_operand 167 = .ok (.invokevirtual 285, 3) := by decide +kernel
theorem dn_Grammar_operand_170 : decode bn_Grammar_operand 170 = .ok (.goto 10, 3) := by decide +kernel
theorem dn_Grammar_operand_173 : decode bn_Grammar_operand 173 = .ok (.aload_n 0, 1) := by decide +kernel
theorem dn_Grammar_operand_174 : decode bn_Grammar_operand 174 = .ok (.getfield 24, 3) := by decide +kernel
theorem dn_Grammar_operand_177 : decode bn_Grammar_operand 177 = .ok (.invokevirtual 155, 3) := by decide +kernel
theorem dn_Grammar_operand_180 : decode bn_Grammar_operand 180 = .ok (.return_, 1) := by decide +kernel
theorem dn_Grammar_otherwise_0 : decode bn_Grammar_otherwise 0 = .ok (.aload_n 0, 1) := by decide +kernel
theorem dn_Grammar_otherwise_1 : decode bn_Grammar_otherwise 1 = .ok (.getfield 24, 3) := by decide +kernel
theorem dn_Grammar_otherwise_4 : decode bn_Grammar_otherwise 4 = .ok (.invokevirtual 112, 3) := by decide +kernel
theorem dn_Grammar_otherwise_7 : decode bn_Grammar_otherwise 7 = .ok (.aload_n 0, 1) := by decide +kernel
theorem dn_Grammar_otherwise_8 : decode bn_Grammar_otherwise 8 = .ok (.getfield 32, 3) := by decide +kernel
theorem dn_Grammar_otherwise_11 : decode bn_Grammar_otherwise 11 = .ok (.invokevirtual 237, 3) := by decide +kernel
theorem dn_Grammar_otherwise_14 : decode bn_Grammar_otherwise 14 = .ok (.aload_n 0, 1) := by decide +kernel
theorem dn_Grammar_otherwise_15 : decode bn_Grammar_otherwise 15 = .ok (.sipush 141, 3) := by decide +kernel
theorem dn_Grammar_otherwise_18 : decode bn_Grammar_otherwise 18 = .ok (.invokevirtual 216, 3) := by decide +kernel
theorem dn_Grammar_otherwise_21 : decode bn_Grammar_otherwise 21 = .ok (.aload_n 0, 1) := by decide +kernel
theorem dn_Grammar_otherwise_22 : decode bn_Grammar_otherwise 22 = .ok (.iconst 4, 1) := by decide +kernel
theorem dn_Grammar_otherwise_23 : decode bn_Grammar_otherwise 23 = .ok (.putfield 58, 3) := by decide +kernel
theorem dn_Grammar_otherwise_26 : decode bn_Grammar_otherwise 26 = .ok (.return_, 1) := by decide +kernel
theorem dn_Grammar_parse_0 : decode bn_Grammar_parse 0 = .ok (.aload_n 0, 1) := by decide +kernel
theorem dn_Grammar_parse_1 : decode bn_Grammar_parse 1 = .ok (.getfield 24, 3) := by decide +kernel
theorem dn_Grammar_parse_4 : decode bn_Grammar_parse 4 = .ok (.invokevirtual 36, 3) := by decide +kernel
theorem dn_Grammar_parse_7 : decode bn_Grammar_parse 7 = .ok (.aload_n 0, 1) := by decide +kernel
theorem dn_Grammar_parse_8 : decode bn_Grammar_parse 8 = .ok (.getfield 28, 3) := by decide +kernel
theorem dn_Grammar_parse_11 : decode bn_Grammar_parse 11 = .ok (.aload_n 1, 1) := by decide +kernel
theorem dn_Grammar_parse_12 : decode bn_Grammar_parse 12 = .ok (.iload_n 2, 1) := by decide +kernel
theorem dn_Grammar_parse_13 : decode bn_Grammar_parse 13 = .ok (.invokevirtual 41, 3) := by decide +kernel
theorem dn_Grammar_parse_16 : decode bn_Grammar_parse 16 = .ok (.aload_n 0, 1) := by decide +kernel
theorem dn_Grammar_parse_17 : decode bn_Grammar_parse 17 = .ok (.getfield 32, 3) := by decide +kernel
theorem dn_Grammar_parse_20 : decode bn_Grammar_parse 20 = .ok (.aload_n 1, 1) := by decide +kernel
theorem dn_Grammar_parse_21 : decode bn_Grammar_parse 21 = .ok (.invokevirtual 46, 3) := by decide +kernel
theorem dn_Grammar_parse_24 : decode bn_Grammar_parse 24 = .ok (.aload_n 0, 1) := by decide +kernel
theorem dn_Grammar_parse_25 : decode bn_Grammar_parse 25 = .ok (.iconst 0, 1) := by decide +kernel
theorem dn_Grammar_parse_26 : decode bn_Grammar_parse 26 = .ok (.putfield 51, 3) := by decide +kernel
theorem dn_Grammar_parse_29 : decode bn_Grammar_parse 29 = .ok (.aload_n 0, 1) := by decide +kernel
theorem dn_Grammar_parse_30 : decode bn_Grammar_parse 30 = .ok (.iconst 0, 1) := by decide +kernel
theorem dn_Grammar_parse_31 : decode bn_Grammar_parse 31 = .ok (.putfield 55, 3) := by decide +kernel
theorem dn_Grammar_parse_34 : decode bn_Grammar_parse 34 = .ok (.aload_n 0, 1) := by decide +kernel
theorem dn_Grammar_parse_35 : decode bn_Grammar_parse 35 = .ok (.iconst 0, 1) := by decide +kernel
theorem dn_Grammar_parse_36 : decode bn_Grammar_parse 36 = .ok (.putfield 58, 3) := by decide +kernel
theorem dn_Grammar_parse_39 : decode bn_Grammar_parse 39 = .ok (.bipush 8, 2) := by decide +kernel
theorem dn_Grammar_parse_41 : decode bn_Grammar_parse 41 = .ok (.aload_n 0, 1) := by decide +kernel
theorem dn_Grammar_parse_42 : decode bn_Grammar_parse 42 = .ok (.getfield 24, 3) := by decide +kernel
theorem dn_Grammar_parse_45 : decode bn_Grammar_parse 45 = .ok (.getfield 61, 3) := by decide +kernel
theorem dn_Grammar_parse_48 : decode bn_Grammar_parse 48 = .ok (.imul, 1) := by decide +kernel
theorem dn_Grammar_parse_49 : decode bn_Grammar_parse 49 = .ok (.bipush 8, 2) := by decide +kernel
theorem dn_Grammar_parse_51 : decode bn_Grammar_parse 51 = .ok (.iadd, 1) := by decide +kernel
theorem dn_Grammar_parse_52 : decode bn_Grammar_parse 52 = .ok (.istore_n 3, 1) := by decide +kernel
theorem dn_Grammar_parse_53 : decode bn_Grammar_parse 53 = .ok (.iconst 0, 1) := by decide +kernel
theorem dn_Grammar_parse_54 : decode bn_Grammar_parse 54 = .ok (.istore 4, 2) := by decide +kernel
theorem dn_Grammar_parse_56 : decode bn_Grammar_parse 56 = .ok (.iload 4, 2) := by decide +kernel
theorem dn_Grammar_parse_58 : decode bn_Grammar_parse 58 = .ok (.iload_n 3, 1) := by decide +kernel
theorem dn_Grammar_parse_59 : decode bn_Grammar_parse 59 = .ok (.if_icmp .ge 155, 3) := by decide +kernel
theorem dn_Grammar_parse_62 : decode bn_Grammar_parse 62 = .ok (.aload_n 0, 1) := by decide +kernel
theorem dn_Grammar_parse_63 : decode bn_Grammar_parse 63 = .ok (.getfield 58, 3) := by decide +kernel
theorem dn_Grammar_parse_66 : decode bn_Grammar_parse 66 = .ok (.bipush 9, 2) := by decide +kernel
theorem dn_Grammar_parse_68 : decode bn_Grammar_parse 68 = .ok (.if_icmp .eq 146, 3) := by decide +kernel
theorem dn_Grammar_parse_71 : decode bn_Grammar_parse 71 = .ok (.aload_n 0, 1) := by decide +kernel
theorem dn_Grammar_parse_72 : decode bn_Grammar_parse 72 = .ok (.getfield 24, 3) := by decide +kernel
theorem dn_Grammar_parse_75 : decode bn_Grammar_parse 75 = .ok (.getfield 64, 3) := by decide +kernel
theorem dn_Grammar_parse_78 : decode bn_Grammar_parse 78 = .ok (.ifCond .ne 136, 3) := by decide +kernel
theorem dn_Grammar_parse_81 : decode bn_Grammar_parse 81 = .ok (.aload_n 0, 1) := by decide +kernel
theorem dn_Grammar_parse_82 : decode bn_Grammar_parse 82 = .ok (.getfield 58, 3) := by decide +kernel
theorem dn_Grammar_parse_85 : decode bn_Grammar_parse 85 = .ok (.tableswitch 119 0 7 #[47, 54, 77, 84, 91, 98, 105, 112], 47) := by decide +kernel
theorem dn_Grammar_parse_132 : decode bn_Grammar_parse 132 = .ok (.aload_n 0, 1) := by decide +kernel
theorem dn_Grammar_parse_133 : decode bn_Grammar_parse 133 = .ok (.invokevirtual 67, 3) := by decide +kernel
theorem dn_Grammar_parse_136 : decode bn_Grammar_parse 136 = .ok (.goto 72, 3) := by decide +kernel
theorem dn_Grammar_parse_139 : decode bn_Grammar_parse 139 = .ok (.aload_n 0, 1) := by decide +kernel
theorem dn_Grammar_parse_140 : decode bn_Grammar_parse 140 = .ok (.aload_n 0, 1) := by decide +kernel
theorem dn_Grammar_parse_141 : decode bn_Grammar_parse 141 = .ok (.getfield 24, 3) := by decide +kernel
theorem dn_Grammar_parse_144 : decode bn_Grammar_parse 144 = .ok (.getfield 70, 3) := by decide +kernel
theorem dn_Grammar_parse_147 : decode bn_Grammar_parse 147 = .ok (.ifCond .ne 8, 3) := by decide +kernel
theorem dn_Grammar_parse_150 : decode bn_Grammar_parse 150 = .ok (.bipush 9, 2) := by decide +kernel
theorem dn_Grammar_parse_152 : decode bn_Grammar_parse 152 = .ok (.goto 4, 3) := by decide +kernel
theorem dn_Grammar_parse_155 : decode bn_Grammar_parse 155 = .ok (.iconst 0, 1) := by decide +kernel
theorem dn_Grammar_parse_156 : decode bn_Grammar_parse 156 = .ok (.putfield 58, 3) := by decide +kernel
theorem dn_Grammar_parse_159 : decode bn_Grammar_parse 159 = .ok (.goto 49, 3) := by decide +kernel
theorem dn_Grammar_parse_162 : decode bn_Grammar_parse 162 = .ok (.aload_n 0, 1) := by decide +kernel
theorem dn_Grammar_parse_163 : decode bn_Grammar_parse 163 = .ok (.invokevirtual 73, 3) := by decide +kernel
theorem dn_Grammar_parse_166 : decode bn_Grammar_parse 166 = .ok (.goto 42, 3) := by decide +kernel
theorem dn_Grammar_parse_169 : decode bn_Grammar_parse 169 = .ok (.aload_n 0, 1) := by decide +kernel
theorem dn_Grammar_parse_170 : decode bn_Grammar_parse 170 = .ok (.invokevirtual 76, 3) := by decide +kernel
theorem dn_Grammar_parse_173 : decode bn_Grammar_parse 173 = .ok (.goto 35, 3) := by decide +kernel
theorem dn_Grammar_parse_176 : decode bn_Grammar_parse 176 = .ok (.aload_n 0, 1) := by decide +kernel
theorem dn_Grammar_parse_177 : decode bn_Grammar_parse 177 = .ok (.invokevirtual 79, 3) := by decide +kernel
theorem dn_Grammar_parse_180 : decode bn_Grammar_parse 180 = .ok (.goto 28, 3) := by decide +kernel
theorem dn_Grammar_parse_183 : decode bn_Grammar_parse 183 = .ok (.aload_n 0, 1) := by decide +kernel
theorem dn_Grammar_parse_184 : decode bn_Grammar_parse 184 = .ok (.invokevirtual 82, 3) := by decide +kernel
theorem dn_Grammar_parse_187 : decode bn_Grammar_parse 187 = .ok (.goto 21, 3) := by decide +kernel
theorem dn_Grammar_parse_190 : decode bn_Grammar_parse 190 = .ok (.aload_n 0, 1) := by decide +kernel
theorem dn_Grammar_parse_191 : decode bn_Grammar_parse 191 = .ok (.invokevirtual 85, 3) := by decide +kernel
theorem dn_Grammar_parse_194 : decode bn_Grammar_parse 194 = .ok (.goto 14, 3) := by decide +kernel
theorem dn_Grammar_parse_197 : decode bn_Grammar_parse 197 = .ok (.aload_n 0, 1) := by decide +kernel
theorem dn_Grammar_parse_198 : decode bn_Grammar_parse 198 = .ok (.invokevirtual 88, 3) := by decide +kernel
theorem dn_Grammar_parse_201 : decode bn_Grammar_parse 201 = .ok (.goto 7, 3) := by decide +kernel
theorem dn_Grammar_parse_204 : decode bn_Grammar_parse 204 = .ok (.aload_n 0, 1) := by decide +kernel
theorem dn_Grammar_parse_205 : decode bn_Grammar_parse 205 = .ok (.invokevirtual 91, 3) := by decide +kernel
theorem dn_Grammar_parse_208 : decode bn_Grammar_parse 208 = .ok (.iinc 4 1, 3) := by decide +kernel
theorem dn_Grammar_parse_211 : decode bn_Grammar_parse 211 = .ok (.goto (-155), 3) := by decide +kernel
theorem dn_Grammar_parse_214 : decode bn_Grammar_parse 214 = .ok (.return_, 1) := by decide +kernel
theorem dn_Grammar_part_0 : decode bn_Grammar_part 0 = .ok (.aload_n 0, 1) := by decide +kernel
theorem dn_Grammar_part_1 : decode bn_Grammar_part 1 = .ok (.getfield 24, 3) := by decide +kernel
theorem dn_Grammar_part_4 : decode bn_Grammar_part 4 = .ok (.getfield 102, 3) := by decide +kernel
theorem dn_Grammar_part_7 : decode bn_Grammar_part 7 = .ok (.istore_n 1, 1) := by decide +kernel
theorem dn_Grammar_part_8 : decode bn_Grammar_part 8 = .ok (.aload_n 0, 1) := by decide +kernel
theorem dn_Grammar_part_9 : decode bn_Grammar_part 9 = .ok (.getfield 24, 3) := by decide +kernel
theorem dn_Grammar_part_12 : decode bn_Grammar_part 12 = .ok (.iconst 3, 1) := by decide +kernel
theorem dn_Grammar_part_13 : decode bn_Grammar_part 13 = .ok (.invokevirtual 94, 3) := by decide +kernel
theorem dn_Grammar_part_16 : decode bn_Grammar_part 16 = .ok (.iload_n 1, 1) := by decide +kernel
theorem dn_Grammar_part_17 : decode bn_Grammar_part 17 = .ok (.istore_n 2, 1) := by decide +kernel
theorem dn_Grammar_part_18 : decode bn_Grammar_part 18 = .ok (.aload_n 0, 1) := by decide +kernel
theorem dn_Grammar_part_19 : decode bn_Grammar_part 19 = .ok (.getfield 24, 3) := by decide +kernel
theorem dn_Grammar_part_22 : decode bn_Grammar_part 22 = .ok (.getfield 70, 3) := by decide +kernel
theorem dn_Grammar_part_25 : decode bn_Grammar_part 25 = .ok (.bipush 58, 2) := by decide +kernel
theorem dn_Grammar_part_27 : decode bn_Grammar_part 27 = .ok (.if_icmp .ne 26, 3) := by decide +kernel
theorem dn_Grammar_part_30 : decode bn_Grammar_part 30 = .ok (.aload_n 0, 1) := by decide +kernel
theorem dn_Grammar_part_31 : decode bn_Grammar_part 31 = .ok (.getfield 24, 3) := by decide +kernel
theorem dn_Grammar_part_34 : decode bn_Grammar_part 34 = .ok (.invokevirtual 112, 3) := by decide +kernel
theorem dn_Grammar_part_37 : decode bn_Grammar_part 37 = .ok (.aload_n 0, 1) := by decide +kernel
theorem dn_Grammar_part_38 : decode bn_Grammar_part 38 = .ok (.getfield 24, 3) := by decide +kernel
theorem dn_Grammar_part_41 : decode bn_Grammar_part 41 = .ok (.getfield 102, 3) := by decide +kernel
theorem dn_Grammar_part_44 : decode bn_Grammar_part 44 = .ok (.istore_n 2, 1) := by decide +kernel
theorem dn_Grammar_part_45 : decode bn_Grammar_part 45 = .ok (.aload_n 0, 1) := by decide +kernel
theorem dn_Grammar_part_46 : decode bn_Grammar_part 46 = .ok (.getfield 24, 3) := by decide +kernel
theorem dn_Grammar_part_49 : decode bn_Grammar_part 49 = .ok (.iconst 3, 1) := by decide +kernel
theorem dn_Grammar_part_50 : decode bn_Grammar_part 50 = .ok (.invokevirtual 94, 3) := by decide +kernel
theorem dn_Grammar_part_53 : decode bn_Grammar_part 53 = .ok (.aload_n 0, 1) := by decide +kernel
theorem dn_Grammar_part_54 : decode bn_Grammar_part 54 = .ok (.getfield 24, 3) := by decide +kernel
theorem dn_Grammar_part_57 : decode bn_Grammar_part 57 = .ok (.bipush 93, 2) := by decide +kernel
theorem dn_Grammar_part_59 : decode bn_Grammar_part 59 = .ok (.invokevirtual 121, 3) := by decide +kernel
theorem dn_Grammar_part_62 : decode bn_Grammar_part 62 = .ok (.iload_n 1, 1) := by decide +kernel
theorem dn_Grammar_part_63 : decode bn_Grammar_part 63 = .ok (.bipush 16, 2) := by decide +kernel
theorem dn_Grammar_part_65 : decode bn_Grammar_part 65 = .ok (.ishl, 1) := by decide +kernel
theorem dn_Grammar_part_66 : decode bn_Grammar_part 66 = .ok (.iload_n 2, 1) := by decide +kernel
theorem dn_Grammar_part_67 : decode bn_Grammar_part 67 = .ok (.ldc 215, 2) := by decide +kernel
theorem dn_Grammar_part_69 : decode bn_Grammar_part 69 = .ok (.iand, 1) := by decide +kernel
theorem dn_Grammar_part_70 : decode bn_Grammar_part 70 = .ok (.ior, 1) := by decide +kernel
theorem dn_Grammar_part_71 : decode bn_Grammar_part 71 = .ok (.ireturn, 1) := by decide +kernel
theorem dn_Grammar_port_0 : decode bn_Grammar_port 0 = .ok (.aload_n 0, 1) := by decide +kernel
theorem dn_Grammar_port_1 : decode bn_Grammar_port 1 = .ok (.getfield 24, 3) := by decide +kernel
theorem dn_Grammar_port_4 : decode bn_Grammar_port 4 = .ok (.getfield 70, 3) := by decide +kernel
theorem dn_Grammar_port_7 : decode bn_Grammar_port 7 = .ok (.sipush 130, 3) := by decide +kernel
theorem dn_Grammar_port_10 : decode bn_Grammar_port 10 = .ok (.if_icmp .ne 16, 3) := by decide +kernel
theorem dn_Grammar_port_13 : decode bn_Grammar_port 13 = .ok (.aload_n 0, 1) := by decide +kernel
theorem dn_Grammar_port_14 : decode bn_Grammar_port 14 = .ok (.getfield 24, 3) := by decide +kernel
theorem dn_Grammar_port_17 : decode bn_Grammar_port 17 = .ok (.invokevirtual 112, 3) := by decide +kernel
theorem dn_Grammar_port_20 : decode bn_Grammar_port 20 = .ok (.aload_n 0, 1) := by decide +kernel
theorem dn_Grammar_port_21 : decode bn_Grammar_port 21 = .ok (.iconst 0, 1) := by decide +kernel
theorem dn_Grammar_port_22 : decode bn_Grammar_port 22 = .ok (.invokevirtual 127, 3) := by decide +kernel
theorem dn_Grammar_port_25 : decode bn_Grammar_port 25 = .ok (.return_, 1) := by decide +kernel
theorem dn_Grammar_port_26 : decode bn_Grammar_port 26 = .ok (.aload_n 0, 1) := by decide +kernel
theorem dn_Grammar_port_27 : decode bn_Grammar_port 27 = .ok (.getfield 24, 3) := by decide +kernel
theorem dn_Grammar_port_30 : decode bn_Grammar_port 30 = .ok (.sipush 131, 3) := by decide +kernel
theorem dn_Grammar_port_33 : decode bn_Grammar_port 33 = .ok (.invokevirtual 94, 3) := by decide +kernel
theorem dn_Grammar_port_36 : decode bn_Grammar_port 36 = .ok (.aload_n 0, 1) := by decide +kernel
theorem dn_Grammar_port_37 : decode bn_Grammar_port 37 = .ok (.getfield 24, 3) := by decide +kernel
theorem dn_Grammar_port_40 : decode bn_Grammar_port 40 = .ok (.getfield 70, 3) := by decide +kernel
theorem dn_Grammar_port_43 : decode bn_Grammar_port 43 = .ok (.sipush 133, 3) := by decide +kernel
theorem dn_Grammar_port_46 : decode bn_Grammar_port 46 = .ok (.if_icmp .ne 18, 3) := by decide +kernel
theorem dn_Grammar_port_49 : decode bn_Grammar_port 49 = .ok (.aload_n 0, 1) := by decide +kernel
theorem dn_Grammar_port_50 : decode bn_Grammar_port 50 = .ok (.getfield 24, 3) := by decide +kernel
theorem dn_Grammar_port_53 : decode bn_Grammar_port 53 = .ok (.invokevirtual 112, 3) := by decide +kernel
theorem dn_Grammar_port_56 : decode bn_Grammar_port 56 = .ok (.aload_n 0, 1) := by decide +kernel
theorem dn_Grammar_port_57 : decode bn_Grammar_port 57 = .ok (.iconst 2, 1) := by decide +kernel
theorem dn_Grammar_port_58 : decode bn_Grammar_port 58 = .ok (.invokevirtual 127, 3) := by decide +kernel
theorem dn_Grammar_port_61 : decode bn_Grammar_port 61 = .ok (.goto 8, 3) := by decide +kernel
theorem dn_Grammar_port_64 : decode bn_Grammar_port 64 = .ok (.aload_n 0, 1) := by decide +kernel
theorem dn_Grammar_port_65 : decode bn_Grammar_port 65 = .ok (.iconst 1, 1) := by decide +kernel
theorem dn_Grammar_port_66 : decode bn_Grammar_port 66 = .ok (.invokevirtual 127, 3) := by decide +kernel
theorem dn_Grammar_port_69 : decode bn_Grammar_port 69 = .ok (.return_, 1) := by decide +kernel
theorem dn_Grammar_rankOf_0 : decode bn_Grammar_rankOf 0 = .ok (.iload_n 0, 1) := by decide +kernel
theorem dn_Grammar_rankOf_1 : decode bn_Grammar_rankOf 1 = .ok (.lookupswitch 175 #[(5, 149), (6, 147), (7, 157), (8, 157), (9, 160), (10, 160), (11, 163), (12, 163), (38, 155), (42, 169), (43, 166), (45, 166), (60, 160), (62, 160), (94, 153), (124, 151), (256, 172)], 147) := by decide +kernel
theorem dn_Grammar_rankOf_148 : decode bn_Grammar_rankOf 148 = .ok (.iconst 1, 1) := by decide +kernel
theorem dn_Grammar_rankOf_149 : decode bn_Grammar_rankOf 149 = .ok (.ireturn, 1) := by decide +kernel
theorem dn_Grammar_rankOf_150 : decode bn_Grammar_rankOf 150 = .ok (.iconst 2, 1) := by decide +kernel
theorem dn_Grammar_rankOf_151 : decode bn_Grammar_rankOf 151 = .ok (.ireturn, 1) := by decide +kernel
theorem dn_Grammar_rankOf_152 : decode bn_Grammar_rankOf 152 = .ok (.iconst 3, 1) := by decide +kernel
theorem dn_Grammar_rankOf_153 : decode bn_Grammar_rankOf 153 = .ok (.ireturn, 1) := by decide +kernel
theorem dn_Grammar_rankOf_154 : decode bn_Grammar_rankOf 154 = .ok (.iconst 4, 1) := by decide +kernel
theorem dn_Grammar_rankOf_155 : decode bn_Grammar_rankOf 155 = .ok (.ireturn, 1) := by decide +kernel
theorem dn_Grammar_rankOf_156 : decode bn_Grammar_rankOf 156 = .ok (.iconst 5, 1) := by decide +kernel
theorem dn_Grammar_rankOf_157 : decode bn_Grammar_rankOf 157 = .ok (.ireturn, 1) := by decide +kernel
theorem dn_Grammar_rankOf_158 : decode bn_Grammar_rankOf 158 = .ok (.bipush 6, 2) := by decide +kernel
theorem dn_Grammar_rankOf_160 : decode bn_Grammar_rankOf 160 = .ok (.ireturn, 1) := by decide +kernel
theorem dn_Grammar_rankOf_161 : decode bn_Grammar_rankOf 161 = .ok (.bipush 7, 2) := by decide +kernel
theorem dn_Grammar_rankOf_163 : decode bn_Grammar_rankOf 163 = .ok (.ireturn, 1) := by decide +kernel
theorem dn_Grammar_rankOf_164 : decode bn_Grammar_rankOf 164 = .ok (.bipush 8, 2) := by decide +kernel
theorem dn_Grammar_rankOf_166 : decode bn_Grammar_rankOf 166 = .ok (.ireturn, 1) := by decide +kernel
theorem dn_Grammar_rankOf_167 : decode bn_Grammar_rankOf 167 = .ok (.bipush 9, 2) := by decide +kernel
theorem dn_Grammar_rankOf_169 : decode bn_Grammar_rankOf 169 = .ok (.ireturn, 1) := by decide +kernel
theorem dn_Grammar_rankOf_170 : decode bn_Grammar_rankOf 170 = .ok (.bipush 10, 2) := by decide +kernel
theorem dn_Grammar_rankOf_172 : decode bn_Grammar_rankOf 172 = .ok (.ireturn, 1) := by decide +kernel
theorem dn_Grammar_rankOf_173 : decode bn_Grammar_rankOf 173 = .ok (.bipush 11, 2) := by decide +kernel
theorem dn_Grammar_rankOf_175 : decode bn_Grammar_rankOf 175 = .ok (.ireturn, 1) := by decide +kernel
theorem dn_Grammar_rankOf_176 : decode bn_Grammar_rankOf 176 = .ok (.iconst 0, 1) := by decide +kernel
theorem dn_Grammar_rankOf_177 : decode bn_Grammar_rankOf 177 = .ok (.ireturn, 1) := by decide +kernel
theorem dn_Grammar_signsBefore_0 : decode bn_Grammar_signsBefore 0 = .ok (.aload_n 0, 1) := by decide +kernel
theorem dn_Grammar_signsBefore_1 : decode bn_Grammar_signsBefore 1 = .ok (.getfield 24, 3) := by decide +kernel
theorem dn_Grammar_signsBefore_4 : decode bn_Grammar_signsBefore 4 = .ok (.getfield 180, 3) := by decide +kernel
theorem dn_Grammar_signsBefore_7 : decode bn_Grammar_signsBefore 7 = .ok (.istore_n 1, 1) := by decide +kernel
theorem dn_Grammar_signsBefore_8 : decode bn_Grammar_signsBefore 8 = .ok (.iconst 0, 1) := by decide +kernel
theorem dn_Grammar_signsBefore_9 : decode bn_Grammar_signsBefore 9 = .ok (.istore_n 2, 1) := by decide +kernel
theorem dn_Grammar_signsBefore_10 : decode bn_Grammar_signsBefore 10 = .ok (.iload_n 2, 1) := by decide +kernel
theorem dn_Grammar_signsBefore_11 : decode bn_Grammar_signsBefore 11 = .ok (.aload_n 0, 1) := by decide +kernel
theorem dn_Grammar_signsBefore_12 : decode bn_Grammar_signsBefore 12 = .ok (.getfield 24, 3) := by decide +kernel
theorem dn_Grammar_signsBefore_15 : decode bn_Grammar_signsBefore 15 = .ok (.getfield 61, 3) := by decide +kernel
theorem dn_Grammar_signsBefore_18 : decode bn_Grammar_signsBefore 18 = .ok (.if_icmp .ge 29, 3) := by decide +kernel
theorem dn_Grammar_signsBefore_21 : decode bn_Grammar_signsBefore 21 = .ok (.aload_n 0, 1) := by decide +kernel
theorem dn_Grammar_signsBefore_22 : decode bn_Grammar_signsBefore 22 = .ok (.getfield 24, 3) := by decide +kernel
theorem dn_Grammar_signsBefore_25 : decode bn_Grammar_signsBefore 25 = .ok (.getfield 70, 3) := by decide +kernel
theorem dn_Grammar_signsBefore_28 : decode bn_Grammar_signsBefore 28 = .ok (.invokestatic 288, 3) := by decide +kernel
theorem dn_Grammar_signsBefore_31 : decode bn_Grammar_signsBefore 31 = .ok (.ifCond .eq 16, 3) := by decide +kernel
theorem dn_Grammar_signsBefore_34 : decode bn_Grammar_signsBefore 34 = .ok (.aload_n 0, 1) := by decide +kernel
theorem dn_Grammar_signsBefore_35 : decode bn_Grammar_signsBefore 35 = .ok (.getfield 24, 3) := by decide +kernel
theorem dn_Grammar_signsBefore_38 : decode bn_Grammar_signsBefore 38 = .ok (.invokevirtual 112, 3) := by decide +kernel
theorem dn_Grammar_signsBefore_41 : decode bn_Grammar_signsBefore 41 = .ok (.iinc 2 1, 3) := by decide +kernel
theorem dn_Grammar_signsBefore_44 : decode bn_Grammar_signsBefore 44 = .ok (.goto (-34), 3) := by decide +kernel
theorem dn_Grammar_signsBefore_47 : decode bn_Grammar_signsBefore 47 = .ok (.aload_n 0, 1) := by decide +kernel
theorem dn_Grammar_signsBefore_48 : decode bn_Grammar_signsBefore 48 = .ok (.sipush 256, 3) := by decide +kernel
theorem dn_Grammar_signsBefore_51 : decode bn_Grammar_signsBefore 51 = .ok (.iload_n 1, 1) := by decide +kernel
theorem dn_Grammar_signsBefore_52 : decode bn_Grammar_signsBefore 52 = .ok (.aload_n 0, 1) := by decide +kernel
theorem dn_Grammar_signsBefore_53 : decode bn_Grammar_signsBefore 53 = .ok (.getfield 24, 3) := by decide +kernel
theorem dn_Grammar_signsBefore_56 : decode bn_Grammar_signsBefore 56 = .ok (.getfield 180, 3) := by decide +kernel
theorem dn_Grammar_signsBefore_59 : decode bn_Grammar_signsBefore 59 = .ok (.iload_n 1, 1) := by decide +kernel
theorem dn_Grammar_signsBefore_60 : decode bn_Grammar_signsBefore 60 = .ok (.isub, 1) := by decide +kernel
theorem dn_Grammar_signsBefore_61 : decode bn_Grammar_signsBefore 61 = .ok (.invokevirtual 276, 3) := by decide +kernel
theorem dn_Grammar_signsBefore_64 : decode bn_Grammar_signsBefore 64 = .ok (.return_, 1) := by decide +kernel
theorem dn_Grammar_statement_0 : decode bn_Grammar_statement 0 = .ok (.aload_n 0, 1) := by decide +kernel
theorem dn_Grammar_statement_1 : decode bn_Grammar_statement 1 = .ok (.getfield 24, 3) := by decide +kernel
theorem dn_Grammar_statement_4 : decode bn_Grammar_statement 4 = .ok (.getfield 70, 3) := by decide +kernel
theorem dn_Grammar_statement_7 : decode bn_Grammar_statement 7 = .ok (.lookupswitch 131 #[(2, 124), (138, 41), (140, 66), (142, 95)], 41) := by decide +kernel
theorem dn_Grammar_statement_48 : decode bn_Grammar_statement 48 = .ok (.aload_n 0, 1) := by decide +kernel
theorem dn_Grammar_statement_49 : decode bn_Grammar_statement 49 = .ok (.getfield 24, 3) := by decide +kernel
theorem dn_Grammar_statement_52 : decode bn_Grammar_statement 52 = .ok (.sipush 138, 3) := by decide +kernel
theorem dn_Grammar_statement_55 : decode bn_Grammar_statement 55 = .ok (.invokevirtual 115, 3) := by decide +kernel
theorem dn_Grammar_statement_58 : decode bn_Grammar_statement 58 = .ok (.aload_n 0, 1) := by decide +kernel
theorem dn_Grammar_statement_59 : decode bn_Grammar_statement 59 = .ok (.sipush 138, 3) := by decide +kernel
theorem dn_Grammar_statement_62 : decode bn_Grammar_statement 62 = .ok (.invokevirtual 199, 3) := by decide +kernel
theorem dn_Grammar_statement_65 : decode bn_Grammar_statement 65 = .ok (.aload_n 0, 1) := by decide +kernel
theorem dn_Grammar_statement_66 : decode bn_Grammar_statement 66 = .ok (.iconst 5, 1) := by decide +kernel
theorem dn_Grammar_statement_67 : decode bn_Grammar_statement 67 = .ok (.putfield 58, 3) := by decide +kernel
theorem dn_Grammar_statement_70 : decode bn_Grammar_statement 70 = .ok (.goto 75, 3) := by decide +kernel
theorem dn_Grammar_statement_73 : decode bn_Grammar_statement 73 = .ok (.aload_n 0, 1) := by decide +kernel
theorem dn_Grammar_statement_74 : decode bn_Grammar_statement 74 = .ok (.getfield 24, 3) := by decide +kernel
theorem dn_Grammar_statement_77 : decode bn_Grammar_statement 77 = .ok (.sipush 140, 3) := by decide +kernel
theorem dn_Grammar_statement_80 : decode bn_Grammar_statement 80 = .ok (.invokevirtual 115, 3) := by decide +kernel
theorem dn_Grammar_statement_83 : decode bn_Grammar_statement 83 = .ok (.aload_n 0, 1) := by decide +kernel
theorem dn_Grammar_statement_84 : decode bn_Grammar_statement 84 = .ok (.getfield 24, 3) := by decide +kernel
theorem dn_Grammar_statement_87 : decode bn_Grammar_statement 87 = .ok (.bipush 40, 2) := by decide +kernel
theorem dn_Grammar_statement_89 : decode bn_Grammar_statement 89 = .ok (.invokevirtual 115, 3) := by decide +kernel
theorem dn_Grammar_statement_92 : decode bn_Grammar_statement 92 = .ok (.aload_n 0, 1) := by decide +kernel
theorem dn_Grammar_statement_93 : decode bn_Grammar_statement 93 = .ok (.sipush 140, 3) := by decide +kernel
theorem dn_Grammar_statement_96 : decode bn_Grammar_statement 96 = .ok (.invokevirtual 146, 3) := by decide +kernel
theorem dn_Grammar_statement_99 : decode bn_Grammar_statement 99 = .ok (.goto 46, 3) := by decide +kernel
theorem dn_Grammar_statement_102 : decode bn_Grammar_statement 102 = .ok (.aload_n 0, 1) := by decide +kernel
theorem dn_Grammar_statement_103 : decode bn_Grammar_statement 103 = .ok (.getfield 24, 3) := by decide +kernel
theorem dn_Grammar_statement_106 : decode bn_Grammar_statement 106 = .ok (.sipush 142, 3) := by decide +kernel
theorem dn_Grammar_statement_109 : decode bn_Grammar_statement 109 = .ok (.invokevirtual 115, 3) := by decide +kernel
theorem dn_Grammar_statement_112 : decode bn_Grammar_statement 112 = .ok (.aload_n 0, 1) := by decide +kernel
theorem dn_Grammar_statement_113 : decode bn_Grammar_statement 113 = .ok (.getfield 24, 3) := by decide +kernel
theorem dn_Grammar_statement_116 : decode bn_Grammar_statement 116 = .ok (.bipush 40, 2) := by decide +kernel
theorem dn_Grammar_statement_118 : decode bn_Grammar_statement 118 = .ok (.invokevirtual 115, 3) := by decide +kernel
theorem dn_Grammar_statement_121 : decode bn_Grammar_statement 121 = .ok (.aload_n 0, 1) := by decide +kernel
theorem dn_Grammar_statement_122 : decode bn_Grammar_statement 122 = .ok (.sipush 142, 3) := by decide +kernel
theorem dn_Grammar_statement_125 : decode bn_Grammar_statement 125 = .ok (.invokevirtual 146, 3) := by decide +kernel
theorem dn_Grammar_statement_128 : decode bn_Grammar_statement 128 = .ok (.goto 17, 3) := by decide +kernel
theorem dn_Grammar_statement_131 : decode bn_Grammar_statement 131 = .ok (.aload_n 0, 1) := by decide +kernel
theorem dn_Grammar_statement_132 : decode bn_Grammar_statement 132 = .ok (.invokevirtual 202, 3) := by decide +kernel
theorem dn_Grammar_statement_135 : decode bn_Grammar_statement 135 = .ok (.goto 10, 3) := by decide +kernel
theorem dn_Grammar_statement_138 : decode bn_Grammar_statement 138 = .ok (.aload_n 0, 1) := by decide +kernel
theorem dn_Grammar_statement_139 : decode bn_Grammar_statement 139 = .ok (.getfield 24, 3) := by decide +kernel
theorem dn_Grammar_statement_142 : decode bn_Grammar_statement 142 = .ok (.invokevirtual 155, 3) := by decide +kernel
theorem dn_Grammar_statement_145 : decode bn_Grammar_statement 145 = .ok (.return_, 1) := by decide +kernel
theorem dn_Grammar_store_0 : decode bn_Grammar_store 0 = .ok (.aload_n 0, 1) := by decide +kernel
theorem dn_Grammar_store_1 : decode bn_Grammar_store 1 = .ok (.getfield 32, 3) := by decide +kernel
theorem dn_Grammar_store_4 : decode bn_Grammar_store 4 = .ok (.aload_n 0, 1) := by decide +kernel
theorem dn_Grammar_store_5 : decode bn_Grammar_store 5 = .ok (.getfield 24, 3) := by decide +kernel
theorem dn_Grammar_store_8 : decode bn_Grammar_store 8 = .ok (.getfield 102, 3) := by decide +kernel
theorem dn_Grammar_store_11 : decode bn_Grammar_store 11 = .ok (.aload_n 0, 1) := by decide +kernel
theorem dn_Grammar_store_12 : decode bn_Grammar_store 12 = .ok (.getfield 24, 3) := by decide +kernel
theorem dn_Grammar_store_15 : decode bn_Grammar_store 15 = .ok (.getfield 105, 3) := by decide +kernel
theorem dn_Grammar_store_18 : decode bn_Grammar_store 18 = .ok (.invokevirtual 205, 3) := by decide +kernel
theorem dn_Grammar_store_21 : decode bn_Grammar_store 21 = .ok (.aload_n 0, 1) := by decide +kernel
theorem dn_Grammar_store_22 : decode bn_Grammar_store 22 = .ok (.getfield 24, 3) := by decide +kernel
theorem dn_Grammar_store_25 : decode bn_Grammar_store 25 = .ok (.invokevirtual 112, 3) := by decide +kernel
theorem dn_Grammar_store_28 : decode bn_Grammar_store 28 = .ok (.aload_n 0, 1) := by decide +kernel
theorem dn_Grammar_store_29 : decode bn_Grammar_store 29 = .ok (.getfield 24, 3) := by decide +kernel
theorem dn_Grammar_store_32 : decode bn_Grammar_store 32 = .ok (.getfield 70, 3) := by decide +kernel
theorem dn_Grammar_store_35 : decode bn_Grammar_store 35 = .ok (.bipush 91, 2) := by decide +kernel
theorem dn_Grammar_store_37 : decode bn_Grammar_store 37 = .ok (.if_icmp .ne 32, 3) := by decide +kernel
theorem dn_Grammar_store_40 : decode bn_Grammar_store 40 = .ok (.aload_n 0, 1) := by decide +kernel
theorem dn_Grammar_store_41 : decode bn_Grammar_store 41 = .ok (.getfield 24, 3) := by decide +kernel
theorem dn_Grammar_store_44 : decode bn_Grammar_store 44 = .ok (.getfield 105, 3) := by decide +kernel
theorem dn_Grammar_store_47 : decode bn_Grammar_store 47 = .ok (.istore_n 1, 1) := by decide +kernel
theorem dn_Grammar_store_48 : decode bn_Grammar_store 48 = .ok (.aload_n 0, 1) := by decide +kernel
theorem dn_Grammar_store_49 : decode bn_Grammar_store 49 = .ok (.getfield 24, 3) := by decide +kernel
theorem dn_Grammar_store_52 : decode bn_Grammar_store 52 = .ok (.bipush 91, 2) := by decide +kernel
theorem dn_Grammar_store_54 : decode bn_Grammar_store 54 = .ok (.invokevirtual 115, 3) := by decide +kernel
theorem dn_Grammar_store_57 : decode bn_Grammar_store 57 = .ok (.aload_n 0, 1) := by decide +kernel
theorem dn_Grammar_store_58 : decode bn_Grammar_store 58 = .ok (.getfield 32, 3) := by decide +kernel
theorem dn_Grammar_store_61 : decode bn_Grammar_store 61 = .ok (.aload_n 0, 1) := by decide +kernel
theorem dn_Grammar_store_62 : decode bn_Grammar_store 62 = .ok (.invokevirtual 208, 3) := by decide +kernel
theorem dn_Grammar_store_65 : decode bn_Grammar_store 65 = .ok (.iload_n 1, 1) := by decide +kernel
theorem dn_Grammar_store_66 : decode bn_Grammar_store 66 = .ok (.invokevirtual 212, 3) := by decide +kernel
theorem dn_Grammar_store_69 : decode bn_Grammar_store 69 = .ok (.aload_n 0, 1) := by decide +kernel
theorem dn_Grammar_store_70 : decode bn_Grammar_store 70 = .ok (.aload_n 0, 1) := by decide +kernel
theorem dn_Grammar_store_71 : decode bn_Grammar_store 71 = .ok (.getfield 24, 3) := by decide +kernel
theorem dn_Grammar_store_74 : decode bn_Grammar_store 74 = .ok (.getfield 105, 3) := by decide +kernel
theorem dn_Grammar_store_77 : decode bn_Grammar_store 77 = .ok (.putfield 161, 3) := by decide +kernel
theorem dn_Grammar_store_80 : decode bn_Grammar_store 80 = .ok (.aload_n 0, 1) := by decide +kernel
theorem dn_Grammar_store_81 : decode bn_Grammar_store 81 = .ok (.getfield 24, 3) := by decide +kernel
theorem dn_Grammar_store_84 : decode bn_Grammar_store 84 = .ok (.bipush 9, 2) := by decide +kernel
theorem dn_Grammar_store_86 : decode bn_Grammar_store 86 = .ok (.invokevirtual 94, 3) := by decide +kernel
theorem dn_Grammar_store_89 : decode bn_Grammar_store 89 = .ok (.aload_n 0, 1) := by decide +kernel
theorem dn_Grammar_store_90 : decode bn_Grammar_store 90 = .ok (.bipush 9, 2) := by decide +kernel
theorem dn_Grammar_store_92 : decode bn_Grammar_store 92 = .ok (.invokevirtual 146, 3) := by decide +kernel
theorem dn_Grammar_store_95 : decode bn_Grammar_store 95 = .ok (.return_, 1) := by decide +kernel
theorem dn_Long_bitCount_0 : decode bn_Long_bitCount 0 = .ok (.lload_n 0, 1) := by decide +kernel
theorem dn_Long_bitCount_1 : decode bn_Long_bitCount 1 = .ok (.lload_n 0, 1) := by decide +kernel
theorem dn_Long_bitCount_2 : decode bn_Long_bitCount 2 = .ok (.iconst 1, 1) := by decide +kernel
theorem dn_Long_bitCount_3 : decode bn_Long_bitCount 3 = .ok (.lushr, 1) := by decide +kernel
theorem dn_Long_bitCount_4 : decode bn_Long_bitCount 4 = .ok (.ldc2_w 314, 3) := by decide +kernel
theorem dn_Long_bitCount_7 : decode bn_Long_bitCount 7 = .ok (.land, 1) := by decide +kernel
theorem dn_Long_bitCount_8 : decode bn_Long_bitCount 8 = .ok (.lsub, 1) := by decide +kernel
theorem dn_Long_bitCount_9 : decode bn_Long_bitCount 9 = .ok (.lstore_n 0, 1) := by decide +kernel
theorem dn_Long_bitCount_10 : decode bn_Long_bitCount 10 = .ok (.lload_n 0, 1) := by decide +kernel
theorem dn_Long_bitCount_11 : decode bn_Long_bitCount 11 = .ok (.ldc2_w 316, 3) := by decide +kernel
theorem dn_Long_bitCount_14 : decode bn_Long_bitCount 14 = .ok (.land, 1) := by decide +kernel
theorem dn_Long_bitCount_15 : decode bn_Long_bitCount 15 = .ok (.lload_n 0, 1) := by decide +kernel
theorem dn_Long_bitCount_16 : decode bn_Long_bitCount 16 = .ok (.iconst 2, 1) := by decide +kernel
theorem dn_Long_bitCount_17 : decode bn_Long_bitCount 17 = .ok (.lushr, 1) := by decide +kernel
theorem dn_Long_bitCount_18 : decode bn_Long_bitCount 18 = .ok (.ldc2_w 316, 3) := by decide +kernel
theorem dn_Long_bitCount_21 : decode bn_Long_bitCount 21 = .ok (.land, 1) := by decide +kernel
theorem dn_Long_bitCount_22 : decode bn_Long_bitCount 22 = .ok (.ladd, 1) := by decide +kernel
theorem dn_Long_bitCount_23 : decode bn_Long_bitCount 23 = .ok (.lstore_n 0, 1) := by decide +kernel
theorem dn_Long_bitCount_24 : decode bn_Long_bitCount 24 = .ok (.lload_n 0, 1) := by decide +kernel
theorem dn_Long_bitCount_25 : decode bn_Long_bitCount 25 = .ok (.lload_n 0, 1) := by decide +kernel
theorem dn_Long_bitCount_26 : decode bn_Long_bitCount 26 = .ok (.iconst 4, 1) := by decide +kernel
theorem dn_Long_bitCount_27 : decode bn_Long_bitCount 27 = .ok (.lushr, 1) := by decide +kernel
theorem dn_Long_bitCount_28 : decode bn_Long_bitCount 28 = .ok (.ladd, 1) := by decide +kernel
theorem dn_Long_bitCount_29 : decode bn_Long_bitCount 29 = .ok (.ldc2_w 318, 3) := by decide +kernel
theorem dn_Long_bitCount_32 : decode bn_Long_bitCount 32 = .ok (.land, 1) := by decide +kernel
theorem dn_Long_bitCount_33 : decode bn_Long_bitCount 33 = .ok (.lstore_n 0, 1) := by decide +kernel
theorem dn_Long_bitCount_34 : decode bn_Long_bitCount 34 = .ok (.lload_n 0, 1) := by decide +kernel
theorem dn_Long_bitCount_35 : decode bn_Long_bitCount 35 = .ok (.lload_n 0, 1) := by decide +kernel
theorem dn_Long_bitCount_36 : decode bn_Long_bitCount 36 = .ok (.bipush 8, 2) := by decide +kernel
theorem dn_Long_bitCount_38 : decode bn_Long_bitCount 38 = .ok (.lushr, 1) := by decide +kernel
theorem dn_Long_bitCount_39 : decode bn_Long_bitCount 39 = .ok (.ladd, 1) := by decide +kernel
theorem dn_Long_bitCount_40 : decode bn_Long_bitCount 40 = .ok (.lstore_n 0, 1) := by decide +kernel
theorem dn_Long_bitCount_41 : decode bn_Long_bitCount 41 = .ok (.lload_n 0, 1) := by decide +kernel
theorem dn_Long_bitCount_42 : decode bn_Long_bitCount 42 = .ok (.lload_n 0, 1) := by decide +kernel
theorem dn_Long_bitCount_43 : decode bn_Long_bitCount 43 = .ok (.bipush 16, 2) := by decide +kernel
theorem dn_Long_bitCount_45 : decode bn_Long_bitCount 45 = .ok (.lushr, 1) := by decide +kernel
theorem dn_Long_bitCount_46 : decode bn_Long_bitCount 46 = .ok (.ladd, 1) := by decide +kernel
theorem dn_Long_bitCount_47 : decode bn_Long_bitCount 47 = .ok (.lstore_n 0, 1) := by decide +kernel
theorem dn_Long_bitCount_48 : decode bn_Long_bitCount 48 = .ok (.lload_n 0, 1) := by decide +kernel
theorem dn_Long_bitCount_49 : decode bn_Long_bitCount 49 = .ok (.lload_n 0, 1) := by decide +kernel
theorem dn_Long_bitCount_50 : decode bn_Long_bitCount 50 = .ok (.bipush 32, 2) := by decide +kernel
theorem dn_Long_bitCount_52 : decode bn_Long_bitCount 52 = .ok (.lushr, 1) := by decide +kernel
theorem dn_Long_bitCount_53 : decode bn_Long_bitCount 53 = .ok (.ladd, 1) := by decide +kernel
theorem dn_Long_bitCount_54 : decode bn_Long_bitCount 54 = .ok (.lstore_n 0, 1) := by decide +kernel
theorem dn_Long_bitCount_55 : decode bn_Long_bitCount 55 = .ok (.lload_n 0, 1) := by decide +kernel
theorem dn_Long_bitCount_56 : decode bn_Long_bitCount 56 = .ok (.l2i, 1) := by decide +kernel
theorem dn_Long_bitCount_57 : decode bn_Long_bitCount 57 = .ok (.bipush 127, 2) := by decide +kernel
theorem dn_Long_bitCount_59 : decode bn_Long_bitCount 59 = .ok (.iand, 1) := by decide +kernel
theorem dn_Long_bitCount_60 : decode bn_Long_bitCount 60 = .ok (.ireturn, 1) := by decide +kernel
theorem dn_Machine_advance_0 : decode bn_Machine_advance 0 = .ok (.aload_n 0, 1) := by decide +kernel
theorem dn_Machine_advance_1 : decode bn_Machine_advance 1 = .ok (.aload_n 1, 1) := by decide +kernel
theorem dn_Machine_advance_2 : decode bn_Machine_advance 2 = .ok (.invokevirtual 38, 3) := by decide +kernel
theorem dn_Machine_advance_5 : decode bn_Machine_advance 5 = .ok (.aload_n 0, 1) := by decide +kernel
theorem dn_Machine_advance_6 : decode bn_Machine_advance 6 = .ok (.getfield 9, 3) := by decide +kernel
theorem dn_Machine_advance_9 : decode bn_Machine_advance 9 = .ok (.iconst 0, 1) := by decide +kernel
theorem dn_Machine_advance_10 : decode bn_Machine_advance 10 = .ok (.aload_n 0, 1) := by decide +kernel
theorem dn_Machine_advance_11 : decode bn_Machine_advance 11 = .ok (.getfield 15, 3) := by decide +kernel
theorem dn_Machine_advance_14 : decode bn_Machine_advance 14 = .ok (.iconst 0, 1) := by decide +kernel
theorem dn_Machine_advance_15 : decode bn_Machine_advance 15 = .ok (.aload_n 1, 1) := by decide +kernel
theorem dn_Machine_advance_16 : decode bn_Machine_advance 16 = .ok (.getfield 21, 3) := by decide +kernel
theorem dn_Machine_advance_19 : decode bn_Machine_advance 19 = .ok (.invokestatic 42, 3) := by decide +kernel
theorem dn_Machine_advance_22 : decode bn_Machine_advance 22 = .ok (.aload_n 0, 1) := by decide +kernel
theorem dn_Machine_advance_23 : decode bn_Machine_advance 23 = .ok (.aload_n 1, 1) := by decide +kernel
theorem dn_Machine_advance_24 : decode bn_Machine_advance 24 = .ok (.iconst 0, 1) := by decide +kernel
theorem dn_Machine_advance_25 : decode bn_Machine_advance 25 = .ok (.invokevirtual 48, 3) := by decide +kernel
theorem dn_Machine_advance_28 : decode bn_Machine_advance 28 = .ok (.pop, 1) := by decide +kernel
theorem dn_Machine_advance_29 : decode bn_Machine_advance 29 = .ok (.aload_n 0, 1) := by decide +kernel
theorem dn_Machine_advance_30 : decode bn_Machine_advance 30 = .ok (.getfield 15, 3) := by decide +kernel
theorem dn_Machine_advance_33 : decode bn_Machine_advance 33 = .ok (.iconst 0, 1) := by decide +kernel
theorem dn_Machine_advance_34 : decode bn_Machine_advance 34 = .ok (.aload_n 0, 1) := by decide +kernel
theorem dn_Machine_advance_35 : decode bn_Machine_advance 35 = .ok (.getfield 9, 3) := by decide +kernel
theorem dn_Machine_advance_38 : decode bn_Machine_advance 38 = .ok (.iconst 0, 1) := by decide +kernel
theorem dn_Machine_advance_39 : decode bn_Machine_advance 39 = .ok (.aload_n 1, 1) := by decide +kernel
theorem dn_Machine_advance_40 : decode bn_Machine_advance 40 = .ok (.getfield 21, 3) := by decide +kernel
theorem dn_Machine_advance_43 : decode bn_Machine_advance 43 = .ok (.invokestatic 42, 3) := by decide +kernel
theorem dn_Machine_advance_46 : decode bn_Machine_advance 46 = .ok (.aload_n 0, 1) := by decide +kernel
theorem dn_Machine_advance_47 : decode bn_Machine_advance 47 = .ok (.iconst 0, 1) := by decide +kernel
theorem dn_Machine_advance_48 : decode bn_Machine_advance 48 = .ok (.putfield 34, 3) := by decide +kernel
theorem dn_Machine_advance_51 : decode bn_Machine_advance 51 = .ok (.aload_n 0, 1) := by decide +kernel
theorem dn_Machine_advance_52 : decode bn_Machine_advance 52 = .ok (.dup, 1) := by decide +kernel
theorem dn_Machine_advance_53 : decode bn_Machine_advance 53 = .ok (.getfield 31, 3) := by decide +kernel
theorem dn_Machine_advance_56 : decode bn_Machine_advance 56 = .ok (.iconst 1, 1) := by decide +kernel
theorem dn_Machine_advance_57 : decode bn_Machine_advance 57 = .ok (.iadd, 1) := by decide +kernel
theorem dn_Machine_advance_58 : decode bn_Machine_advance 58 = .ok (.putfield 31, 3) := by decide +kernel
theorem dn_Machine_advance_61 : decode bn_Machine_advance 61 = .ok (.aload_n 0, 1) := by decide +kernel
theorem dn_Machine_advance_62 : decode bn_Machine_advance 62 = .ok (.getfield 31, 3) := by decide +kernel
theorem dn_Machine_advance_65 : decode bn_Machine_advance 65 = .ok (.ireturn, 1) := by decide +kernel
theorem dn_Machine_asked_0 : decode bn_Machine_asked 0 = .ok (.iload_n 0, 1) := by decide +kernel
theorem dn_Machine_asked_1 : decode bn_Machine_asked 1 = .ok (.lookupswitch 189 #[(5, 171), (7, 67), (8, 79), (9, 111), (10, 151), (60, 91), (62, 131)], 67) := by decide +kernel
theorem dn_Machine_asked_68 : decode bn_Machine_asked 68 = .ok (.lload_n 1, 1) := by decide +kernel
theorem dn_Machine_asked_69 : decode bn_Machine_asked 69 = .ok (.lload_n 3, 1) := by decide +kernel
theorem dn_Machine_asked_70 : decode bn_Machine_asked 70 = .ok (.lcmp, 1) := by decide +kernel
theorem dn_Machine_asked_71 : decode bn_Machine_asked 71 = .ok (.ifCond .ne 7, 3) := by decide +kernel
theorem dn_Machine_asked_74 : decode bn_Machine_asked 74 = .ok (.iconst 1, 1) := by decide +kernel
theorem dn_Machine_asked_75 : decode bn_Machine_asked 75 = .ok (.goto 4, 3) := by decide +kernel
theorem dn_Machine_asked_78 : decode bn_Machine_asked 78 = .ok (.iconst 0, 1) := by decide +kernel
theorem dn_Machine_asked_79 : decode bn_Machine_asked 79 = .ok (.ireturn, 1) := by decide +kernel
theorem dn_Machine_asked_80 : decode bn_Machine_asked 80 = .ok (.lload_n 1, 1) := by decide +kernel
theorem dn_Machine_asked_81 : decode bn_Machine_asked 81 = .ok (.lload_n 3, 1) := by decide +kernel
theorem dn_Machine_asked_82 : decode bn_Machine_asked 82 = .ok (.lcmp, 1) := by decide +kernel
theorem dn_Machine_asked_83 : decode bn_Machine_asked 83 = .ok (.ifCond .eq 7, 3) := by decide +kernel
theorem dn_Machine_asked_86 : decode bn_Machine_asked 86 = .ok (.iconst 1, 1) := by decide +kernel
theorem dn_Machine_asked_87 : decode bn_Machine_asked 87 = .ok (.goto 4, 3) := by decide +kernel
theorem dn_Machine_asked_90 : decode bn_Machine_asked 90 = .ok (.iconst 0, 1) := by decide +kernel
theorem dn_Machine_asked_91 : decode bn_Machine_asked 91 = .ok (.ireturn, 1) := by decide +kernel
theorem dn_Machine_asked_92 : decode bn_Machine_asked 92 = .ok (.lload_n 1, 1) := by decide +kernel
theorem dn_Machine_asked_93 : decode bn_Machine_asked 93 = .ok (.ldc2_w 166, 3) := by decide +kernel
theorem dn_Machine_asked_96 : decode bn_Machine_asked 96 = .ok (.lxor, 1) := by decide +kernel
theorem dn_Machine_asked_97 : decode bn_Machine_asked 97 = .ok (.lload_n 3, 1) := by decide +kernel
theorem dn_Machine_asked_98 : decode bn_Machine_asked 98 = .ok (.ldc2_w 166, 3) := by decide +kernel
theorem dn_Machine_asked_101 : decode bn_Machine_asked 101 = .ok (.lxor, 1) := by decide +kernel
theorem dn_Machine_asked_102 : decode bn_Machine_asked 102 = .ok (.lcmp, 1) := by decide +kernel
theorem dn_Machine_asked_103 : decode bn_Machine_asked 103 = .ok (.ifCond .ge 7, 3) := by decide +kernel
theorem dn_Machine_asked_106 : decode bn_Machine_asked 106 = .ok (.iconst 1, 1) := by decide +kernel
theorem dn_Machine_asked_107 : decode bn_Machine_asked 107 = .ok (.goto 4, 3) := by decide +kernel
theorem dn_Machine_asked_110 : decode bn_Machine_asked 110 = .ok (.iconst 0, 1) := by decide +kernel
theorem dn_Machine_asked_111 : decode bn_Machine_asked 111 = .ok (.ireturn, 1) := by decide +kernel
theorem dn_Machine_asked_112 : decode bn_Machine_asked 112 = .ok (.lload_n 1, 1) := by decide +kernel
theorem dn_Machine_asked_113 : decode bn_Machine_asked 113 = .ok (.ldc2_w 166, 3) := by decide +kernel
theorem dn_Machine_asked_116 : decode bn_Machine_asked 116 = .ok (.lxor, 1) := by decide +kernel
theorem dn_Machine_asked_117 : decode bn_Machine_asked 117 = .ok (.lload_n 3, 1) := by decide +kernel
theorem dn_Machine_asked_118 : decode bn_Machine_asked 118 = .ok (.ldc2_w 166, 3) := by decide +kernel
theorem dn_Machine_asked_121 : decode bn_Machine_asked 121 = .ok (.lxor, 1) := by decide +kernel
theorem dn_Machine_asked_122 : decode bn_Machine_asked 122 = .ok (.lcmp, 1) := by decide +kernel
theorem dn_Machine_asked_123 : decode bn_Machine_asked 123 = .ok (.ifCond .gt 7, 3) := by decide +kernel
theorem dn_Machine_asked_126 : decode bn_Machine_asked 126 = .ok (.iconst 1, 1) := by decide +kernel
theorem dn_Machine_asked_127 : decode bn_Machine_asked 127 = .ok (.goto 4, 3) := by decide +kernel
theorem dn_Machine_asked_130 : decode bn_Machine_asked 130 = .ok (.iconst 0, 1) := by decide +kernel
theorem dn_Machine_asked_131 : decode bn_Machine_asked 131 = .ok (.ireturn, 1) := by decide +kernel
theorem dn_Machine_asked_132 : decode bn_Machine_asked 132 = .ok (.lload_n 1, 1) := by decide +kernel
theorem dn_Machine_asked_133 : decode bn_Machine_asked 133 = .ok (.ldc2_w 166, 3) := by decide +kernel
theorem dn_Machine_asked_136 : decode bn_Machine_asked 136 = .ok (.lxor, 1) := by decide +kernel
theorem dn_Machine_asked_137 : decode bn_Machine_asked 137 = .ok (.lload_n 3, 1) := by decide +kernel
theorem dn_Machine_asked_138 : decode bn_Machine_asked 138 = .ok (.ldc2_w 166, 3) := by decide +kernel
theorem dn_Machine_asked_141 : decode bn_Machine_asked 141 = .ok (.lxor, 1) := by decide +kernel
theorem dn_Machine_asked_142 : decode bn_Machine_asked 142 = .ok (.lcmp, 1) := by decide +kernel
theorem dn_Machine_asked_143 : decode bn_Machine_asked 143 = .ok (.ifCond .le 7, 3) := by decide +kernel
theorem dn_Machine_asked_146 : decode bn_Machine_asked 146 = .ok (.iconst 1, 1) := by decide +kernel
theorem dn_Machine_asked_147 : decode bn_Machine_asked 147 = .ok (.goto 4, 3) := by decide +kernel
theorem dn_Machine_asked_150 : decode bn_Machine_asked 150 = .ok (.iconst 0, 1) := by decide +kernel
theorem dn_Machine_asked_151 : decode bn_Machine_asked 151 = .ok (.ireturn, 1) := by decide +kernel
theorem dn_Machine_asked_152 : decode bn_Machine_asked 152 = .ok (.lload_n 1, 1) := by decide +kernel
theorem dn_Machine_asked_153 : decode bn_Machine_asked 153 = .ok (.ldc2_w 166, 3) := by decide +kernel
theorem dn_Machine_asked_156 : decode bn_Machine_asked 156 = .ok (.lxor, 1) := by decide +kernel
theorem dn_Machine_asked_157 : decode bn_Machine_asked 157 = .ok (.lload_n 3, 1) := by decide +kernel
theorem dn_Machine_asked_158 : decode bn_Machine_asked 158 = .ok (.ldc2_w 166, 3) := by decide +kernel
theorem dn_Machine_asked_161 : decode bn_Machine_asked 161 = .ok (.lxor, 1) := by decide +kernel
theorem dn_Machine_asked_162 : decode bn_Machine_asked 162 = .ok (.lcmp, 1) := by decide +kernel
theorem dn_Machine_asked_163 : decode bn_Machine_asked 163 = .ok (.ifCond .lt 7, 3) := by decide +kernel
theorem dn_Machine_asked_166 : decode bn_Machine_asked 166 = .ok (.iconst 1, 1) := by decide +kernel
theorem dn_Machine_asked_167 : decode bn_Machine_asked 167 = .ok (.goto 4, 3) := by decide +kernel
theorem dn_Machine_asked_170 : decode bn_Machine_asked 170 = .ok (.iconst 0, 1) := by decide +kernel
theorem dn_Machine_asked_171 : decode bn_Machine_asked 171 = .ok (.ireturn, 1) := by decide +kernel
theorem dn_Machine_asked_172 : decode bn_Machine_asked 172 = .ok (.lload_n 1, 1) := by decide +kernel
theorem dn_Machine_asked_173 : decode bn_Machine_asked 173 = .ok (.lconst 0, 1) := by decide +kernel
theorem dn_Machine_asked_174 : decode bn_Machine_asked 174 = .ok (.lcmp, 1) := by decide +kernel
theorem dn_Machine_asked_175 : decode bn_Machine_asked 175 = .ok (.ifCond .eq 13, 3) := by decide +kernel
theorem dn_Machine_asked_178 : decode bn_Machine_asked 178 = .ok (.lload_n 3, 1) := by decide +kernel
theorem dn_Machine_asked_179 : decode bn_Machine_asked 179 = .ok (.lconst 0, 1) := by decide +kernel
theorem dn_Machine_asked_180 : decode bn_Machine_asked 180 = .ok (.lcmp, 1) := by decide +kernel
theorem dn_Machine_asked_181 : decode bn_Machine_asked 181 = .ok (.ifCond .eq 7, 3) := by decide +kernel
theorem dn_Machine_asked_184 : decode bn_Machine_asked 184 = .ok (.iconst 1, 1) := by decide +kernel
theorem dn_Machine_asked_185 : decode bn_Machine_asked 185 = .ok (.goto 4, 3) := by decide +kernel
theorem dn_Machine_asked_188 : decode bn_Machine_asked 188 = .ok (.iconst 0, 1) := by decide +kernel
theorem dn_Machine_asked_189 : decode bn_Machine_asked 189 = .ok (.ireturn, 1) := by decide +kernel
theorem dn_Machine_asked_190 : decode bn_Machine_asked 190 = .ok (.lload_n 1, 1) := by decide +kernel
theorem dn_Machine_asked_191 : decode bn_Machine_asked 191 = .ok (.lconst 0, 1) := by decide +kernel
theorem dn_Machine_asked_192 : decode bn_Machine_asked 192 = .ok (.lcmp, 1) := by decide +kernel
theorem dn_Machine_asked_193 : decode bn_Machine_asked 193 = .ok (.ifCond .ne 9, 3) := by decide +kernel
theorem dn_Machine_asked_196 : decode bn_Machine_asked 196 = .ok (.lload_n 3, 1) := by decide +kernel
theorem dn_Machine_asked_197 : decode bn_Machine_asked 197 = .ok (.lconst 0, 1) := by decide +kernel
theorem dn_Machine_asked_198 : decode bn_Machine_asked 198 = .ok (.lcmp, 1) := by decide +kernel
theorem dn_Machine_asked_199 : decode bn_Machine_asked 199 = .ok (.ifCond .eq 7, 3) := by decide +kernel
theorem dn_Machine_asked_202 : decode bn_Machine_asked 202 = .ok (.iconst 1, 1) := by decide +kernel
theorem dn_Machine_asked_203 : decode bn_Machine_asked 203 = .ok (.goto 4, 3) := by decide +kernel
theorem dn_Machine_asked_206 : decode bn_Machine_asked 206 = .ok (.iconst 0, 1) := by decide +kernel
theorem dn_Machine_asked_207 : decode bn_Machine_asked 207 = .ok (.ireturn, 1) := by decide +kernel
theorem dn_Machine_isBeyond_0 : decode bn_Machine_isBeyond 0 = .ok (.lload_n 0, 1) := by decide +kernel
theorem dn_Machine_isBeyond_1 : decode bn_Machine_isBeyond 1 = .ok (.lconst 0, 1) := by decide +kernel
theorem dn_Machine_isBeyond_2 : decode bn_Machine_isBeyond 2 = .ok (.lcmp, 1) := by decide +kernel
theorem dn_Machine_isBeyond_3 : decode bn_Machine_isBeyond 3 = .ok (.ifCond .lt 11, 3) := by decide +kernel
theorem dn_Machine_isBeyond_6 : decode bn_Machine_isBeyond 6 = .ok (.lload_n 0, 1) := by decide +kernel
theorem dn_Machine_isBeyond_7 : decode bn_Machine_isBeyond 7 = .ok (.ldc2_w 164, 3) := by decide +kernel
theorem dn_Machine_isBeyond_10 : decode bn_Machine_isBeyond 10 = .ok (.lcmp, 1) := by decide +kernel
theorem dn_Machine_isBeyond_11 : decode bn_Machine_isBeyond 11 = .ok (.ifCond .lt 7, 3) := by decide +kernel
theorem dn_Machine_isBeyond_14 : decode bn_Machine_isBeyond 14 = .ok (.iconst 1, 1) := by decide +kernel
theorem dn_Machine_isBeyond_15 : decode bn_Machine_isBeyond 15 = .ok (.goto 4, 3) := by decide +kernel
theorem dn_Machine_isBeyond_18 : decode bn_Machine_isBeyond 18 = .ok (.iconst 0, 1) := by decide +kernel
theorem dn_Machine_isBeyond_19 : decode bn_Machine_isBeyond 19 = .ok (.ireturn, 1) := by decide +kernel
theorem dn_Machine_one_0 : decode bn_Machine_one 0 = .ok (.iload_n 0, 1) := by decide +kernel
theorem dn_Machine_one_1 : decode bn_Machine_one 1 = .ok (.lookupswitch 149 #[(33, 86), (38, 98), (45, 78), (91, 133), (94, 125), (124, 113), (126, 67)], 67) := by decide +kernel
theorem dn_Machine_one_68 : decode bn_Machine_one 68 = .ok (.lload_n 2, 1) := by decide +kernel
theorem dn_Machine_one_69 : decode bn_Machine_one 69 = .ok (.ldc2_w 145, 3) := by decide +kernel
theorem dn_Machine_one_72 : decode bn_Machine_one 72 = .ok (.lxor, 1) := by decide +kernel
theorem dn_Machine_one_73 : decode bn_Machine_one 73 = .ok (.iload_n 1, 1) := by decide +kernel
theorem dn_Machine_one_74 : decode bn_Machine_one 74 = .ok (.invokestatic 142, 3) := by decide +kernel
theorem dn_Machine_one_77 : decode bn_Machine_one 77 = .ok (.land, 1) := by decide +kernel
theorem dn_Machine_one_78 : decode bn_Machine_one 78 = .ok (.lreturn, 1) := by decide +kernel
theorem dn_Machine_one_79 : decode bn_Machine_one 79 = .ok (.lload_n 2, 1) := by decide +kernel
theorem dn_Machine_one_80 : decode bn_Machine_one 80 = .ok (.lneg, 1) := by decide +kernel
theorem dn_Machine_one_81 : decode bn_Machine_one 81 = .ok (.iload_n 1, 1) := by decide +kernel
theorem dn_Machine_one_82 : decode bn_Machine_one 82 = .ok (.invokestatic 142, 3) := by decide +kernel
theorem dn_Machine_one_85 : decode bn_Machine_one 85 = .ok (.land, 1) := by decide +kernel
theorem dn_Machine_one_86 : decode bn_Machine_one 86 = .ok (.lreturn, 1) := by decide +kernel
theorem dn_Machine_one_87 : decode bn_Machine_one 87 = .ok (.lload_n 2, 1) := by decide +kernel
theorem dn_Machine_one_88 : decode bn_Machine_one 88 = .ok (.lconst 0, 1) := by decide +kernel
theorem dn_Machine_one_89 : decode bn_Machine_one 89 = .ok (.lcmp, 1) := by decide +kernel
theorem dn_Machine_one_90 : decode bn_Machine_one 90 = .ok (.ifCond .ne 7, 3) := by decide +kernel
theorem dn_Machine_one_93 : decode bn_Machine_one 93 = .ok (.lconst 1, 1) := by decide +kernel
theorem dn_Machine_one_94 : decode bn_Machine_one 94 = .ok (.goto 4, 3) := by decide +kernel
theorem dn_Machine_one_97 : decode bn_Machine_one 97 = .ok (.lconst 0, 1) := by decide +kernel
theorem dn_Machine_one_98 : decode bn_Machine_one 98 = .ok (.lreturn, 1) := by decide +kernel
theorem dn_Machine_one_99 : decode bn_Machine_one 99 = .ok (.lload_n 2, 1) := by decide +kernel
theorem dn_Machine_one_100 : decode bn_Machine_one 100 = .ok (.iload_n 1, 1) := by decide +kernel
theorem dn_Machine_one_101 : decode bn_Machine_one 101 = .ok (.invokestatic 142, 3) := by decide +kernel
theorem dn_Machine_one_104 : decode bn_Machine_one 104 = .ok (.lcmp, 1) := by decide +kernel
theorem dn_Machine_one_105 : decode bn_Machine_one 105 = .ok (.ifCond .ne 7, 3) := by decide +kernel
theorem dn_Machine_one_108 : decode bn_Machine_one 108 = .ok (.lconst 1, 1) := by decide +kernel
theorem dn_Machine_one_109 : decode bn_Machine_one 109 = .ok (.goto 4, 3) := by decide +kernel
theorem dn_Machine_one_112 : decode bn_Machine_one 112 = .ok (.lconst 0, 1) := by decide +kernel
theorem dn_Machine_one_113 : decode bn_Machine_one 113 = .ok (.lreturn, 1) := by decide +kernel
theorem dn_Machine_one_114 : decode bn_Machine_one 114 = .ok (.lload_n 2, 1) := by decide +kernel
theorem dn_Machine_one_115 : decode bn_Machine_one 115 = .ok (.lconst 0, 1) := by decide +kernel
theorem dn_Machine_one_116 : decode bn_Machine_one 116 = .ok (.lcmp, 1) := by decide +kernel
theorem dn_Machine_one_117 : decode bn_Machine_one 117 = .ok (.ifCond .eq 7, 3) := by decide +kernel
theorem dn_Machine_one_120 : decode bn_Machine_one 120 = .ok (.lconst 1, 1) := by decide +kernel
theorem dn_Machine_one_121 : decode bn_Machine_one 121 = .ok (.goto 4, 3) := by decide +kernel
theorem dn_Machine_one_124 : decode bn_Machine_one 124 = .ok (.lconst 0, 1) := by decide +kernel
theorem dn_Machine_one_125 : decode bn_Machine_one 125 = .ok (.lreturn, 1) := by decide +kernel
theorem dn_Machine_one_126 : decode bn_Machine_one 126 = .ok (.lload_n 2, 1) := by decide +kernel
theorem dn_Machine_one_127 : decode bn_Machine_one 127 = .ok (.invokestatic 147, 3) := by decide +kernel
theorem dn_Machine_one_130 : decode bn_Machine_one 130 = .ok (.iconst 1, 1) := by decide +kernel
theorem dn_Machine_one_131 : decode bn_Machine_one 131 = .ok (.iand, 1) := by decide +kernel
theorem dn_Machine_one_132 : decode bn_Machine_one 132 = .ok (.i2l, 1) := by decide +kernel
theorem dn_Machine_one_133 : decode bn_Machine_one 133 = .ok (.lreturn, 1) := by decide +kernel
theorem dn_Machine_one_134 : decode bn_Machine_one 134 = .ok (.lload_n 2, 1) := by decide +kernel
theorem dn_Machine_one_135 : decode bn_Machine_one 135 = .ok (.iload_n 1, 1) := by decide +kernel
theorem dn_Machine_one_136 : decode bn_Machine_one 136 = .ok (.bipush 8, 2) := by decide +kernel
theorem dn_Machine_one_138 : decode bn_Machine_one 138 = .ok (.iushr, 1) := by decide +kernel
theorem dn_Machine_one_139 : decode bn_Machine_one 139 = .ok (.lushr, 1) := by decide +kernel
theorem dn_Machine_one_140 : decode bn_Machine_one 140 = .ok (.iload_n 1, 1) := by decide +kernel
theorem dn_Machine_one_141 : decode bn_Machine_one 141 = .ok (.sipush 255, 3) := by decide +kernel
theorem dn_Machine_one_144 : decode bn_Machine_one 144 = .ok (.iand, 1) := by decide +kernel
theorem dn_Machine_one_145 : decode bn_Machine_one 145 = .ok (.invokestatic 142, 3) := by decide +kernel
theorem dn_Machine_one_148 : decode bn_Machine_one 148 = .ok (.land, 1) := by decide +kernel
theorem dn_Machine_one_149 : decode bn_Machine_one 149 = .ok (.lreturn, 1) := by decide +kernel
theorem dn_Machine_one_150 : decode bn_Machine_one 150 = .ok (.iload_n 1, 1) := by decide +kernel
theorem dn_Machine_one_151 : decode bn_Machine_one 151 = .ok (.bipush 8, 2) := by decide +kernel
theorem dn_Machine_one_153 : decode bn_Machine_one 153 = .ok (.iushr, 1) := by decide +kernel
theorem dn_Machine_one_154 : decode bn_Machine_one 154 = .ok (.iload_n 1, 1) := by decide +kernel
theorem dn_Machine_one_155 : decode bn_Machine_one 155 = .ok (.sipush 255, 3) := by decide +kernel
theorem dn_Machine_one_158 : decode bn_Machine_one 158 = .ok (.iand, 1) := by decide +kernel
theorem dn_Machine_one_159 : decode bn_Machine_one 159 = .ok (.lload_n 2, 1) := by decide +kernel
theorem dn_Machine_one_160 : decode bn_Machine_one 160 = .ok (.invokestatic 153, 3) := by decide +kernel
theorem dn_Machine_one_163 : decode bn_Machine_one 163 = .ok (.lreturn, 1) := by decide +kernel
theorem dn_Machine_put_0 : decode bn_Machine_put 0 = .ok (.iload_n 1, 1) := by decide +kernel
theorem dn_Machine_put_1 : decode bn_Machine_put 1 = .ok (.ifCond .lt 12, 3) := by decide +kernel
theorem dn_Machine_put_4 : decode bn_Machine_put 4 = .ok (.iload_n 1, 1) := by decide +kernel
theorem dn_Machine_put_5 : decode bn_Machine_put 5 = .ok (.aload_n 0, 1) := by decide +kernel
theorem dn_Machine_put_6 : decode bn_Machine_put 6 = .ok (.getfield 9, 3) := by decide +kernel
theorem dn_Machine_put_9 : decode bn_Machine_put 9 = .ok (.arraylength, 1) := by decide +kernel
theorem dn_Machine_put_10 : decode bn_Machine_put 10 = .ok (.if_icmp .lt 4, 3) := by decide +kernel
theorem dn_Machine_put_13 : decode bn_Machine_put 13 = .ok (.return_, 1) := by decide +kernel
theorem dn_Machine_put_14 : decode bn_Machine_put 14 = .ok (.aload_n 0, 1) := by decide +kernel
theorem dn_Machine_put_15 : decode bn_Machine_put 15 = .ok (.getfield 9, 3) := by decide +kernel
theorem dn_Machine_put_18 : decode bn_Machine_put 18 = .ok (.iload_n 1, 1) := by decide +kernel
theorem dn_Machine_put_19 : decode bn_Machine_put 19 = .ok (.lload_n 2, 1) := by decide +kernel
theorem dn_Machine_put_20 : decode bn_Machine_put 20 = .ok (.lastore, 1) := by decide +kernel
theorem dn_Machine_put_21 : decode bn_Machine_put 21 = .ok (.aload_n 0, 1) := by decide +kernel
theorem dn_Machine_put_22 : decode bn_Machine_put 22 = .ok (.iconst 0, 1) := by decide +kernel
theorem dn_Machine_put_23 : decode bn_Machine_put 23 = .ok (.putfield 34, 3) := by decide +kernel
theorem dn_Machine_put_26 : decode bn_Machine_put 26 = .ok (.return_, 1) := by decide +kernel
theorem dn_Machine_repeated_0 : decode bn_Machine_repeated 0 = .ok (.lload_n 2, 1) := by decide +kernel
theorem dn_Machine_repeated_1 : decode bn_Machine_repeated 1 = .ok (.lstore 4, 2) := by decide +kernel
theorem dn_Machine_repeated_3 : decode bn_Machine_repeated 3 = .ok (.iconst 1, 1) := by decide +kernel
theorem dn_Machine_repeated_4 : decode bn_Machine_repeated 4 = .ok (.istore 6, 2) := by decide +kernel
theorem dn_Machine_repeated_6 : decode bn_Machine_repeated 6 = .ok (.iload 6, 2) := by decide +kernel
theorem dn_Machine_repeated_8 : decode bn_Machine_repeated 8 = .ok (.iload_n 0, 1) := by decide +kernel
theorem dn_Machine_repeated_9 : decode bn_Machine_repeated 9 = .ok (.if_icmp .ge 17, 3) := by decide +kernel
theorem dn_Machine_repeated_12 : decode bn_Machine_repeated 12 = .ok (.lload 4, 2) := by decide +kernel
theorem dn_Machine_repeated_14 : decode bn_Machine_repeated 14 = .ok (.iload_n 1, 1) := by decide +kernel
theorem dn_Machine_repeated_15 : decode bn_Machine_repeated 15 = .ok (.lshl, 1) := by decide +kernel
theorem dn_Machine_repeated_16 : decode bn_Machine_repeated 16 = .ok (.lload_n 2, 1) := by decide +kernel
theorem dn_Machine_repeated_17 : decode bn_Machine_repeated 17 = .ok (.lor, 1) := by decide +kernel
theorem dn_Machine_repeated_18 : decode bn_Machine_repeated 18 = .ok (.lstore 4, 2) := by decide +kernel
theorem dn_Machine_repeated_20 : decode bn_Machine_repeated 20 = .ok (.iinc 6 1, 3) := by decide +kernel
theorem dn_Machine_repeated_23 : decode bn_Machine_repeated 23 = .ok (.goto (-17), 3) := by decide +kernel
theorem dn_Machine_repeated_26 : decode bn_Machine_repeated 26 = .ok (.lload 4, 2) := by decide +kernel
theorem dn_Machine_repeated_28 : decode bn_Machine_repeated 28 = .ok (.lreturn, 1) := by decide +kernel
theorem dn_Machine_restart_0 : decode bn_Machine_restart 0 = .ok (.iconst 0, 1) := by decide +kernel
theorem dn_Machine_restart_1 : decode bn_Machine_restart 1 = .ok (.istore_n 2, 1) := by decide +kernel
theorem dn_Machine_restart_2 : decode bn_Machine_restart 2 = .ok (.iload_n 2, 1) := by decide +kernel
theorem dn_Machine_restart_3 : decode bn_Machine_restart 3 = .ok (.aload_n 1, 1) := by decide +kernel
theorem dn_Machine_restart_4 : decode bn_Machine_restart 4 = .ok (.getfield 21, 3) := by decide +kernel
theorem dn_Machine_restart_7 : decode bn_Machine_restart 7 = .ok (.if_icmp .ge 20, 3) := by decide +kernel
theorem dn_Machine_restart_10 : decode bn_Machine_restart 10 = .ok (.aload_n 0, 1) := by decide +kernel
theorem dn_Machine_restart_11 : decode bn_Machine_restart 11 = .ok (.getfield 9, 3) := by decide +kernel
theorem dn_Machine_restart_14 : decode bn_Machine_restart 14 = .ok (.iload_n 2, 1) := by decide +kernel
theorem dn_Machine_restart_15 : decode bn_Machine_restart 15 = .ok (.aload_n 1, 1) := by decide +kernel
theorem dn_Machine_restart_16 : decode bn_Machine_restart 16 = .ok (.iload_n 2, 1) := by decide +kernel
theorem dn_Machine_restart_17 : decode bn_Machine_restart 17 = .ok (.invokevirtual 27, 3) := by decide +kernel
theorem dn_Machine_restart_20 : decode bn_Machine_restart 20 = .ok (.lastore, 1) := by decide +kernel
theorem dn_Machine_restart_21 : decode bn_Machine_restart 21 = .ok (.iinc 2 1, 3) := by decide +kernel
theorem dn_Machine_restart_24 : decode bn_Machine_restart 24 = .ok (.goto (-22), 3) := by decide +kernel
theorem dn_Machine_restart_27 : decode bn_Machine_restart 27 = .ok (.aload_n 0, 1) := by decide +kernel
theorem dn_Machine_restart_28 : decode bn_Machine_restart 28 = .ok (.iconst 0, 1) := by decide +kernel
theorem dn_Machine_restart_29 : decode bn_Machine_restart 29 = .ok (.putfield 31, 3) := by decide +kernel
theorem dn_Machine_restart_32 : decode bn_Machine_restart 32 = .ok (.aload_n 0, 1) := by decide +kernel
theorem dn_Machine_restart_33 : decode bn_Machine_restart 33 = .ok (.iconst 0, 1) := by decide +kernel
theorem dn_Machine_restart_34 : decode bn_Machine_restart 34 = .ok (.putfield 34, 3) := by decide +kernel
theorem dn_Machine_restart_37 : decode bn_Machine_restart 37 = .ok (.return_, 1) := by decide +kernel
theorem dn_Machine_run_0 : decode bn_Machine_run 0 = .ok (.iconst 3, 1) := by decide +kernel
theorem dn_Machine_run_1 : decode bn_Machine_run 1 = .ok (.istore 5, 2) := by decide +kernel
theorem dn_Machine_run_3 : decode bn_Machine_run 3 = .ok (.iload_n 3, 1) := by decide +kernel
theorem dn_Machine_run_4 : decode bn_Machine_run 4 = .ok (.aload_n 1, 1) := by decide +kernel
theorem dn_Machine_run_5 : decode bn_Machine_run 5 = .ok (.getfield 107, 3) := by decide +kernel
theorem dn_Machine_run_8 : decode bn_Machine_run 8 = .ok (.invokestatic 112, 3) := by decide +kernel
theorem dn_Machine_run_11 : decode bn_Machine_run 11 = .ok (.istore 6, 2) := by decide +kernel
theorem dn_Machine_run_13 : decode bn_Machine_run 13 = .ok (.iload_n 2, 1) := by decide +kernel
theorem dn_Machine_run_14 : decode bn_Machine_run 14 = .ok (.iconst 0, 1) := by decide +kernel
theorem dn_Machine_run_15 : decode bn_Machine_run 15 = .ok (.invokestatic 118, 3) := by decide +kernel
theorem dn_Machine_run_18 : decode bn_Machine_run 18 = .ok (.istore 7, 2) := by decide +kernel
theorem dn_Machine_run_20 : decode bn_Machine_run 20 = .ok (.iload 7, 2) := by decide +kernel
theorem dn_Machine_run_22 : decode bn_Machine_run 22 = .ok (.iload 6, 2) := by decide +kernel
theorem dn_Machine_run_24 : decode bn_Machine_run 24 = .ok (.if_icmp .ge 384, 3) := by decide +kernel
theorem dn_Machine_run_27 : decode bn_Machine_run 27 = .ok (.iload 5, 2) := by decide +kernel
theorem dn_Machine_run_29 : decode bn_Machine_run 29 = .ok (.iconst 3, 1) := by decide +kernel
theorem dn_Machine_run_30 : decode bn_Machine_run 30 = .ok (.if_icmp .lt 378, 3) := by decide +kernel
theorem dn_Machine_run_33 : decode bn_Machine_run 33 = .ok (.iload 5, 2) := by decide +kernel
theorem dn_Machine_run_35 : decode bn_Machine_run 35 = .ok (.iconst 1, 1) := by decide +kernel
theorem dn_Machine_run_36 : decode bn_Machine_run 36 = .ok (.iadd, 1) := by decide +kernel
theorem dn_Machine_run_37 : decode bn_Machine_run 37 = .ok (.aload_n 0, 1) := by decide +kernel
theorem dn_Machine_run_38 : decode bn_Machine_run 38 = .ok (.getfield 18, 3) := by decide +kernel
theorem dn_Machine_run_41 : decode bn_Machine_run 41 = .ok (.arraylength, 1) := by decide +kernel
theorem dn_Machine_run_42 : decode bn_Machine_run 42 = .ok (.if_icmp .ge 366, 3) := by decide +kernel
theorem dn_Machine_run_45 : decode bn_Machine_run 45 = .ok (.aload_n 1, 1) := by decide +kernel
theorem dn_Machine_run_46 : decode bn_Machine_run 46 = .ok (.iload 7, 2) := by decide +kernel
theorem dn_Machine_run_48 : decode bn_Machine_run 48 = .ok (.invokevirtual 121, 3) := by decide +kernel
theorem dn_Machine_run_51 : decode bn_Machine_run 51 = .ok (.istore 8, 2) := by decide +kernel
theorem dn_Machine_run_53 : decode bn_Machine_run 53 = .ok (.aload_n 1, 1) := by decide +kernel
theorem dn_Machine_run_54 : decode bn_Machine_run 54 = .ok (.iload 7, 2) := by decide +kernel
theorem dn_Machine_run_56 : decode bn_Machine_run 56 = .ok (.invokevirtual 124, 3) := by decide +kernel
theorem dn_Machine_run_59 : decode bn_Machine_run 59 = .ok (.istore 9, 2) := by decide +kernel
theorem dn_Machine_run_61 : decode bn_Machine_run 61 = .ok (.iload 8, 2) := by decide +kernel
theorem dn_Machine_run_63 : decode bn_Machine_run 63 = .ok (.sipush 256, 3) := by decide +kernel
theorem dn_Machine_run_66 : decode bn_Machine_run 66 = .ok (.if_icmp .ge 39, 3) := by decide +kernel
theorem dn_Machine_run_69 : decode bn_Machine_run 69 = .ok (.iinc 5 (-1), 3) := by decide +kernel
theorem dn_Machine_run_72 : decode bn_Machine_run 72 = .ok (.aload_n 0, 1) := by decide +kernel
theorem dn_Machine_run_73 : decode bn_Machine_run 73 = .ok (.getfield 18, 3) := by decide +kernel
theorem dn_Machine_run_76 : decode bn_Machine_run 76 = .ok (.iload 5, 2) := by decide +kernel
theorem dn_Machine_run_78 : decode bn_Machine_run 78 = .ok (.iload 8, 2) := by decide +kernel
theorem dn_Machine_run_80 : decode bn_Machine_run 80 = .ok (.iload 9, 2) := by decide +kernel
theorem dn_Machine_run_82 : decode bn_Machine_run 82 = .ok (.aload_n 0, 1) := by decide +kernel
theorem dn_Machine_run_83 : decode bn_Machine_run 83 = .ok (.getfield 18, 3) := by decide +kernel
theorem dn_Machine_run_86 : decode bn_Machine_run 86 = .ok (.iload 5, 2) := by decide +kernel
theorem dn_Machine_run_88 : decode bn_Machine_run 88 = .ok (.laload, 1) := by decide +kernel
theorem dn_Machine_run_89 : decode bn_Machine_run 89 = .ok (.aload_n 0, 1) := by decide +kernel
theorem dn_Machine_run_90 : decode bn_Machine_run 90 = .ok (.getfield 18, 3) := by decide +kernel
theorem dn_Machine_run_93 : decode bn_Machine_run 93 = .ok (.iload 5, 2) := by decide +kernel
theorem dn_Machine_run_95 : decode bn_Machine_run 95 = .ok (.iconst 1, 1) := by decide +kernel
theorem dn_Machine_run_96 : decode bn_Machine_run 96 = .ok (.iadd, 1) := by decide +kernel
theorem dn_Machine_run_97 : decode bn_Machine_run 97 = .ok (.laload, 1) := by decide +kernel
theorem dn_Machine_run_98 : decode bn_Machine_run 98 = .ok (.invokestatic 127, 3) := by decide +kernel
theorem dn_Machine_run_101 : decode bn_Machine_run 101 = .ok (.lastore, 1) := by decide +kernel
theorem dn_Machine_run_102 : decode bn_Machine_run 102 = .ok (.goto 300, 3) := by decide +kernel
theorem dn_Machine_run_105 : decode bn_Machine_run 105 = .ok (.iload 8, 2) := by decide +kernel
theorem dn_Machine_run_107 : decode bn_Machine_run 107 = .ok (.sipush 512, 3) := by decide +kernel
theorem dn_Machine_run_110 : decode bn_Machine_run 110 = .ok (.if_icmp .ge 31, 3) := by decide +kernel
theorem dn_Machine_run_113 : decode bn_Machine_run 113 = .ok (.aload_n 0, 1) := by decide +kernel
theorem dn_Machine_run_114 : decode bn_Machine_run 114 = .ok (.getfield 18, 3) := by decide +kernel
theorem dn_Machine_run_117 : decode bn_Machine_run 117 = .ok (.iload 5, 2) := by decide +kernel
theorem dn_Machine_run_119 : decode bn_Machine_run 119 = .ok (.iload 8, 2) := by decide +kernel
theorem dn_Machine_run_121 : decode bn_Machine_run 121 = .ok (.sipush 256, 3) := by decide +kernel
theorem dn_Machine_run_124 : decode bn_Machine_run 124 = .ok (.isub, 1) := by decide +kernel
theorem dn_Machine_run_125 : decode bn_Machine_run 125 = .ok (.iload 9, 2) := by decide +kernel
theorem dn_Machine_run_127 : decode bn_Machine_run 127 = .ok (.aload_n 0, 1) := by decide +kernel
theorem dn_Machine_run_128 : decode bn_Machine_run 128 = .ok (.getfield 18, 3) := by decide +kernel
theorem dn_Machine_run_131 : decode bn_Machine_run 131 = .ok (.iload 5, 2) := by decide +kernel
theorem dn_Machine_run_133 : decode bn_Machine_run 133 = .ok (.laload, 1) := by decide +kernel
theorem dn_Machine_run_134 : decode bn_Machine_run 134 = .ok (.invokestatic 131, 3) := by decide +kernel
theorem dn_Machine_run_137 : decode bn_Machine_run 137 = .ok (.lastore, 1) := by decide +kernel
theorem dn_Machine_run_138 : decode bn_Machine_run 138 = .ok (.goto 264, 3) := by decide +kernel
theorem dn_Machine_run_141 : decode bn_Machine_run 141 = .ok (.iload 8, 2) := by decide +kernel
theorem dn_Machine_run_143 : decode bn_Machine_run 143 = .ok (.sipush 514, 3) := by decide +kernel
theorem dn_Machine_run_146 : decode bn_Machine_run 146 = .ok (.if_icmp .ne 49, 3) := by decide +kernel
theorem dn_Machine_run_149 : decode bn_Machine_run 149 = .ok (.iload 4, 2) := by decide +kernel
theorem dn_Machine_run_151 : decode bn_Machine_run 151 = .ok (.iload 9, 2) := by decide +kernel
theorem dn_Machine_run_153 : decode bn_Machine_run 153 = .ok (.iadd, 1) := by decide +kernel
theorem dn_Machine_run_154 : decode bn_Machine_run 154 = .ok (.istore 10, 2) := by decide +kernel
theorem dn_Machine_run_156 : decode bn_Machine_run 156 = .ok (.iinc 5 1, 3) := by decide +kernel
theorem dn_Machine_run_159 : decode bn_Machine_run 159 = .ok (.aload_n 0, 1) := by decide +kernel
theorem dn_Machine_run_160 : decode bn_Machine_run 160 = .ok (.getfield 18, 3) := by decide +kernel
theorem dn_Machine_run_163 : decode bn_Machine_run 163 = .ok (.iload 5, 2) := by decide +kernel
theorem dn_Machine_run_165 : decode bn_Machine_run 165 = .ok (.iload 10, 2) := by decide +kernel
theorem dn_Machine_run_167 : decode bn_Machine_run 167 = .ok (.ifCond .lt 23, 3) := by decide +kernel
theorem dn_Machine_run_170 : decode bn_Machine_run 170 = .ok (.iload 10, 2) := by decide +kernel
theorem dn_Machine_run_172 : decode bn_Machine_run 172 = .ok (.aload_n 0, 1) := by decide +kernel
theorem dn_Machine_run_173 : decode bn_Machine_run 173 = .ok (.getfield 9, 3) := by decide +kernel
theorem dn_Machine_run_176 : decode bn_Machine_run 176 = .ok (.arraylength, 1) := by decide +kernel
theorem dn_Machine_run_177 : decode bn_Machine_run 177 = .ok (.if_icmp .ge 13, 3) := by decide +kernel
theorem dn_Machine_run_180 : decode bn_Machine_run 180 = .ok (.aload_n 0, 1) := by decide +kernel
theorem dn_Machine_run_181 : decode bn_Machine_run 181 = .ok (.getfield 9, 3) := by decide +kernel
theorem dn_Machine_run_184 : decode bn_Machine_run 184 = .ok (.iload 10, 2) := by decide +kernel
theorem dn_Machine_run_186 : decode bn_Machine_run 186 = .ok (.laload, 1) := by decide +kernel
theorem dn_Machine_run_187 : decode bn_Machine_run 187 = .ok (.goto 4, 3) := by decide +kernel
theorem dn_Machine_run_190 : decode bn_Machine_run 190 = .ok (.lconst 0, 1) := by decide +kernel
theorem dn_Machine_run_191 : decode bn_Machine_run 191 = .ok (.lastore, 1) := by decide +kernel
theorem dn_Machine_run_192 : decode bn_Machine_run 192 = .ok (.goto 210, 3) := by decide +kernel
theorem dn_Machine_run_195 : decode bn_Machine_run 195 = .ok (.iload 8, 2) := by decide +kernel
theorem dn_Machine_run_197 : decode bn_Machine_run 197 = .ok (.sipush 513, 3) := by decide +kernel
theorem dn_Machine_run_200 : decode bn_Machine_run 200 = .ok (.if_icmp .ne 22, 3) := by decide +kernel
theorem dn_Machine_run_203 : decode bn_Machine_run 203 = .ok (.iinc 5 1, 3) := by decide +kernel
theorem dn_Machine_run_206 : decode bn_Machine_run 206 = .ok (.aload_n 0, 1) := by decide +kernel
theorem dn_Machine_run_207 : decode bn_Machine_run 207 = .ok (.getfield 18, 3) := by decide +kernel
theorem dn_Machine_run_210 : decode bn_Machine_run 210 = .ok (.iload 5, 2) := by decide +kernel
theorem dn_Machine_run_212 : decode bn_Machine_run 212 = .ok (.aload_n 1, 1) := by decide +kernel
theorem dn_Machine_run_213 : decode bn_Machine_run 213 = .ok (.iload 9, 2) := by decide +kernel
theorem dn_Machine_run_215 : decode bn_Machine_run 215 = .ok (.invokevirtual 135, 3) := by decide +kernel
theorem dn_Machine_run_218 : decode bn_Machine_run 218 = .ok (.lastore, 1) := by decide +kernel
theorem dn_Machine_run_219 : decode bn_Machine_run 219 = .ok (.goto 183, 3) := by decide +kernel
theorem dn_Machine_run_222 : decode bn_Machine_run 222 = .ok (.iload 8, 2) := by decide +kernel
theorem dn_Machine_run_224 : decode bn_Machine_run 224 = .ok (.sipush 512, 3) := by decide +kernel
theorem dn_Machine_run_227 : decode bn_Machine_run 227 = .ok (.if_icmp .ne 49, 3) := by decide +kernel
theorem dn_Machine_run_230 : decode bn_Machine_run 230 = .ok (.iinc 5 (-2), 3) := by decide +kernel
theorem dn_Machine_run_233 : decode bn_Machine_run 233 = .ok (.aload_n 0, 1) := by decide +kernel
theorem dn_Machine_run_234 : decode bn_Machine_run 234 = .ok (.getfield 18, 3) := by decide +kernel
theorem dn_Machine_run_237 : decode bn_Machine_run 237 = .ok (.iload 5, 2) := by decide +kernel
theorem dn_Machine_run_239 : decode bn_Machine_run 239 = .ok (.aload_n 0, 1) := by decide +kernel
theorem dn_Machine_run_240 : decode bn_Machine_run 240 = .ok (.getfield 18, 3) := by decide +kernel
theorem dn_Machine_run_243 : decode bn_Machine_run 243 = .ok (.iload 5, 2) := by decide +kernel
theorem dn_Machine_run_245 : decode bn_Machine_run 245 = .ok (.laload, 1) := by decide +kernel
theorem dn_Machine_run_246 : decode bn_Machine_run 246 = .ok (.lconst 0, 1) := by decide +kernel
theorem dn_Machine_run_247 : decode bn_Machine_run 247 = .ok (.lcmp, 1) := by decide +kernel
theorem dn_Machine_run_248 : decode bn_Machine_run 248 = .ok (.ifCond .eq 15, 3) := by decide +kernel
theorem dn_Machine_run_251 : decode bn_Machine_run 251 = .ok (.aload_n 0, 1) := by decide +kernel
theorem dn_Machine_run_252 : decode bn_Machine_run 252 = .ok (.getfield 18, 3) := by decide +kernel
theorem dn_Machine_run_255 : decode bn_Machine_run 255 = .ok (.iload 5, 2) := by decide +kernel
theorem dn_Machine_run_257 : decode bn_Machine_run 257 = .ok (.iconst 1, 1) := by decide +kernel
theorem dn_Machine_run_258 : decode bn_Machine_run 258 = .ok (.iadd, 1) := by decide +kernel
theorem dn_Machine_run_259 : decode bn_Machine_run 259 = .ok (.laload, 1) := by decide +kernel
theorem dn_Machine_run_260 : decode bn_Machine_run 260 = .ok (.goto 12, 3) := by decide +kernel
theorem dn_Machine_run_263 : decode bn_Machine_run 263 = .ok (.aload_n 0, 1) := by decide +kernel
theorem dn_Machine_run_264 : decode bn_Machine_run 264 = .ok (.getfield 18, 3) := by decide +kernel
theorem dn_Machine_run_267 : decode bn_Machine_run 267 = .ok (.iload 5, 2) := by decide +kernel
theorem dn_Machine_run_269 : decode bn_Machine_run 269 = .ok (.iconst 2, 1) := by decide +kernel
theorem dn_Machine_run_270 : decode bn_Machine_run 270 = .ok (.iadd, 1) := by decide +kernel
theorem dn_Machine_run_271 : decode bn_Machine_run 271 = .ok (.laload, 1) := by decide +kernel
theorem dn_Machine_run_272 : decode bn_Machine_run 272 = .ok (.lastore, 1) := by decide +kernel
theorem dn_Machine_run_273 : decode bn_Machine_run 273 = .ok (.goto 129, 3) := by decide +kernel
theorem dn_Machine_run_276 : decode bn_Machine_run 276 = .ok (.iload 8, 2) := by decide +kernel
theorem dn_Machine_run_278 : decode bn_Machine_run 278 = .ok (.sipush 517, 3) := by decide +kernel
theorem dn_Machine_run_281 : decode bn_Machine_run 281 = .ok (.if_icmp .ne 17, 3) := by decide +kernel
theorem dn_Machine_run_284 : decode bn_Machine_run 284 = .ok (.iload 7, 2) := by decide +kernel
theorem dn_Machine_run_286 : decode bn_Machine_run 286 = .ok (.iload 9, 2) := by decide +kernel
theorem dn_Machine_run_288 : decode bn_Machine_run 288 = .ok (.iconst 1, 1) := by decide +kernel
theorem dn_Machine_run_289 : decode bn_Machine_run 289 = .ok (.isub, 1) := by decide +kernel
theorem dn_Machine_run_290 : decode bn_Machine_run 290 = .ok (.invokestatic 118, 3) := by decide +kernel
theorem dn_Machine_run_293 : decode bn_Machine_run 293 = .ok (.istore 7, 2) := by decide +kernel
theorem dn_Machine_run_295 : decode bn_Machine_run 295 = .ok (.goto 107, 3) := by decide +kernel
theorem dn_Machine_run_298 : decode bn_Machine_run 298 = .ok (.iload 8, 2) := by decide +kernel
theorem dn_Machine_run_300 : decode bn_Machine_run 300 = .ok (.sipush 519, 3) := by decide +kernel
theorem dn_Machine_run_303 : decode bn_Machine_run 303 = .ok (.if_icmp .ne 40, 3) := by decide +kernel
theorem dn_Machine_run_306 : decode bn_Machine_run 306 = .ok (.iinc 5 (-1), 3) := by decide +kernel
theorem dn_Machine_run_309 : decode bn_Machine_run 309 = .ok (.aload_n 0, 1) := by decide +kernel
theorem dn_Machine_run_310 : decode bn_Machine_run 310 = .ok (.getfield 18, 3) := by decide +kernel
theorem dn_Machine_run_313 : decode bn_Machine_run 313 = .ok (.iload 5, 2) := by decide +kernel
theorem dn_Machine_run_315 : decode bn_Machine_run 315 = .ok (.laload, 1) := by decide +kernel
theorem dn_Machine_run_316 : decode bn_Machine_run 316 = .ok (.aload_n 0, 1) := by decide +kernel
theorem dn_Machine_run_317 : decode bn_Machine_run 317 = .ok (.getfield 18, 3) := by decide +kernel
theorem dn_Machine_run_320 : decode bn_Machine_run 320 = .ok (.iload 5, 2) := by decide +kernel
theorem dn_Machine_run_322 : decode bn_Machine_run 322 = .ok (.iconst 1, 1) := by decide +kernel
theorem dn_Machine_run_323 : decode bn_Machine_run 323 = .ok (.iadd, 1) := by decide +kernel
theorem dn_Machine_run_324 : decode bn_Machine_run 324 = .ok (.laload, 1) := by decide +kernel
theorem dn_Machine_run_325 : decode bn_Machine_run 325 = .ok (.lcmp, 1) := by decide +kernel
theorem dn_Machine_run_326 : decode bn_Machine_run 326 = .ok (.ifCond .ne 76, 3) := by decide +kernel
theorem dn_Machine_run_329 : decode bn_Machine_run 329 = .ok (.iload 7, 2) := by decide +kernel
theorem dn_Machine_run_331 : decode bn_Machine_run 331 = .ok (.iload 9, 2) := by decide +kernel
theorem dn_Machine_run_333 : decode bn_Machine_run 333 = .ok (.iconst 1, 1) := by decide +kernel
theorem dn_Machine_run_334 : decode bn_Machine_run 334 = .ok (.isub, 1) := by decide +kernel
theorem dn_Machine_run_335 : decode bn_Machine_run 335 = .ok (.invokestatic 118, 3) := by decide +kernel
theorem dn_Machine_run_338 : decode bn_Machine_run 338 = .ok (.istore 7, 2) := by decide +kernel
theorem dn_Machine_run_340 : decode bn_Machine_run 340 = .ok (.goto 62, 3) := by decide +kernel
theorem dn_Machine_run_343 : decode bn_Machine_run 343 = .ok (.aload_n 0, 1) := by decide +kernel
theorem dn_Machine_run_344 : decode bn_Machine_run 344 = .ok (.getfield 18, 3) := by decide +kernel
theorem dn_Machine_run_347 : decode bn_Machine_run 347 = .ok (.iload 5, 2) := by decide +kernel
theorem dn_Machine_run_349 : decode bn_Machine_run 349 = .ok (.laload, 1) := by decide +kernel
theorem dn_Machine_run_350 : decode bn_Machine_run 350 = .ok (.lstore 10, 2) := by decide +kernel
theorem dn_Machine_run_352 : decode bn_Machine_run 352 = .ok (.iinc 5 (-1), 3) := by decide +kernel
theorem dn_Machine_run_355 : decode bn_Machine_run 355 = .ok (.iload 8, 2) := by decide +kernel
theorem dn_Machine_run_357 : decode bn_Machine_run 357 = .ok (.sipush 515, 3) := by decide +kernel
theorem dn_Machine_run_360 : decode bn_Machine_run 360 = .ok (.if_icmp .ne 16, 3) := by decide +kernel
theorem dn_Machine_run_363 : decode bn_Machine_run 363 = .ok (.aload_n 0, 1) := by decide +kernel
theorem dn_Machine_run_364 : decode bn_Machine_run 364 = .ok (.iload 4, 2) := by decide +kernel
theorem dn_Machine_run_366 : decode bn_Machine_run 366 = .ok (.iload 9, 2) := by decide +kernel
theorem dn_Machine_run_368 : decode bn_Machine_run 368 = .ok (.lload 10, 2) := by decide +kernel
theorem dn_Machine_run_370 : decode bn_Machine_run 370 = .ok (.invokevirtual 138, 3) := by decide +kernel
theorem dn_Machine_run_373 : decode bn_Machine_run 373 = .ok (.goto 29, 3) := by decide +kernel
theorem dn_Machine_run_376 : decode bn_Machine_run 376 = .ok (.iload 8, 2) := by decide +kernel
theorem dn_Machine_run_378 : decode bn_Machine_run 378 = .ok (.sipush 518, 3) := by decide +kernel
theorem dn_Machine_run_381 : decode bn_Machine_run 381 = .ok (.if_icmp .ne 21, 3) := by decide +kernel
theorem dn_Machine_run_384 : decode bn_Machine_run 384 = .ok (.lload 10, 2) := by decide +kernel
theorem dn_Machine_run_386 : decode bn_Machine_run 386 = .ok (.lconst 0, 1) := by decide +kernel
theorem dn_Machine_run_387 : decode bn_Machine_run 387 = .ok (.lcmp, 1) := by decide +kernel
theorem dn_Machine_run_388 : decode bn_Machine_run 388 = .ok (.ifCond .ne 14, 3) := by decide +kernel
theorem dn_Machine_run_391 : decode bn_Machine_run 391 = .ok (.iload 7, 2) := by decide +kernel
theorem dn_Machine_run_393 : decode bn_Machine_run 393 = .ok (.iload 9, 2) := by decide +kernel
theorem dn_Machine_run_395 : decode bn_Machine_run 395 = .ok (.iconst 1, 1) := by decide +kernel
theorem dn_Machine_run_396 : decode bn_Machine_run 396 = .ok (.isub, 1) := by decide +kernel
theorem dn_Machine_run_397 : decode bn_Machine_run 397 = .ok (.invokestatic 118, 3) := by decide +kernel
theorem dn_Machine_run_400 : decode bn_Machine_run 400 = .ok (.istore 7, 2) := by decide +kernel
theorem dn_Machine_run_402 : decode bn_Machine_run 402 = .ok (.iinc 7 1, 3) := by decide +kernel
theorem dn_Machine_run_405 : decode bn_Machine_run 405 = .ok (.goto (-385), 3) := by decide +kernel
theorem dn_Machine_run_408 : decode bn_Machine_run 408 = .ok (.iload 5, 2) := by decide +kernel
theorem dn_Machine_run_410 : decode bn_Machine_run 410 = .ok (.ifCond .lt 23, 3) := by decide +kernel
theorem dn_Machine_run_413 : decode bn_Machine_run 413 = .ok (.iload 5, 2) := by decide +kernel
theorem dn_Machine_run_415 : decode bn_Machine_run 415 = .ok (.aload_n 0, 1) := by decide +kernel
theorem dn_Machine_run_416 : decode bn_Machine_run 416 = .ok (.getfield 18, 3) := by decide +kernel
theorem dn_Machine_run_419 : decode bn_Machine_run 419 = .ok (.arraylength, 1) := by decide +kernel
theorem dn_Machine_run_420 : decode bn_Machine_run 420 = .ok (.if_icmp .ge 13, 3) := by decide +kernel
theorem dn_Machine_run_423 : decode bn_Machine_run 423 = .ok (.aload_n 0, 1) := by decide +kernel
theorem dn_Machine_run_424 : decode bn_Machine_run 424 = .ok (.getfield 18, 3) := by decide +kernel
theorem dn_Machine_run_427 : decode bn_Machine_run 427 = .ok (.iload 5, 2) := by decide +kernel
theorem dn_Machine_run_429 : decode bn_Machine_run 429 = .ok (.laload, 1) := by decide +kernel
theorem dn_Machine_run_430 : decode bn_Machine_run 430 = .ok (.goto 4, 3) := by decide +kernel
theorem dn_Machine_run_433 : decode bn_Machine_run 433 = .ok (.lconst 0, 1) := by decide +kernel
theorem dn_Machine_run_434 : decode bn_Machine_run 434 = .ok (.lreturn, 1) := by decide +kernel
theorem dn_Machine_runPieces_0 : decode bn_Machine_runPieces 0 = .ok (.aload_n 1, 1) := by decide +kernel
theorem dn_Machine_runPieces_1 : decode bn_Machine_runPieces 1 = .ok (.getfield 52, 3) := by decide +kernel
theorem dn_Machine_runPieces_4 : decode bn_Machine_runPieces 4 = .ok (.astore_n 3, 1) := by decide +kernel
theorem dn_Machine_runPieces_5 : decode bn_Machine_runPieces 5 = .ok (.iconst 0, 1) := by decide +kernel
theorem dn_Machine_runPieces_6 : decode bn_Machine_runPieces 6 = .ok (.istore 4, 2) := by decide +kernel
theorem dn_Machine_runPieces_8 : decode bn_Machine_runPieces 8 = .ok (.iconst 0, 1) := by decide +kernel
theorem dn_Machine_runPieces_9 : decode bn_Machine_runPieces 9 = .ok (.istore 5, 2) := by decide +kernel
theorem dn_Machine_runPieces_11 : decode bn_Machine_runPieces 11 = .ok (.iload 5, 2) := by decide +kernel
theorem dn_Machine_runPieces_13 : decode bn_Machine_runPieces 13 = .ok (.aload_n 1, 1) := by decide +kernel
theorem dn_Machine_runPieces_14 : decode bn_Machine_runPieces 14 = .ok (.getfield 85, 3) := by decide +kernel
theorem dn_Machine_runPieces_17 : decode bn_Machine_runPieces 17 = .ok (.if_icmp .ge 105, 3) := by decide +kernel
theorem dn_Machine_runPieces_20 : decode bn_Machine_runPieces 20 = .ok (.aload_n 3, 1) := by decide +kernel
theorem dn_Machine_runPieces_21 : decode bn_Machine_runPieces 21 = .ok (.aload_n 1, 1) := by decide +kernel
theorem dn_Machine_runPieces_22 : decode bn_Machine_runPieces 22 = .ok (.getfield 88, 3) := by decide +kernel
theorem dn_Machine_runPieces_25 : decode bn_Machine_runPieces 25 = .ok (.iload 5, 2) := by decide +kernel
theorem dn_Machine_runPieces_27 : decode bn_Machine_runPieces 27 = .ok (.iaload, 1) := by decide +kernel
theorem dn_Machine_runPieces_28 : decode bn_Machine_runPieces 28 = .ok (.iconst 1, 1) := by decide +kernel
theorem dn_Machine_runPieces_29 : decode bn_Machine_runPieces 29 = .ok (.iadd, 1) := by decide +kernel
theorem dn_Machine_runPieces_30 : decode bn_Machine_runPieces 30 = .ok (.invokevirtual 91, 3) := by decide +kernel
theorem dn_Machine_runPieces_33 : decode bn_Machine_runPieces 33 = .ok (.istore 6, 2) := by decide +kernel
theorem dn_Machine_runPieces_35 : decode bn_Machine_runPieces 35 = .ok (.aload_n 3, 1) := by decide +kernel
theorem dn_Machine_runPieces_36 : decode bn_Machine_runPieces 36 = .ok (.aload_n 1, 1) := by decide +kernel
theorem dn_Machine_runPieces_37 : decode bn_Machine_runPieces 37 = .ok (.getfield 88, 3) := by decide +kernel
theorem dn_Machine_runPieces_40 : decode bn_Machine_runPieces 40 = .ok (.iload 5, 2) := by decide +kernel
theorem dn_Machine_runPieces_42 : decode bn_Machine_runPieces 42 = .ok (.iaload, 1) := by decide +kernel
theorem dn_Machine_runPieces_43 : decode bn_Machine_runPieces 43 = .ok (.invokevirtual 91, 3) := by decide +kernel
theorem dn_Machine_runPieces_46 : decode bn_Machine_runPieces 46 = .ok (.istore 7, 2) := by decide +kernel
theorem dn_Machine_runPieces_48 : decode bn_Machine_runPieces 48 = .ok (.iload 7, 2) := by decide +kernel
theorem dn_Machine_runPieces_50 : decode bn_Machine_runPieces 50 = .ok (.iload 6, 2) := by decide +kernel
theorem dn_Machine_runPieces_52 : decode bn_Machine_runPieces 52 = .ok (.if_icmp .ge 64, 3) := by decide +kernel
theorem dn_Machine_runPieces_55 : decode bn_Machine_runPieces 55 = .ok (.aload_n 3, 1) := by decide +kernel
theorem dn_Machine_runPieces_56 : decode bn_Machine_runPieces 56 = .ok (.getfield 95, 3) := by decide +kernel
theorem dn_Machine_runPieces_59 : decode bn_Machine_runPieces 59 = .ok (.iload 7, 2) := by decide +kernel
theorem dn_Machine_runPieces_61 : decode bn_Machine_runPieces 61 = .ok (.iaload, 1) := by decide +kernel
theorem dn_Machine_runPieces_62 : decode bn_Machine_runPieces 62 = .ok (.iload_n 2, 1) := by decide +kernel
theorem dn_Machine_runPieces_63 : decode bn_Machine_runPieces 63 = .ok (.if_icmp .eq 6, 3) := by decide +kernel
theorem dn_Machine_runPieces_66 : decode bn_Machine_runPieces 66 = .ok (.goto 44, 3) := by decide +kernel
theorem dn_Machine_runPieces_69 : decode bn_Machine_runPieces 69 = .ok (.aload_n 0, 1) := by decide +kernel
theorem dn_Machine_runPieces_70 : decode bn_Machine_runPieces 70 = .ok (.aload_n 3, 1) := by decide +kernel
theorem dn_Machine_runPieces_71 : decode bn_Machine_runPieces 71 = .ok (.getfield 56, 3) := by decide +kernel
theorem dn_Machine_runPieces_74 : decode bn_Machine_runPieces 74 = .ok (.aload_n 3, 1) := by decide +kernel
theorem dn_Machine_runPieces_75 : decode bn_Machine_runPieces 75 = .ok (.getfield 98, 3) := by decide +kernel
theorem dn_Machine_runPieces_78 : decode bn_Machine_runPieces 78 = .ok (.iload 7, 2) := by decide +kernel
theorem dn_Machine_runPieces_80 : decode bn_Machine_runPieces 80 = .ok (.iaload, 1) := by decide +kernel
theorem dn_Machine_runPieces_81 : decode bn_Machine_runPieces 81 = .ok (.aload_n 3, 1) := by decide +kernel
theorem dn_Machine_runPieces_82 : decode bn_Machine_runPieces 82 = .ok (.getfield 101, 3) := by decide +kernel
theorem dn_Machine_runPieces_85 : decode bn_Machine_runPieces 85 = .ok (.iload 7, 2) := by decide +kernel
theorem dn_Machine_runPieces_87 : decode bn_Machine_runPieces 87 = .ok (.iaload, 1) := by decide +kernel
theorem dn_Machine_runPieces_88 : decode bn_Machine_runPieces 88 = .ok (.aload_n 1, 1) := by decide +kernel
theorem dn_Machine_runPieces_89 : decode bn_Machine_runPieces 89 = .ok (.getfield 104, 3) := by decide +kernel
theorem dn_Machine_runPieces_92 : decode bn_Machine_runPieces 92 = .ok (.iload 5, 2) := by decide +kernel
theorem dn_Machine_runPieces_94 : decode bn_Machine_runPieces 94 = .ok (.iaload, 1) := by decide +kernel
theorem dn_Machine_runPieces_95 : decode bn_Machine_runPieces 95 = .ok (.invokevirtual 81, 3) := by decide +kernel
theorem dn_Machine_runPieces_98 : decode bn_Machine_runPieces 98 = .ok (.lstore 8, 2) := by decide +kernel
theorem dn_Machine_runPieces_100 : decode bn_Machine_runPieces 100 = .ok (.lload 8, 2) := by decide +kernel
theorem dn_Machine_runPieces_102 : decode bn_Machine_runPieces 102 = .ok (.lconst 0, 1) := by decide +kernel
theorem dn_Machine_runPieces_103 : decode bn_Machine_runPieces 103 = .ok (.lcmp, 1) := by decide +kernel
theorem dn_Machine_runPieces_104 : decode bn_Machine_runPieces 104 = .ok (.ifCond .ne 6, 3) := by decide +kernel
theorem dn_Machine_runPieces_107 : decode bn_Machine_runPieces 107 = .ok (.iinc 4 1, 3) := by decide +kernel
theorem dn_Machine_runPieces_110 : decode bn_Machine_runPieces 110 = .ok (.iinc 7 1, 3) := by decide +kernel
theorem dn_Machine_runPieces_113 : decode bn_Machine_runPieces 113 = .ok (.goto (-65), 3) := by decide +kernel
theorem dn_Machine_runPieces_116 : decode bn_Machine_runPieces 116 = .ok (.iinc 5 1, 3) := by decide +kernel
theorem dn_Machine_runPieces_119 : decode bn_Machine_runPieces 119 = .ok (.goto (-108), 3) := by decide +kernel
theorem dn_Machine_runPieces_122 : decode bn_Machine_runPieces 122 = .ok (.iload 4, 2) := by decide +kernel
theorem dn_Machine_runPieces_124 : decode bn_Machine_runPieces 124 = .ok (.ireturn, 1) := by decide +kernel
theorem dn_Machine_settle_0 : decode bn_Machine_settle 0 = .ok (.aload_n 0, 1) := by decide +kernel
theorem dn_Machine_settle_1 : decode bn_Machine_settle 1 = .ok (.getfield 34, 3) := by decide +kernel
theorem dn_Machine_settle_4 : decode bn_Machine_settle 4 = .ok (.ifCond .eq 4, 3) := by decide +kernel
theorem dn_Machine_settle_7 : decode bn_Machine_settle 7 = .ok (.return_, 1) := by decide +kernel
theorem dn_Machine_settle_8 : decode bn_Machine_settle 8 = .ok (.aload_n 1, 1) := by decide +kernel
theorem dn_Machine_settle_9 : decode bn_Machine_settle 9 = .ok (.getfield 52, 3) := by decide +kernel
theorem dn_Machine_settle_12 : decode bn_Machine_settle 12 = .ok (.getfield 56, 3) := by decide +kernel
theorem dn_Machine_settle_15 : decode bn_Machine_settle 15 = .ok (.astore_n 2, 1) := by decide +kernel
theorem dn_Machine_settle_16 : decode bn_Machine_settle 16 = .ok (.iconst 0, 1) := by decide +kernel
theorem dn_Machine_settle_17 : decode bn_Machine_settle 17 = .ok (.istore_n 3, 1) := by decide +kernel
theorem dn_Machine_settle_18 : decode bn_Machine_settle 18 = .ok (.iload_n 3, 1) := by decide +kernel
theorem dn_Machine_settle_19 : decode bn_Machine_settle 19 = .ok (.aload_n 1, 1) := by decide +kernel
theorem dn_Machine_settle_20 : decode bn_Machine_settle 20 = .ok (.getfield 62, 3) := by decide +kernel
theorem dn_Machine_settle_23 : decode bn_Machine_settle 23 = .ok (.if_icmp .ge 82, 3) := by decide +kernel
theorem dn_Machine_settle_26 : decode bn_Machine_settle 26 = .ok (.aload_n 1, 1) := by decide +kernel
theorem dn_Machine_settle_27 : decode bn_Machine_settle 27 = .ok (.getfield 65, 3) := by decide +kernel
theorem dn_Machine_settle_30 : decode bn_Machine_settle 30 = .ok (.iload_n 3, 1) := by decide +kernel
theorem dn_Machine_settle_31 : decode bn_Machine_settle 31 = .ok (.iaload, 1) := by decide +kernel
theorem dn_Machine_settle_32 : decode bn_Machine_settle 32 = .ok (.istore 4, 2) := by decide +kernel
theorem dn_Machine_settle_34 : decode bn_Machine_settle 34 = .ok (.aload_n 1, 1) := by decide +kernel
theorem dn_Machine_settle_35 : decode bn_Machine_settle 35 = .ok (.getfield 69, 3) := by decide +kernel
theorem dn_Machine_settle_38 : decode bn_Machine_settle 38 = .ok (.iload 4, 2) := by decide +kernel
theorem dn_Machine_settle_40 : decode bn_Machine_settle 40 = .ok (.iaload, 1) := by decide +kernel
theorem dn_Machine_settle_41 : decode bn_Machine_settle 41 = .ok (.istore 5, 2) := by decide +kernel
theorem dn_Machine_settle_43 : decode bn_Machine_settle 43 = .ok (.iload 5, 2) := by decide +kernel
theorem dn_Machine_settle_45 : decode bn_Machine_settle 45 = .ok (.iconst (-1), 1) := by decide +kernel
theorem dn_Machine_settle_46 : decode bn_Machine_settle 46 = .ok (.if_icmp .eq 20, 3) := by decide +kernel
theorem dn_Machine_settle_49 : decode bn_Machine_settle 49 = .ok (.aload_n 0, 1) := by decide +kernel
theorem dn_Machine_settle_50 : decode bn_Machine_settle 50 = .ok (.getfield 9, 3) := by decide +kernel
theorem dn_Machine_settle_53 : decode bn_Machine_settle 53 = .ok (.iload 4, 2) := by decide +kernel
theorem dn_Machine_settle_55 : decode bn_Machine_settle 55 = .ok (.aload_n 0, 1) := by decide +kernel
theorem dn_Machine_settle_56 : decode bn_Machine_settle 56 = .ok (.getfield 9, 3) := by decide +kernel
theorem dn_Machine_settle_59 : decode bn_Machine_settle 59 = .ok (.iload 5, 2) := by decide +kernel
theorem dn_Machine_settle_61 : decode bn_Machine_settle 61 = .ok (.laload, 1) := by decide +kernel
theorem dn_Machine_settle_62 : decode bn_Machine_settle 62 = .ok (.lastore, 1) := by decide +kernel
theorem dn_Machine_settle_63 : decode bn_Machine_settle 63 = .ok (.goto 36, 3) := by decide +kernel
theorem dn_Machine_settle_66 : decode bn_Machine_settle 66 = .ok (.aload_n 0, 1) := by decide +kernel
theorem dn_Machine_settle_67 : decode bn_Machine_settle 67 = .ok (.getfield 9, 3) := by decide +kernel
theorem dn_Machine_settle_70 : decode bn_Machine_settle 70 = .ok (.iload 4, 2) := by decide +kernel
theorem dn_Machine_settle_72 : decode bn_Machine_settle 72 = .ok (.aload_n 0, 1) := by decide +kernel
theorem dn_Machine_settle_73 : decode bn_Machine_settle 73 = .ok (.aload_n 2, 1) := by decide +kernel
theorem dn_Machine_settle_74 : decode bn_Machine_settle 74 = .ok (.aload_n 1, 1) := by decide +kernel
theorem dn_Machine_settle_75 : decode bn_Machine_settle 75 = .ok (.getfield 72, 3) := by decide +kernel
theorem dn_Machine_settle_78 : decode bn_Machine_settle 78 = .ok (.iload 4, 2) := by decide +kernel
theorem dn_Machine_settle_80 : decode bn_Machine_settle 80 = .ok (.iaload, 1) := by decide +kernel
theorem dn_Machine_settle_81 : decode bn_Machine_settle 81 = .ok (.aload_n 1, 1) := by decide +kernel
theorem dn_Machine_settle_82 : decode bn_Machine_settle 82 = .ok (.getfield 75, 3) := by decide +kernel
theorem dn_Machine_settle_85 : decode bn_Machine_settle 85 = .ok (.iload 4, 2) := by decide +kernel
theorem dn_Machine_settle_87 : decode bn_Machine_settle 87 = .ok (.iaload, 1) := by decide +kernel
theorem dn_Machine_settle_88 : decode bn_Machine_settle 88 = .ok (.aload_n 1, 1) := by decide +kernel
theorem dn_Machine_settle_89 : decode bn_Machine_settle 89 = .ok (.getfield 78, 3) := by decide +kernel
theorem dn_Machine_settle_92 : decode bn_Machine_settle 92 = .ok (.iload 4, 2) := by decide +kernel
theorem dn_Machine_settle_94 : decode bn_Machine_settle 94 = .ok (.iaload, 1) := by decide +kernel
theorem dn_Machine_settle_95 : decode bn_Machine_settle 95 = .ok (.invokevirtual 81, 3) := by decide +kernel
theorem dn_Machine_settle_98 : decode bn_Machine_settle 98 = .ok (.lastore, 1) := by decide +kernel
theorem dn_Machine_settle_99 : decode bn_Machine_settle 99 = .ok (.iinc 3 1, 3) := by decide +kernel
theorem dn_Machine_settle_102 : decode bn_Machine_settle 102 = .ok (.goto (-84), 3) := by decide +kernel
theorem dn_Machine_settle_105 : decode bn_Machine_settle 105 = .ok (.aload_n 0, 1) := by decide +kernel
theorem dn_Machine_settle_106 : decode bn_Machine_settle 106 = .ok (.iconst 1, 1) := by decide +kernel
theorem dn_Machine_settle_107 : decode bn_Machine_settle 107 = .ok (.putfield 34, 3) := by decide +kernel
theorem dn_Machine_settle_110 : decode bn_Machine_settle 110 = .ok (.return_, 1) := by decide +kernel
theorem dn_Machine_store_0 : decode bn_Machine_store 0 = .ok (.iload_n 1, 1) := by decide +kernel
theorem dn_Machine_store_1 : decode bn_Machine_store 1 = .ok (.iload_n 2, 1) := by decide +kernel
theorem dn_Machine_store_2 : decode bn_Machine_store 2 = .ok (.bipush 14, 2) := by decide +kernel
theorem dn_Machine_store_4 : decode bn_Machine_store 4 = .ok (.iushr, 1) := by decide +kernel
theorem dn_Machine_store_5 : decode bn_Machine_store 5 = .ok (.iadd, 1) := by decide +kernel
theorem dn_Machine_store_6 : decode bn_Machine_store 6 = .ok (.istore 5, 2) := by decide +kernel
theorem dn_Machine_store_8 : decode bn_Machine_store 8 = .ok (.iload_n 2, 1) := by decide +kernel
theorem dn_Machine_store_9 : decode bn_Machine_store 9 = .ok (.bipush 7, 2) := by decide +kernel
theorem dn_Machine_store_11 : decode bn_Machine_store 11 = .ok (.iushr, 1) := by decide +kernel
theorem dn_Machine_store_12 : decode bn_Machine_store 12 = .ok (.bipush 127, 2) := by decide +kernel
theorem dn_Machine_store_14 : decode bn_Machine_store 14 = .ok (.iand, 1) := by decide +kernel
theorem dn_Machine_store_15 : decode bn_Machine_store 15 = .ok (.istore 6, 2) := by decide +kernel
theorem dn_Machine_store_17 : decode bn_Machine_store 17 = .ok (.iload 5, 2) := by decide +kernel
theorem dn_Machine_store_19 : decode bn_Machine_store 19 = .ok (.ifCond .lt 13, 3) := by decide +kernel
theorem dn_Machine_store_22 : decode bn_Machine_store 22 = .ok (.iload 5, 2) := by decide +kernel
theorem dn_Machine_store_24 : decode bn_Machine_store 24 = .ok (.aload_n 0, 1) := by decide +kernel
theorem dn_Machine_store_25 : decode bn_Machine_store 25 = .ok (.getfield 15, 3) := by decide +kernel
theorem dn_Machine_store_28 : decode bn_Machine_store 28 = .ok (.arraylength, 1) := by decide +kernel
theorem dn_Machine_store_29 : decode bn_Machine_store 29 = .ok (.if_icmp .lt 4, 3) := by decide +kernel
theorem dn_Machine_store_32 : decode bn_Machine_store 32 = .ok (.return_, 1) := by decide +kernel
theorem dn_Machine_store_33 : decode bn_Machine_store 33 = .ok (.iload_n 2, 1) := by decide +kernel
theorem dn_Machine_store_34 : decode bn_Machine_store 34 = .ok (.bipush 127, 2) := by decide +kernel
theorem dn_Machine_store_36 : decode bn_Machine_store 36 = .ok (.iand, 1) := by decide +kernel
theorem dn_Machine_store_37 : decode bn_Machine_store 37 = .ok (.invokestatic 142, 3) := by decide +kernel
theorem dn_Machine_store_40 : decode bn_Machine_store 40 = .ok (.iload 6, 2) := by decide +kernel
theorem dn_Machine_store_42 : decode bn_Machine_store 42 = .ok (.lshl, 1) := by decide +kernel
theorem dn_Machine_store_43 : decode bn_Machine_store 43 = .ok (.lstore 7, 2) := by decide +kernel
theorem dn_Machine_store_45 : decode bn_Machine_store 45 = .ok (.aload_n 0, 1) := by decide +kernel
theorem dn_Machine_store_46 : decode bn_Machine_store 46 = .ok (.getfield 15, 3) := by decide +kernel
theorem dn_Machine_store_49 : decode bn_Machine_store 49 = .ok (.iload 5, 2) := by decide +kernel
theorem dn_Machine_store_51 : decode bn_Machine_store 51 = .ok (.aload_n 0, 1) := by decide +kernel
theorem dn_Machine_store_52 : decode bn_Machine_store 52 = .ok (.getfield 15, 3) := by decide +kernel
theorem dn_Machine_store_55 : decode bn_Machine_store 55 = .ok (.iload 5, 2) := by decide +kernel
theorem dn_Machine_store_57 : decode bn_Machine_store 57 = .ok (.laload, 1) := by decide +kernel
theorem dn_Machine_store_58 : decode bn_Machine_store 58 = .ok (.lload 7, 2) := by decide +kernel
theorem dn_Machine_store_60 : decode bn_Machine_store 60 = .ok (.ldc2_w 145, 3) := by decide +kernel
theorem dn_Machine_store_63 : decode bn_Machine_store 63 = .ok (.lxor, 1) := by decide +kernel
theorem dn_Machine_store_64 : decode bn_Machine_store 64 = .ok (.land, 1) := by decide +kernel
theorem dn_Machine_store_65 : decode bn_Machine_store 65 = .ok (.lload_n 3, 1) := by decide +kernel
theorem dn_Machine_store_66 : decode bn_Machine_store 66 = .ok (.iload 6, 2) := by decide +kernel
theorem dn_Machine_store_68 : decode bn_Machine_store 68 = .ok (.lshl, 1) := by decide +kernel
theorem dn_Machine_store_69 : decode bn_Machine_store 69 = .ok (.lor, 1) := by decide +kernel
theorem dn_Machine_store_70 : decode bn_Machine_store 70 = .ok (.lastore, 1) := by decide +kernel
theorem dn_Machine_store_71 : decode bn_Machine_store 71 = .ok (.return_, 1) := by decide +kernel
theorem dn_Machine_two_0 : decode bn_Machine_two 0 = .ok (.iload_n 0, 1) := by decide +kernel
theorem dn_Machine_two_1 : decode bn_Machine_two 1 = .ok (.lookupswitch 204 #[(11, 136), (12, 159), (38, 121), (42, 111), (43, 91), (44, 197), (45, 101), (91, 177), (94, 131), (124, 126)], 91) := by decide +kernel
theorem dn_Machine_two_92 : decode bn_Machine_two 92 = .ok (.lload_n 2, 1) := by decide +kernel
theorem dn_Machine_two_93 : decode bn_Machine_two 93 = .ok (.lload 4, 2) := by decide +kernel
theorem dn_Machine_two_95 : decode bn_Machine_two 95 = .ok (.ladd, 1) := by decide +kernel
theorem dn_Machine_two_96 : decode bn_Machine_two 96 = .ok (.iload_n 1, 1) := by decide +kernel
theorem dn_Machine_two_97 : decode bn_Machine_two 97 = .ok (.invokestatic 142, 3) := by decide +kernel
theorem dn_Machine_two_100 : decode bn_Machine_two 100 = .ok (.land, 1) := by decide +kernel
theorem dn_Machine_two_101 : decode bn_Machine_two 101 = .ok (.lreturn, 1) := by decide +kernel
theorem dn_Machine_two_102 : decode bn_Machine_two 102 = .ok (.lload_n 2, 1) := by decide +kernel
theorem dn_Machine_two_103 : decode bn_Machine_two 103 = .ok (.lload 4, 2) := by decide +kernel
theorem dn_Machine_two_105 : decode bn_Machine_two 105 = .ok (.lsub, 1) := by decide +kernel
theorem dn_Machine_two_106 : decode bn_Machine_two 106 = .ok (.iload_n 1, 1) := by decide +kernel
theorem dn_Machine_two_107 : decode bn_Machine_two 107 = .ok (.invokestatic 142, 3) := by decide +kernel
theorem dn_Machine_two_110 : decode bn_Machine_two 110 = .ok (.land, 1) := by decide +kernel
theorem dn_Machine_two_111 : decode bn_Machine_two 111 = .ok (.lreturn, 1) := by decide +kernel
theorem dn_Machine_two_112 : decode bn_Machine_two 112 = .ok (.lload_n 2, 1) := by decide +kernel
theorem dn_Machine_two_113 : decode bn_Machine_two 113 = .ok (.lload 4, 2) := by decide +kernel
theorem dn_Machine_two_115 : decode bn_Machine_two 115 = .ok (.lmul, 1) := by decide +kernel
theorem dn_Machine_two_116 : decode bn_Machine_two 116 = .ok (.iload_n 1, 1) := by decide +kernel
theorem dn_Machine_two_117 : decode bn_Machine_two 117 = .ok (.invokestatic 142, 3) := by decide +kernel
theorem dn_Machine_two_120 : decode bn_Machine_two 120 = .ok (.land, 1) := by decide +kernel
theorem dn_Machine_two_121 : decode bn_Machine_two 121 = .ok (.lreturn, 1) := by decide +kernel
theorem dn_Machine_two_122 : decode bn_Machine_two 122 = .ok (.lload_n 2, 1) := by decide +kernel
theorem dn_Machine_two_123 : decode bn_Machine_two 123 = .ok (.lload 4, 2) := by decide +kernel
theorem dn_Machine_two_125 : decode bn_Machine_two 125 = .ok (.land, 1) := by decide +kernel
theorem dn_Machine_two_126 : decode bn_Machine_two 126 = .ok (.lreturn, 1) := by decide +kernel
theorem dn_Machine_two_127 : decode bn_Machine_two 127 = .ok (.lload_n 2, 1) := by decide +kernel
theorem dn_Machine_two_128 : decode bn_Machine_two 128 = .ok (.lload 4, 2) := by decide +kernel
theorem dn_Machine_two_130 : decode bn_Machine_two 130 = .ok (.lor, 1) := by decide +kernel
theorem dn_Machine_two_131 : decode bn_Machine_two 131 = .ok (.lreturn, 1) := by decide +kernel
theorem dn_Machine_two_132 : decode bn_Machine_two 132 = .ok (.lload_n 2, 1) := by decide +kernel
theorem dn_Machine_two_133 : decode bn_Machine_two 133 = .ok (.lload 4, 2) := by decide +kernel
theorem dn_Machine_two_135 : decode bn_Machine_two 135 = .ok (.lxor, 1) := by decide +kernel
theorem dn_Machine_two_136 : decode bn_Machine_two 136 = .ok (.lreturn, 1) := by decide +kernel
theorem dn_Machine_two_137 : decode bn_Machine_two 137 = .ok (.lload 4, 2) := by decide +kernel
theorem dn_Machine_two_139 : decode bn_Machine_two 139 = .ok (.invokestatic 156, 3) := by decide +kernel
theorem dn_Machine_two_142 : decode bn_Machine_two 142 = .ok (.ifCond .eq 7, 3) := by decide +kernel
theorem dn_Machine_two_145 : decode bn_Machine_two 145 = .ok (.lconst 0, 1) := by decide +kernel
theorem dn_Machine_two_146 : decode bn_Machine_two 146 = .ok (.goto 13, 3) := by decide +kernel
theorem dn_Machine_two_149 : decode bn_Machine_two 149 = .ok (.lload_n 2, 1) := by decide +kernel
theorem dn_Machine_two_150 : decode bn_Machine_two 150 = .ok (.lload 4, 2) := by decide +kernel
theorem dn_Machine_two_152 : decode bn_Machine_two 152 = .ok (.l2i, 1) := by decide +kernel
theorem dn_Machine_two_153 : decode bn_Machine_two 153 = .ok (.lshl, 1) := by decide +kernel
theorem dn_Machine_two_154 : decode bn_Machine_two 154 = .ok (.iload_n 1, 1) := by decide +kernel
theorem dn_Machine_two_155 : decode bn_Machine_two 155 = .ok (.invokestatic 142, 3) := by decide +kernel
theorem dn_Machine_two_158 : decode bn_Machine_two 158 = .ok (.land, 1) := by decide +kernel
theorem dn_Machine_two_159 : decode bn_Machine_two 159 = .ok (.lreturn, 1) := by decide +kernel
theorem dn_Machine_two_160 : decode bn_Machine_two 160 = .ok (.lload 4, 2) := by decide +kernel
theorem dn_Machine_two_162 : decode bn_Machine_two 162 = .ok (.invokestatic 156, 3) := by decide +kernel
theorem dn_Machine_two_165 : decode bn_Machine_two 165 = .ok (.ifCond .eq 7, 3) := by decide +kernel
theorem dn_Machine_two_168 : decode bn_Machine_two 168 = .ok (.lconst 0, 1) := by decide +kernel
theorem dn_Machine_two_169 : decode bn_Machine_two 169 = .ok (.goto 8, 3) := by decide +kernel
theorem dn_Machine_two_172 : decode bn_Machine_two 172 = .ok (.lload_n 2, 1) := by decide +kernel
theorem dn_Machine_two_173 : decode bn_Machine_two 173 = .ok (.lload 4, 2) := by decide +kernel
theorem dn_Machine_two_175 : decode bn_Machine_two 175 = .ok (.l2i, 1) := by decide +kernel
theorem dn_Machine_two_176 : decode bn_Machine_two 176 = .ok (.lushr, 1) := by decide +kernel
theorem dn_Machine_two_177 : decode bn_Machine_two 177 = .ok (.lreturn, 1) := by decide +kernel
theorem dn_Machine_two_178 : decode bn_Machine_two 178 = .ok (.lload 4, 2) := by decide +kernel
theorem dn_Machine_two_180 : decode bn_Machine_two 180 = .ok (.invokestatic 156, 3) := by decide +kernel
theorem dn_Machine_two_183 : decode bn_Machine_two 183 = .ok (.ifCond .eq 7, 3) := by decide +kernel
theorem dn_Machine_two_186 : decode bn_Machine_two 186 = .ok (.lconst 0, 1) := by decide +kernel
theorem dn_Machine_two_187 : decode bn_Machine_two 187 = .ok (.goto 10, 3) := by decide +kernel
theorem dn_Machine_two_190 : decode bn_Machine_two 190 = .ok (.lload_n 2, 1) := by decide +kernel
theorem dn_Machine_two_191 : decode bn_Machine_two 191 = .ok (.lload 4, 2) := by decide +kernel
theorem dn_Machine_two_193 : decode bn_Machine_two 193 = .ok (.l2i, 1) := by decide +kernel
theorem dn_Machine_two_194 : decode bn_Machine_two 194 = .ok (.lushr, 1) := by decide +kernel
theorem dn_Machine_two_195 : decode bn_Machine_two 195 = .ok (.lconst 1, 1) := by decide +kernel
theorem dn_Machine_two_196 : decode bn_Machine_two 196 = .ok (.land, 1) := by decide +kernel
theorem dn_Machine_two_197 : decode bn_Machine_two 197 = .ok (.lreturn, 1) := by decide +kernel
theorem dn_Machine_two_198 : decode bn_Machine_two 198 = .ok (.lload_n 2, 1) := by decide +kernel
theorem dn_Machine_two_199 : decode bn_Machine_two 199 = .ok (.iload_n 1, 1) := by decide +kernel
theorem dn_Machine_two_200 : decode bn_Machine_two 200 = .ok (.lshl, 1) := by decide +kernel
theorem dn_Machine_two_201 : decode bn_Machine_two 201 = .ok (.lload 4, 2) := by decide +kernel
theorem dn_Machine_two_203 : decode bn_Machine_two 203 = .ok (.lor, 1) := by decide +kernel
theorem dn_Machine_two_204 : decode bn_Machine_two 204 = .ok (.lreturn, 1) := by decide +kernel
theorem dn_Machine_two_205 : decode bn_Machine_two 205 = .ok (.iload_n 0, 1) := by decide +kernel
theorem dn_Machine_two_206 : decode bn_Machine_two 206 = .ok (.lload_n 2, 1) := by decide +kernel
theorem dn_Machine_two_207 : decode bn_Machine_two 207 = .ok (.lload 4, 2) := by decide +kernel
theorem dn_Machine_two_209 : decode bn_Machine_two 209 = .ok (.invokestatic 160, 3) := by decide +kernel
theorem dn_Machine_two_212 : decode bn_Machine_two 212 = .ok (.ifCond .eq 7, 3) := by decide +kernel
theorem dn_Machine_two_215 : decode bn_Machine_two 215 = .ok (.lconst 1, 1) := by decide +kernel
theorem dn_Machine_two_216 : decode bn_Machine_two 216 = .ok (.goto 4, 3) := by decide +kernel
theorem dn_Machine_two_219 : decode bn_Machine_two 219 = .ok (.lconst 0, 1) := by decide +kernel
theorem dn_Machine_two_220 : decode bn_Machine_two 220 = .ok (.lreturn, 1) := by decide +kernel
theorem dn_Machine_unheld_0 : decode bn_Machine_unheld 0 = .ok (.aload_n 0, 1) := by decide +kernel
theorem dn_Machine_unheld_1 : decode bn_Machine_unheld 1 = .ok (.aload_n 1, 1) := by decide +kernel
theorem dn_Machine_unheld_2 : decode bn_Machine_unheld 2 = .ok (.invokevirtual 38, 3) := by decide +kernel
theorem dn_Machine_unheld_5 : decode bn_Machine_unheld 5 = .ok (.aload_n 0, 1) := by decide +kernel
theorem dn_Machine_unheld_6 : decode bn_Machine_unheld 6 = .ok (.aload_n 1, 1) := by decide +kernel
theorem dn_Machine_unheld_7 : decode bn_Machine_unheld 7 = .ok (.iconst 1, 1) := by decide +kernel
theorem dn_Machine_unheld_8 : decode bn_Machine_unheld 8 = .ok (.invokevirtual 48, 3) := by decide +kernel
theorem dn_Machine_unheld_11 : decode bn_Machine_unheld 11 = .ok (.ireturn, 1) := by decide +kernel
theorem dn_Machine_valueOf_0 : decode bn_Machine_valueOf 0 = .ok (.aload_n 0, 1) := by decide +kernel
theorem dn_Machine_valueOf_1 : decode bn_Machine_valueOf 1 = .ok (.aload_n 1, 1) := by decide +kernel
theorem dn_Machine_valueOf_2 : decode bn_Machine_valueOf 2 = .ok (.invokevirtual 38, 3) := by decide +kernel
theorem dn_Machine_valueOf_5 : decode bn_Machine_valueOf 5 = .ok (.iload_n 2, 1) := by decide +kernel
theorem dn_Machine_valueOf_6 : decode bn_Machine_valueOf 6 = .ok (.ifCond .lt 21, 3) := by decide +kernel
theorem dn_Machine_valueOf_9 : decode bn_Machine_valueOf 9 = .ok (.iload_n 2, 1) := by decide +kernel
theorem dn_Machine_valueOf_10 : decode bn_Machine_valueOf 10 = .ok (.aload_n 0, 1) := by decide +kernel
theorem dn_Machine_valueOf_11 : decode bn_Machine_valueOf 11 = .ok (.getfield 9, 3) := by decide +kernel
theorem dn_Machine_valueOf_14 : decode bn_Machine_valueOf 14 = .ok (.arraylength, 1) := by decide +kernel
theorem dn_Machine_valueOf_15 : decode bn_Machine_valueOf 15 = .ok (.if_icmp .ge 12, 3) := by decide +kernel
theorem dn_Machine_valueOf_18 : decode bn_Machine_valueOf 18 = .ok (.aload_n 0, 1) := by decide +kernel
theorem dn_Machine_valueOf_19 : decode bn_Machine_valueOf 19 = .ok (.getfield 9, 3) := by decide +kernel
theorem dn_Machine_valueOf_22 : decode bn_Machine_valueOf 22 = .ok (.iload_n 2, 1) := by decide +kernel
theorem dn_Machine_valueOf_23 : decode bn_Machine_valueOf 23 = .ok (.laload, 1) := by decide +kernel
theorem dn_Machine_valueOf_24 : decode bn_Machine_valueOf 24 = .ok (.goto 4, 3) := by decide +kernel
theorem dn_Machine_valueOf_27 : decode bn_Machine_valueOf 27 = .ok (.lconst 0, 1) := by decide +kernel
theorem dn_Machine_valueOf_28 : decode bn_Machine_valueOf 28 = .ok (.lreturn, 1) := by decide +kernel
theorem dn_Meaning_always_0 : decode bn_Meaning_always 0 = .ok (.aload_n 0, 1) := by decide +kernel
theorem dn_Meaning_always_1 : decode bn_Meaning_always 1 = .ok (.getfield 24, 3) := by decide +kernel
theorem dn_Meaning_always_4 : decode bn_Meaning_always 4 = .ok (.invokevirtual 54, 3) := by decide +kernel
theorem dn_Meaning_always_7 : decode bn_Meaning_always 7 = .ok (.ifCond .eq 4, 3) := by decide +kernel
theorem dn_Meaning_always_10 : decode bn_Meaning_always 10 = .ok (.return_, 1) := by decide +kernel
theorem dn_Meaning_always_11 : decode bn_Meaning_always 11 = .ok (.aload_n 0, 1) := by decide +kernel
theorem dn_Meaning_always_12 : decode bn_Meaning_always 12 = .ok (.dup, 1) := by decide +kernel
theorem dn_Meaning_always_13 : decode bn_Meaning_always 13 = .ok (.getfield 48, 3) := by decide +kernel
theorem dn_Meaning_always_16 : decode bn_Meaning_always 16 = .ok (.iconst 1, 1) := by decide +kernel
theorem dn_Meaning_always_17 : decode bn_Meaning_always 17 = .ok (.iadd, 1) := by decide +kernel
theorem dn_Meaning_always_18 : decode bn_Meaning_always 18 = .ok (.putfield 48, 3) := by decide +kernel
theorem dn_Meaning_always_21 : decode bn_Meaning_always 21 = .ok (.aload_n 0, 1) := by decide +kernel
theorem dn_Meaning_always_22 : decode bn_Meaning_always 22 = .ok (.aload_n 0, 1) := by decide +kernel
theorem dn_Meaning_always_23 : decode bn_Meaning_always 23 = .ok (.getfield 43, 3) := by decide +kernel
theorem dn_Meaning_always_26 : decode bn_Meaning_always 26 = .ok (.getfield 113, 3) := by decide +kernel
theorem dn_Meaning_always_29 : decode bn_Meaning_always 29 = .ok (.putfield 198, 3) := by decide +kernel
theorem dn_Meaning_always_32 : decode bn_Meaning_always 32 = .ok (.aload_n 0, 1) := by decide +kernel
theorem dn_Meaning_always_33 : decode bn_Meaning_always 33 = .ok (.iconst 0, 1) := by decide +kernel
theorem dn_Meaning_always_34 : decode bn_Meaning_always 34 = .ok (.putfield 201, 3) := by decide +kernel
theorem dn_Meaning_always_37 : decode bn_Meaning_always 37 = .ok (.return_, 1) := by decide +kernel
theorem dn_Meaning_alwaysEnd_0 : decode bn_Meaning_alwaysEnd 0 = .ok (.aload_n 0, 1) := by decide +kernel
theorem dn_Meaning_alwaysEnd_1 : decode bn_Meaning_alwaysEnd 1 = .ok (.getfield 24, 3) := by decide +kernel
theorem dn_Meaning_alwaysEnd_4 : decode bn_Meaning_alwaysEnd 4 = .ok (.invokevirtual 54, 3) := by decide +kernel
theorem dn_Meaning_alwaysEnd_7 : decode bn_Meaning_alwaysEnd 7 = .ok (.ifCond .eq 4, 3) := by decide +kernel
theorem dn_Meaning_alwaysEnd_10 : decode bn_Meaning_alwaysEnd 10 = .ok (.return_, 1) := by decide +kernel
theorem dn_Meaning_alwaysEnd_11 : decode bn_Meaning_alwaysEnd 11 = .ok (.aload_n 0, 1) := by decide +kernel
theorem dn_Meaning_alwaysEnd_12 : decode bn_Meaning_alwaysEnd 12 = .ok (.getfield 201, 3) := by decide +kernel
theorem dn_Meaning_alwaysEnd_15 : decode bn_Meaning_alwaysEnd 15 = .ok (.ifCond .eq 18, 3) := by decide +kernel
theorem dn_Meaning_alwaysEnd_18 : decode bn_Meaning_alwaysEnd 18 = .ok (.aload_n 0, 1) := by decide +kernel
theorem dn_Meaning_alwaysEnd_19 : decode bn_Meaning_alwaysEnd 19 = .ok (.getfield 28, 3) := by decide +kernel
theorem dn_Meaning_alwaysEnd_22 : decode bn_Meaning_alwaysEnd 22 = .ok (.iconst 0, 1) := by decide +kernel
theorem dn_Meaning_alwaysEnd_23 : decode bn_Meaning_alwaysEnd 23 = .ok (.aload_n 0, 1) := by decide +kernel
theorem dn_Meaning_alwaysEnd_24 : decode bn_Meaning_alwaysEnd 24 = .ok (.getfield 198, 3) := by decide +kernel
theorem dn_Meaning_alwaysEnd_27 : decode bn_Meaning_alwaysEnd 27 = .ok (.invokevirtual 132, 3) := by decide +kernel
theorem dn_Meaning_alwaysEnd_30 : decode bn_Meaning_alwaysEnd 30 = .ok (.goto 14, 3) := by decide +kernel
theorem dn_Meaning_alwaysEnd_33 : decode bn_Meaning_alwaysEnd 33 = .ok (.aload_n 0, 1) := by decide +kernel
theorem dn_Meaning_alwaysEnd_34 : decode bn_Meaning_alwaysEnd 34 = .ok (.getfield 43, 3) := by decide +kernel
theorem dn_Meaning_alwaysEnd_37 : decode bn_Meaning_alwaysEnd 37 = .ok (.aload_n 0, 1) := by decide +kernel
theorem dn_Meaning_alwaysEnd_38 : decode bn_Meaning_alwaysEnd 38 = .ok (.getfield 198, 3) := by decide +kernel
theorem dn_Meaning_alwaysEnd_41 : decode bn_Meaning_alwaysEnd 41 = .ok (.putfield 113, 3) := by decide +kernel
theorem dn_Meaning_alwaysEnd_44 : decode bn_Meaning_alwaysEnd 44 = .ok (.return_, 1) := by decide +kernel
theorem dn_Meaning_armEnd_0 : decode bn_Meaning_armEnd 0 = .ok (.aload_n 0, 1) := by decide +kernel
theorem dn_Meaning_armEnd_1 : decode bn_Meaning_armEnd 1 = .ok (.getfield 24, 3) := by decide +kernel
theorem dn_Meaning_armEnd_4 : decode bn_Meaning_armEnd 4 = .ok (.invokevirtual 54, 3) := by decide +kernel
theorem dn_Meaning_armEnd_7 : decode bn_Meaning_armEnd 7 = .ok (.ifCond .ne 10, 3) := by decide +kernel
theorem dn_Meaning_armEnd_10 : decode bn_Meaning_armEnd 10 = .ok (.aload_n 0, 1) := by decide +kernel
theorem dn_Meaning_armEnd_11 : decode bn_Meaning_armEnd 11 = .ok (.getfield 51, 3) := by decide +kernel
theorem dn_Meaning_armEnd_14 : decode bn_Meaning_armEnd 14 = .ok (.ifCond .ne 4, 3) := by decide +kernel
theorem dn_Meaning_armEnd_17 : decode bn_Meaning_armEnd 17 = .ok (.return_, 1) := by decide +kernel
theorem dn_Meaning_armEnd_18 : decode bn_Meaning_armEnd 18 = .ok (.aload_n 0, 1) := by decide +kernel
theorem dn_Meaning_armEnd_19 : decode bn_Meaning_armEnd 19 = .ok (.getfield 15, 3) := by decide +kernel
theorem dn_Meaning_armEnd_22 : decode bn_Meaning_armEnd 22 = .ok (.aload_n 0, 1) := by decide +kernel
theorem dn_Meaning_armEnd_23 : decode bn_Meaning_armEnd 23 = .ok (.getfield 51, 3) := by decide +kernel
theorem dn_Meaning_armEnd_26 : decode bn_Meaning_armEnd 26 = .ok (.iconst 1, 1) := by decide +kernel
theorem dn_Meaning_armEnd_27 : decode bn_Meaning_armEnd 27 = .ok (.isub, 1) := by decide +kernel
theorem dn_Meaning_armEnd_28 : decode bn_Meaning_armEnd 28 = .ok (.aload_n 0, 1) := by decide +kernel
theorem dn_Meaning_armEnd_29 : decode bn_Meaning_armEnd 29 = .ok (.getfield 43, 3) := by decide +kernel
theorem dn_Meaning_armEnd_32 : decode bn_Meaning_armEnd 32 = .ok (.sipush 517, 3) := by decide +kernel
theorem dn_Meaning_armEnd_35 : decode bn_Meaning_armEnd 35 = .ok (.aload_n 0, 1) := by decide +kernel
theorem dn_Meaning_armEnd_36 : decode bn_Meaning_armEnd 36 = .ok (.getfield 15, 3) := by decide +kernel
theorem dn_Meaning_armEnd_39 : decode bn_Meaning_armEnd 39 = .ok (.aload_n 0, 1) := by decide +kernel
theorem dn_Meaning_armEnd_40 : decode bn_Meaning_armEnd 40 = .ok (.getfield 51, 3) := by decide +kernel
theorem dn_Meaning_armEnd_43 : decode bn_Meaning_armEnd 43 = .ok (.iconst 1, 1) := by decide +kernel
theorem dn_Meaning_armEnd_44 : decode bn_Meaning_armEnd 44 = .ok (.isub, 1) := by decide +kernel
theorem dn_Meaning_armEnd_45 : decode bn_Meaning_armEnd 45 = .ok (.iaload, 1) := by decide +kernel
theorem dn_Meaning_armEnd_46 : decode bn_Meaning_armEnd 46 = .ok (.invokevirtual 218, 3) := by decide +kernel
theorem dn_Meaning_armEnd_49 : decode bn_Meaning_armEnd 49 = .ok (.iastore, 1) := by decide +kernel
theorem dn_Meaning_armEnd_50 : decode bn_Meaning_armEnd 50 = .ok (.aload_n 0, 1) := by decide +kernel
theorem dn_Meaning_armEnd_51 : decode bn_Meaning_armEnd 51 = .ok (.getfield 43, 3) := by decide +kernel
theorem dn_Meaning_armEnd_54 : decode bn_Meaning_armEnd 54 = .ok (.aload_n 0, 1) := by decide +kernel
theorem dn_Meaning_armEnd_55 : decode bn_Meaning_armEnd 55 = .ok (.getfield 9, 3) := by decide +kernel
theorem dn_Meaning_armEnd_58 : decode bn_Meaning_armEnd 58 = .ok (.aload_n 0, 1) := by decide +kernel
theorem dn_Meaning_armEnd_59 : decode bn_Meaning_armEnd 59 = .ok (.getfield 51, 3) := by decide +kernel
theorem dn_Meaning_armEnd_62 : decode bn_Meaning_armEnd 62 = .ok (.iconst 1, 1) := by decide +kernel
theorem dn_Meaning_armEnd_63 : decode bn_Meaning_armEnd 63 = .ok (.isub, 1) := by decide +kernel
theorem dn_Meaning_armEnd_64 : decode bn_Meaning_armEnd 64 = .ok (.iaload, 1) := by decide +kernel
theorem dn_Meaning_armEnd_65 : decode bn_Meaning_armEnd 65 = .ok (.invokevirtual 221, 3) := by decide +kernel
theorem dn_Meaning_armEnd_68 : decode bn_Meaning_armEnd 68 = .ok (.aload_n 0, 1) := by decide +kernel
theorem dn_Meaning_armEnd_69 : decode bn_Meaning_armEnd 69 = .ok (.getfield 9, 3) := by decide +kernel
theorem dn_Meaning_armEnd_72 : decode bn_Meaning_armEnd 72 = .ok (.aload_n 0, 1) := by decide +kernel
theorem dn_Meaning_armEnd_73 : decode bn_Meaning_armEnd 73 = .ok (.getfield 51, 3) := by decide +kernel
theorem dn_Meaning_armEnd_76 : decode bn_Meaning_armEnd 76 = .ok (.iconst 1, 1) := by decide +kernel
theorem dn_Meaning_armEnd_77 : decode bn_Meaning_armEnd 77 = .ok (.isub, 1) := by decide +kernel
theorem dn_Meaning_armEnd_78 : decode bn_Meaning_armEnd 78 = .ok (.iconst (-1), 1) := by decide +kernel
theorem dn_Meaning_armEnd_79 : decode bn_Meaning_armEnd 79 = .ok (.iastore, 1) := by decide +kernel
theorem dn_Meaning_armEnd_80 : decode bn_Meaning_armEnd 80 = .ok (.return_, 1) := by decide +kernel
theorem dn_Meaning_asserted_0 : decode bn_Meaning_asserted 0 = .ok (.aload_n 0, 1) := by decide +kernel
theorem dn_Meaning_asserted_1 : decode bn_Meaning_asserted 1 = .ok (.getfield 24, 3) := by decide +kernel
theorem dn_Meaning_asserted_4 : decode bn_Meaning_asserted 4 = .ok (.invokevirtual 54, 3) := by decide +kernel
theorem dn_Meaning_asserted_7 : decode bn_Meaning_asserted 7 = .ok (.ifCond .eq 4, 3) := by decide +kernel
theorem dn_Meaning_asserted_10 : decode bn_Meaning_asserted 10 = .ok (.return_, 1) := by decide +kernel
theorem dn_Meaning_asserted_11 : decode bn_Meaning_asserted 11 = .ok (.aload_n 0, 1) := by decide +kernel
theorem dn_Meaning_asserted_12 : decode bn_Meaning_asserted 12 = .ok (.getfield 24, 3) := by decide +kernel
theorem dn_Meaning_asserted_15 : decode bn_Meaning_asserted 15 = .ok (.aload_n 0, 1) := by decide +kernel
theorem dn_Meaning_asserted_16 : decode bn_Meaning_asserted 16 = .ok (.getfield 24, 3) := by decide +kernel
theorem dn_Meaning_asserted_19 : decode bn_Meaning_asserted 19 = .ok (.invokevirtual 119, 3) := by decide +kernel
theorem dn_Meaning_asserted_22 : decode bn_Meaning_asserted 22 = .ok (.invokevirtual 126, 3) := by decide +kernel
theorem dn_Meaning_asserted_25 : decode bn_Meaning_asserted 25 = .ok (.aload_n 0, 1) := by decide +kernel
theorem dn_Meaning_asserted_26 : decode bn_Meaning_asserted 26 = .ok (.getfield 28, 3) := by decide +kernel
theorem dn_Meaning_asserted_29 : decode bn_Meaning_asserted 29 = .ok (.iconst 1, 1) := by decide +kernel
theorem dn_Meaning_asserted_30 : decode bn_Meaning_asserted 30 = .ok (.aload_n 0, 1) := by decide +kernel
theorem dn_Meaning_asserted_31 : decode bn_Meaning_asserted 31 = .ok (.getfield 24, 3) := by decide +kernel
theorem dn_Meaning_asserted_34 : decode bn_Meaning_asserted 34 = .ok (.getfield 129, 3) := by decide +kernel
theorem dn_Meaning_asserted_37 : decode bn_Meaning_asserted 37 = .ok (.invokevirtual 132, 3) := by decide +kernel
theorem dn_Meaning_asserted_40 : decode bn_Meaning_asserted 40 = .ok (.return_, 1) := by decide +kernel
theorem dn_Meaning_assignTo_0 : decode bn_Meaning_assignTo 0 = .ok (.aload_n 0, 1) := by decide +kernel
theorem dn_Meaning_assignTo_1 : decode bn_Meaning_assignTo 1 = .ok (.getfield 24, 3) := by decide +kernel
theorem dn_Meaning_assignTo_4 : decode bn_Meaning_assignTo 4 = .ok (.invokevirtual 54, 3) := by decide +kernel
theorem dn_Meaning_assignTo_7 : decode bn_Meaning_assignTo 7 = .ok (.ifCond .eq 4, 3) := by decide +kernel
theorem dn_Meaning_assignTo_10 : decode bn_Meaning_assignTo 10 = .ok (.return_, 1) := by decide +kernel
theorem dn_Meaning_assignTo_11 : decode bn_Meaning_assignTo 11 = .ok (.aload_n 0, 1) := by decide +kernel
theorem dn_Meaning_assignTo_12 : decode bn_Meaning_assignTo 12 = .ok (.getfield 24, 3) := by decide +kernel
theorem dn_Meaning_assignTo_15 : decode bn_Meaning_assignTo 15 = .ok (.iload_n 1, 1) := by decide +kernel
theorem dn_Meaning_assignTo_16 : decode bn_Meaning_assignTo 16 = .ok (.invokevirtual 78, 3) := by decide +kernel
theorem dn_Meaning_assignTo_19 : decode bn_Meaning_assignTo 19 = .ok (.istore_n 3, 1) := by decide +kernel
theorem dn_Meaning_assignTo_20 : decode bn_Meaning_assignTo 20 = .ok (.aload_n 0, 1) := by decide +kernel
theorem dn_Meaning_assignTo_21 : decode bn_Meaning_assignTo 21 = .ok (.getfield 24, 3) := by decide +kernel
theorem dn_Meaning_assignTo_24 : decode bn_Meaning_assignTo 24 = .ok (.iload_n 3, 1) := by decide +kernel
theorem dn_Meaning_assignTo_25 : decode bn_Meaning_assignTo 25 = .ok (.invokevirtual 107, 3) := by decide +kernel
theorem dn_Meaning_assignTo_28 : decode bn_Meaning_assignTo 28 = .ok (.iconst 1, 1) := by decide +kernel
theorem dn_Meaning_assignTo_29 : decode bn_Meaning_assignTo 29 = .ok (.if_icmp .eq 16, 3) := by decide +kernel
theorem dn_Meaning_assignTo_32 : decode bn_Meaning_assignTo 32 = .ok (.aload_n 0, 1) := by decide +kernel
theorem dn_Meaning_assignTo_33 : decode bn_Meaning_assignTo 33 = .ok (.getfield 24, 3) := by decide +kernel
theorem dn_Meaning_assignTo_36 : decode bn_Meaning_assignTo 36 = .ok (.bipush 22, 2) := by decide +kernel
theorem dn_Meaning_assignTo_38 : decode bn_Meaning_assignTo 38 = .ok (.iload_n 2, 1) := by decide +kernel
theorem dn_Meaning_assignTo_39 : decode bn_Meaning_assignTo 39 = .ok (.invokevirtual 64, 3) := by decide +kernel
theorem dn_Meaning_assignTo_42 : decode bn_Meaning_assignTo 42 = .ok (.goto 50, 3) := by decide +kernel
theorem dn_Meaning_assignTo_45 : decode bn_Meaning_assignTo 45 = .ok (.aload_n 0, 1) := by decide +kernel
theorem dn_Meaning_assignTo_46 : decode bn_Meaning_assignTo 46 = .ok (.getfield 38, 3) := by decide +kernel
theorem dn_Meaning_assignTo_49 : decode bn_Meaning_assignTo 49 = .ok (.getfield 110, 3) := by decide +kernel
theorem dn_Meaning_assignTo_52 : decode bn_Meaning_assignTo 52 = .ok (.iload_n 3, 1) := by decide +kernel
theorem dn_Meaning_assignTo_53 : decode bn_Meaning_assignTo 53 = .ok (.iaload, 1) := by decide +kernel
theorem dn_Meaning_assignTo_54 : decode bn_Meaning_assignTo 54 = .ok (.iconst (-1), 1) := by decide +kernel
theorem dn_Meaning_assignTo_55 : decode bn_Meaning_assignTo 55 = .ok (.if_icmp .eq 16, 3) := by decide +kernel
theorem dn_Meaning_assignTo_58 : decode bn_Meaning_assignTo 58 = .ok (.aload_n 0, 1) := by decide +kernel
theorem dn_Meaning_assignTo_59 : decode bn_Meaning_assignTo 59 = .ok (.getfield 24, 3) := by decide +kernel
theorem dn_Meaning_assignTo_62 : decode bn_Meaning_assignTo 62 = .ok (.bipush 31, 2) := by decide +kernel
theorem dn_Meaning_assignTo_64 : decode bn_Meaning_assignTo 64 = .ok (.iload_n 2, 1) := by decide +kernel
theorem dn_Meaning_assignTo_65 : decode bn_Meaning_assignTo 65 = .ok (.invokevirtual 64, 3) := by decide +kernel
theorem dn_Meaning_assignTo_68 : decode bn_Meaning_assignTo 68 = .ok (.goto 24, 3) := by decide +kernel
theorem dn_Meaning_assignTo_71 : decode bn_Meaning_assignTo 71 = .ok (.aload_n 0, 1) := by decide +kernel
theorem dn_Meaning_assignTo_72 : decode bn_Meaning_assignTo 72 = .ok (.getfield 38, 3) := by decide +kernel
theorem dn_Meaning_assignTo_75 : decode bn_Meaning_assignTo 75 = .ok (.getfield 110, 3) := by decide +kernel
theorem dn_Meaning_assignTo_78 : decode bn_Meaning_assignTo 78 = .ok (.iload_n 3, 1) := by decide +kernel
theorem dn_Meaning_assignTo_79 : decode bn_Meaning_assignTo 79 = .ok (.aload_n 0, 1) := by decide +kernel
theorem dn_Meaning_assignTo_80 : decode bn_Meaning_assignTo 80 = .ok (.getfield 43, 3) := by decide +kernel
theorem dn_Meaning_assignTo_83 : decode bn_Meaning_assignTo 83 = .ok (.getfield 113, 3) := by decide +kernel
theorem dn_Meaning_assignTo_86 : decode bn_Meaning_assignTo 86 = .ok (.iastore, 1) := by decide +kernel
theorem dn_Meaning_assignTo_87 : decode bn_Meaning_assignTo 87 = .ok (.aload_n 0, 1) := by decide +kernel
theorem dn_Meaning_assignTo_88 : decode bn_Meaning_assignTo 88 = .ok (.iload_n 3, 1) := by decide +kernel
theorem dn_Meaning_assignTo_89 : decode bn_Meaning_assignTo 89 = .ok (.putfield 116, 3) := by decide +kernel
theorem dn_Meaning_assignTo_92 : decode bn_Meaning_assignTo 92 = .ok (.return_, 1) := by decide +kernel
theorem dn_Meaning_assigned_0 : decode bn_Meaning_assigned 0 = .ok (.aload_n 0, 1) := by decide +kernel
theorem dn_Meaning_assigned_1 : decode bn_Meaning_assigned 1 = .ok (.getfield 24, 3) := by decide +kernel
theorem dn_Meaning_assigned_4 : decode bn_Meaning_assigned 4 = .ok (.invokevirtual 54, 3) := by decide +kernel
theorem dn_Meaning_assigned_7 : decode bn_Meaning_assigned 7 = .ok (.ifCond .ne 18, 3) := by decide +kernel
theorem dn_Meaning_assigned_10 : decode bn_Meaning_assigned 10 = .ok (.aload_n 0, 1) := by decide +kernel
theorem dn_Meaning_assigned_11 : decode bn_Meaning_assigned 11 = .ok (.getfield 24, 3) := by decide +kernel
theorem dn_Meaning_assigned_14 : decode bn_Meaning_assigned 14 = .ok (.aload_n 0, 1) := by decide +kernel
theorem dn_Meaning_assigned_15 : decode bn_Meaning_assigned 15 = .ok (.getfield 116, 3) := by decide +kernel
theorem dn_Meaning_assigned_18 : decode bn_Meaning_assigned 18 = .ok (.invokevirtual 107, 3) := by decide +kernel
theorem dn_Meaning_assigned_21 : decode bn_Meaning_assigned 21 = .ok (.iconst (-1), 1) := by decide +kernel
theorem dn_Meaning_assigned_22 : decode bn_Meaning_assigned 22 = .ok (.if_icmp .ne 4, 3) := by decide +kernel
theorem dn_Meaning_assigned_25 : decode bn_Meaning_assigned 25 = .ok (.return_, 1) := by decide +kernel
theorem dn_Meaning_assigned_26 : decode bn_Meaning_assigned 26 = .ok (.aload_n 0, 1) := by decide +kernel
theorem dn_Meaning_assigned_27 : decode bn_Meaning_assigned 27 = .ok (.getfield 24, 3) := by decide +kernel
theorem dn_Meaning_assigned_30 : decode bn_Meaning_assigned 30 = .ok (.invokevirtual 119, 3) := by decide +kernel
theorem dn_Meaning_assigned_33 : decode bn_Meaning_assigned 33 = .ok (.aload_n 0, 1) := by decide +kernel
theorem dn_Meaning_assigned_34 : decode bn_Meaning_assigned 34 = .ok (.getfield 38, 3) := by decide +kernel
theorem dn_Meaning_assigned_37 : decode bn_Meaning_assigned 37 = .ok (.getfield 98, 3) := by decide +kernel
theorem dn_Meaning_assigned_40 : decode bn_Meaning_assigned 40 = .ok (.aload_n 0, 1) := by decide +kernel
theorem dn_Meaning_assigned_41 : decode bn_Meaning_assigned 41 = .ok (.getfield 116, 3) := by decide +kernel
theorem dn_Meaning_assigned_44 : decode bn_Meaning_assigned 44 = .ok (.iaload, 1) := by decide +kernel
theorem dn_Meaning_assigned_45 : decode bn_Meaning_assigned 45 = .ok (.if_icmp .eq 13, 3) := by decide +kernel
theorem dn_Meaning_assigned_48 : decode bn_Meaning_assigned 48 = .ok (.aload_n 0, 1) := by decide +kernel
theorem dn_Meaning_assigned_49 : decode bn_Meaning_assigned 49 = .ok (.getfield 24, 3) := by decide +kernel
theorem dn_Meaning_assigned_52 : decode bn_Meaning_assigned 52 = .ok (.bipush 30, 2) := by decide +kernel
theorem dn_Meaning_assigned_54 : decode bn_Meaning_assigned 54 = .ok (.iload_n 1, 1) := by decide +kernel
theorem dn_Meaning_assigned_55 : decode bn_Meaning_assigned 55 = .ok (.invokevirtual 64, 3) := by decide +kernel
theorem dn_Meaning_assigned_58 : decode bn_Meaning_assigned 58 = .ok (.aload_n 0, 1) := by decide +kernel
theorem dn_Meaning_assigned_59 : decode bn_Meaning_assigned 59 = .ok (.getfield 38, 3) := by decide +kernel
theorem dn_Meaning_assigned_62 : decode bn_Meaning_assigned 62 = .ok (.getfield 123, 3) := by decide +kernel
theorem dn_Meaning_assigned_65 : decode bn_Meaning_assigned 65 = .ok (.aload_n 0, 1) := by decide +kernel
theorem dn_Meaning_assigned_66 : decode bn_Meaning_assigned 66 = .ok (.getfield 116, 3) := by decide +kernel
theorem dn_Meaning_assigned_69 : decode bn_Meaning_assigned 69 = .ok (.aload_n 0, 1) := by decide +kernel
theorem dn_Meaning_assigned_70 : decode bn_Meaning_assigned 70 = .ok (.getfield 43, 3) := by decide +kernel
theorem dn_Meaning_assigned_73 : decode bn_Meaning_assigned 73 = .ok (.getfield 113, 3) := by decide +kernel
theorem dn_Meaning_assigned_76 : decode bn_Meaning_assigned 76 = .ok (.iastore, 1) := by decide +kernel
theorem dn_Meaning_assigned_77 : decode bn_Meaning_assigned 77 = .ok (.return_, 1) := by decide +kernel
theorem dn_Meaning_beginsWith_0 : decode bn_Meaning_beginsWith 0 = .ok (.aload_n 0, 1) := by decide +kernel
theorem dn_Meaning_beginsWith_1 : decode bn_Meaning_beginsWith 1 = .ok (.getfield 24, 3) := by decide +kernel
theorem dn_Meaning_beginsWith_4 : decode bn_Meaning_beginsWith 4 = .ok (.invokevirtual 54, 3) := by decide +kernel
theorem dn_Meaning_beginsWith_7 : decode bn_Meaning_beginsWith 7 = .ok (.ifCond .eq 4, 3) := by decide +kernel
theorem dn_Meaning_beginsWith_10 : decode bn_Meaning_beginsWith 10 = .ok (.return_, 1) := by decide +kernel
theorem dn_Meaning_beginsWith_11 : decode bn_Meaning_beginsWith 11 = .ok (.aload_n 0, 1) := by decide +kernel
theorem dn_Meaning_beginsWith_12 : decode bn_Meaning_beginsWith 12 = .ok (.getfield 38, 3) := by decide +kernel
theorem dn_Meaning_beginsWith_15 : decode bn_Meaning_beginsWith 15 = .ok (.getfield 81, 3) := by decide +kernel
theorem dn_Meaning_beginsWith_18 : decode bn_Meaning_beginsWith 18 = .ok (.iconst 1, 1) := by decide +kernel
theorem dn_Meaning_beginsWith_19 : decode bn_Meaning_beginsWith 19 = .ok (.isub, 1) := by decide +kernel
theorem dn_Meaning_beginsWith_20 : decode bn_Meaning_beginsWith 20 = .ok (.istore_n 3, 1) := by decide +kernel
theorem dn_Meaning_beginsWith_21 : decode bn_Meaning_beginsWith 21 = .ok (.iload_n 3, 1) := by decide +kernel
theorem dn_Meaning_beginsWith_22 : decode bn_Meaning_beginsWith 22 = .ok (.ifCond .ge 4, 3) := by decide +kernel
theorem dn_Meaning_beginsWith_25 : decode bn_Meaning_beginsWith 25 = .ok (.return_, 1) := by decide +kernel
theorem dn_Meaning_beginsWith_26 : decode bn_Meaning_beginsWith 26 = .ok (.aload_n 0, 1) := by decide +kernel
theorem dn_Meaning_beginsWith_27 : decode bn_Meaning_beginsWith 27 = .ok (.getfield 43, 3) := by decide +kernel
theorem dn_Meaning_beginsWith_30 : decode bn_Meaning_beginsWith 30 = .ok (.iload_n 1, 1) := by decide +kernel
theorem dn_Meaning_beginsWith_31 : decode bn_Meaning_beginsWith 31 = .ok (.invokevirtual 93, 3) := by decide +kernel
theorem dn_Meaning_beginsWith_34 : decode bn_Meaning_beginsWith 34 = .ok (.aload_n 0, 1) := by decide +kernel
theorem dn_Meaning_beginsWith_35 : decode bn_Meaning_beginsWith 35 = .ok (.getfield 38, 3) := by decide +kernel
theorem dn_Meaning_beginsWith_38 : decode bn_Meaning_beginsWith 38 = .ok (.getfield 98, 3) := by decide +kernel
theorem dn_Meaning_beginsWith_41 : decode bn_Meaning_beginsWith 41 = .ok (.iload_n 3, 1) := by decide +kernel
theorem dn_Meaning_beginsWith_42 : decode bn_Meaning_beginsWith 42 = .ok (.iaload, 1) := by decide +kernel
theorem dn_Meaning_beginsWith_43 : decode bn_Meaning_beginsWith 43 = .ok (.if_icmp .eq 13, 3) := by decide +kernel
theorem dn_Meaning_beginsWith_46 : decode bn_Meaning_beginsWith 46 = .ok (.aload_n 0, 1) := by decide +kernel
theorem dn_Meaning_beginsWith_47 : decode bn_Meaning_beginsWith 47 = .ok (.getfield 24, 3) := by decide +kernel
theorem dn_Meaning_beginsWith_50 : decode bn_Meaning_beginsWith 50 = .ok (.bipush 30, 2) := by decide +kernel
theorem dn_Meaning_beginsWith_52 : decode bn_Meaning_beginsWith 52 = .ok (.iload_n 2, 1) := by decide +kernel
theorem dn_Meaning_beginsWith_53 : decode bn_Meaning_beginsWith 53 = .ok (.invokevirtual 64, 3) := by decide +kernel
theorem dn_Meaning_beginsWith_56 : decode bn_Meaning_beginsWith 56 = .ok (.aload_n 0, 1) := by decide +kernel
theorem dn_Meaning_beginsWith_57 : decode bn_Meaning_beginsWith 57 = .ok (.getfield 38, 3) := by decide +kernel
theorem dn_Meaning_beginsWith_60 : decode bn_Meaning_beginsWith 60 = .ok (.getfield 99, 3) := by decide +kernel
theorem dn_Meaning_beginsWith_63 : decode bn_Meaning_beginsWith 63 = .ok (.iload_n 3, 1) := by decide +kernel
theorem dn_Meaning_beginsWith_64 : decode bn_Meaning_beginsWith 64 = .ok (.aload_n 0, 1) := by decide +kernel
theorem dn_Meaning_beginsWith_65 : decode bn_Meaning_beginsWith 65 = .ok (.getfield 43, 3) := by decide +kernel
theorem dn_Meaning_beginsWith_68 : decode bn_Meaning_beginsWith 68 = .ok (.iload_n 1, 1) := by decide +kernel
theorem dn_Meaning_beginsWith_69 : decode bn_Meaning_beginsWith 69 = .ok (.invokevirtual 103, 3) := by decide +kernel
theorem dn_Meaning_beginsWith_72 : decode bn_Meaning_beginsWith 72 = .ok (.lastore, 1) := by decide +kernel
theorem dn_Meaning_beginsWith_73 : decode bn_Meaning_beginsWith 73 = .ok (.return_, 1) := by decide +kernel
theorem dn_Meaning_caseEnd_0 : decode bn_Meaning_caseEnd 0 = .ok (.aload_n 0, 1) := by decide +kernel
theorem dn_Meaning_caseEnd_1 : decode bn_Meaning_caseEnd 1 = .ok (.getfield 24, 3) := by decide +kernel
theorem dn_Meaning_caseEnd_4 : decode bn_Meaning_caseEnd 4 = .ok (.invokevirtual 54, 3) := by decide +kernel
theorem dn_Meaning_caseEnd_7 : decode bn_Meaning_caseEnd 7 = .ok (.ifCond .ne 10, 3) := by decide +kernel
theorem dn_Meaning_caseEnd_10 : decode bn_Meaning_caseEnd 10 = .ok (.aload_n 0, 1) := by decide +kernel
theorem dn_Meaning_caseEnd_11 : decode bn_Meaning_caseEnd 11 = .ok (.getfield 51, 3) := by decide +kernel
theorem dn_Meaning_caseEnd_14 : decode bn_Meaning_caseEnd 14 = .ok (.ifCond .ne 4, 3) := by decide +kernel
theorem dn_Meaning_caseEnd_17 : decode bn_Meaning_caseEnd 17 = .ok (.return_, 1) := by decide +kernel
theorem dn_Meaning_caseEnd_18 : decode bn_Meaning_caseEnd 18 = .ok (.aload_n 0, 1) := by decide +kernel
theorem dn_Meaning_caseEnd_19 : decode bn_Meaning_caseEnd 19 = .ok (.dup, 1) := by decide +kernel
theorem dn_Meaning_caseEnd_20 : decode bn_Meaning_caseEnd 20 = .ok (.getfield 51, 3) := by decide +kernel
theorem dn_Meaning_caseEnd_23 : decode bn_Meaning_caseEnd 23 = .ok (.iconst 1, 1) := by decide +kernel
theorem dn_Meaning_caseEnd_24 : decode bn_Meaning_caseEnd 24 = .ok (.isub, 1) := by decide +kernel
theorem dn_Meaning_caseEnd_25 : decode bn_Meaning_caseEnd 25 = .ok (.putfield 51, 3) := by decide +kernel
theorem dn_Meaning_caseEnd_28 : decode bn_Meaning_caseEnd 28 = .ok (.aload_n 0, 1) := by decide +kernel
theorem dn_Meaning_caseEnd_29 : decode bn_Meaning_caseEnd 29 = .ok (.getfield 43, 3) := by decide +kernel
theorem dn_Meaning_caseEnd_32 : decode bn_Meaning_caseEnd 32 = .ok (.aload_n 0, 1) := by decide +kernel
theorem dn_Meaning_caseEnd_33 : decode bn_Meaning_caseEnd 33 = .ok (.getfield 15, 3) := by decide +kernel
theorem dn_Meaning_caseEnd_36 : decode bn_Meaning_caseEnd 36 = .ok (.aload_n 0, 1) := by decide +kernel
theorem dn_Meaning_caseEnd_37 : decode bn_Meaning_caseEnd 37 = .ok (.getfield 51, 3) := by decide +kernel
theorem dn_Meaning_caseEnd_40 : decode bn_Meaning_caseEnd 40 = .ok (.iaload, 1) := by decide +kernel
theorem dn_Meaning_caseEnd_41 : decode bn_Meaning_caseEnd 41 = .ok (.invokevirtual 224, 3) := by decide +kernel
theorem dn_Meaning_caseEnd_44 : decode bn_Meaning_caseEnd 44 = .ok (.aload_n 0, 1) := by decide +kernel
theorem dn_Meaning_caseEnd_45 : decode bn_Meaning_caseEnd 45 = .ok (.getfield 43, 3) := by decide +kernel
theorem dn_Meaning_caseEnd_48 : decode bn_Meaning_caseEnd 48 = .ok (.sipush 516, 3) := by decide +kernel
theorem dn_Meaning_caseEnd_51 : decode bn_Meaning_caseEnd 51 = .ok (.iconst 0, 1) := by decide +kernel
theorem dn_Meaning_caseEnd_52 : decode bn_Meaning_caseEnd 52 = .ok (.invokevirtual 218, 3) := by decide +kernel
theorem dn_Meaning_caseEnd_55 : decode bn_Meaning_caseEnd 55 = .ok (.pop, 1) := by decide +kernel
theorem dn_Meaning_caseEnd_56 : decode bn_Meaning_caseEnd 56 = .ok (.return_, 1) := by decide +kernel
theorem dn_Meaning_choice_0 : decode bn_Meaning_choice 0 = .ok (.aload_n 0, 1) := by decide +kernel
theorem dn_Meaning_choice_1 : decode bn_Meaning_choice 1 = .ok (.getfield 24, 3) := by decide +kernel
theorem dn_Meaning_choice_4 : decode bn_Meaning_choice 4 = .ok (.invokevirtual 54, 3) := by decide +kernel
theorem dn_Meaning_choice_7 : decode bn_Meaning_choice 7 = .ok (.ifCond .ne 12, 3) := by decide +kernel
theorem dn_Meaning_choice_10 : decode bn_Meaning_choice 10 = .ok (.aload_n 0, 1) := by decide +kernel
theorem dn_Meaning_choice_11 : decode bn_Meaning_choice 11 = .ok (.getfield 51, 3) := by decide +kernel
theorem dn_Meaning_choice_14 : decode bn_Meaning_choice 14 = .ok (.bipush 60, 2) := by decide +kernel
theorem dn_Meaning_choice_16 : decode bn_Meaning_choice 16 = .ok (.if_icmp .lt 4, 3) := by decide +kernel
theorem dn_Meaning_choice_19 : decode bn_Meaning_choice 19 = .ok (.return_, 1) := by decide +kernel
theorem dn_Meaning_choice_20 : decode bn_Meaning_choice 20 = .ok (.aload_n 0, 1) := by decide +kernel
theorem dn_Meaning_choice_21 : decode bn_Meaning_choice 21 = .ok (.getfield 21, 3) := by decide +kernel
theorem dn_Meaning_choice_24 : decode bn_Meaning_choice 24 = .ok (.aload_n 0, 1) := by decide +kernel
theorem dn_Meaning_choice_25 : decode bn_Meaning_choice 25 = .ok (.getfield 51, 3) := by decide +kernel
theorem dn_Meaning_choice_28 : decode bn_Meaning_choice 28 = .ok (.aload_n 0, 1) := by decide +kernel
theorem dn_Meaning_choice_29 : decode bn_Meaning_choice 29 = .ok (.getfield 24, 3) := by decide +kernel
theorem dn_Meaning_choice_32 : decode bn_Meaning_choice 32 = .ok (.invokevirtual 119, 3) := by decide +kernel
theorem dn_Meaning_choice_35 : decode bn_Meaning_choice 35 = .ok (.iastore, 1) := by decide +kernel
theorem dn_Meaning_choice_36 : decode bn_Meaning_choice 36 = .ok (.aload_n 0, 1) := by decide +kernel
theorem dn_Meaning_choice_37 : decode bn_Meaning_choice 37 = .ok (.getfield 9, 3) := by decide +kernel
theorem dn_Meaning_choice_40 : decode bn_Meaning_choice 40 = .ok (.aload_n 0, 1) := by decide +kernel
theorem dn_Meaning_choice_41 : decode bn_Meaning_choice 41 = .ok (.getfield 51, 3) := by decide +kernel
theorem dn_Meaning_choice_44 : decode bn_Meaning_choice 44 = .ok (.iconst (-1), 1) := by decide +kernel
theorem dn_Meaning_choice_45 : decode bn_Meaning_choice 45 = .ok (.iastore, 1) := by decide +kernel
theorem dn_Meaning_choice_46 : decode bn_Meaning_choice 46 = .ok (.aload_n 0, 1) := by decide +kernel
theorem dn_Meaning_choice_47 : decode bn_Meaning_choice 47 = .ok (.getfield 15, 3) := by decide +kernel
theorem dn_Meaning_choice_50 : decode bn_Meaning_choice 50 = .ok (.aload_n 0, 1) := by decide +kernel
theorem dn_Meaning_choice_51 : decode bn_Meaning_choice 51 = .ok (.getfield 51, 3) := by decide +kernel
theorem dn_Meaning_choice_54 : decode bn_Meaning_choice 54 = .ok (.iconst (-1), 1) := by decide +kernel
theorem dn_Meaning_choice_55 : decode bn_Meaning_choice 55 = .ok (.iastore, 1) := by decide +kernel
theorem dn_Meaning_choice_56 : decode bn_Meaning_choice 56 = .ok (.aload_n 0, 1) := by decide +kernel
theorem dn_Meaning_choice_57 : decode bn_Meaning_choice 57 = .ok (.getfield 18, 3) := by decide +kernel
theorem dn_Meaning_choice_60 : decode bn_Meaning_choice 60 = .ok (.aload_n 0, 1) := by decide +kernel
theorem dn_Meaning_choice_61 : decode bn_Meaning_choice 61 = .ok (.getfield 51, 3) := by decide +kernel
theorem dn_Meaning_choice_64 : decode bn_Meaning_choice 64 = .ok (.iconst (-1), 1) := by decide +kernel
theorem dn_Meaning_choice_65 : decode bn_Meaning_choice 65 = .ok (.iastore, 1) := by decide +kernel
theorem dn_Meaning_choice_66 : decode bn_Meaning_choice 66 = .ok (.aload_n 0, 1) := by decide +kernel
theorem dn_Meaning_choice_67 : decode bn_Meaning_choice 67 = .ok (.dup, 1) := by decide +kernel
theorem dn_Meaning_choice_68 : decode bn_Meaning_choice 68 = .ok (.getfield 51, 3) := by decide +kernel
theorem dn_Meaning_choice_71 : decode bn_Meaning_choice 71 = .ok (.iconst 1, 1) := by decide +kernel
theorem dn_Meaning_choice_72 : decode bn_Meaning_choice 72 = .ok (.iadd, 1) := by decide +kernel
theorem dn_Meaning_choice_73 : decode bn_Meaning_choice 73 = .ok (.putfield 51, 3) := by decide +kernel
theorem dn_Meaning_choice_76 : decode bn_Meaning_choice 76 = .ok (.return_, 1) := by decide +kernel
theorem dn_Meaning_condition_0 : decode bn_Meaning_condition 0 = .ok (.aload_n 0, 1) := by decide +kernel
theorem dn_Meaning_condition_1 : decode bn_Meaning_condition 1 = .ok (.getfield 24, 3) := by decide +kernel
theorem dn_Meaning_condition_4 : decode bn_Meaning_condition 4 = .ok (.invokevirtual 54, 3) := by decide +kernel
theorem dn_Meaning_condition_7 : decode bn_Meaning_condition 7 = .ok (.ifCond .ne 12, 3) := by decide +kernel
theorem dn_Meaning_condition_10 : decode bn_Meaning_condition 10 = .ok (.aload_n 0, 1) := by decide +kernel
theorem dn_Meaning_condition_11 : decode bn_Meaning_condition 11 = .ok (.getfield 51, 3) := by decide +kernel
theorem dn_Meaning_condition_14 : decode bn_Meaning_condition 14 = .ok (.bipush 60, 2) := by decide +kernel
theorem dn_Meaning_condition_16 : decode bn_Meaning_condition 16 = .ok (.if_icmp .lt 4, 3) := by decide +kernel
theorem dn_Meaning_condition_19 : decode bn_Meaning_condition 19 = .ok (.return_, 1) := by decide +kernel
theorem dn_Meaning_condition_20 : decode bn_Meaning_condition 20 = .ok (.aload_n 0, 1) := by decide +kernel
theorem dn_Meaning_condition_21 : decode bn_Meaning_condition 21 = .ok (.getfield 24, 3) := by decide +kernel
theorem dn_Meaning_condition_24 : decode bn_Meaning_condition 24 = .ok (.aload_n 0, 1) := by decide +kernel
theorem dn_Meaning_condition_25 : decode bn_Meaning_condition 25 = .ok (.getfield 24, 3) := by decide +kernel
theorem dn_Meaning_condition_28 : decode bn_Meaning_condition 28 = .ok (.invokevirtual 119, 3) := by decide +kernel
theorem dn_Meaning_condition_31 : decode bn_Meaning_condition 31 = .ok (.invokevirtual 126, 3) := by decide +kernel
theorem dn_Meaning_condition_34 : decode bn_Meaning_condition 34 = .ok (.aload_n 0, 1) := by decide +kernel
theorem dn_Meaning_condition_35 : decode bn_Meaning_condition 35 = .ok (.getfield 9, 3) := by decide +kernel
theorem dn_Meaning_condition_38 : decode bn_Meaning_condition 38 = .ok (.aload_n 0, 1) := by decide +kernel
theorem dn_Meaning_condition_39 : decode bn_Meaning_condition 39 = .ok (.getfield 51, 3) := by decide +kernel
theorem dn_Meaning_condition_42 : decode bn_Meaning_condition 42 = .ok (.aload_n 0, 1) := by decide +kernel
theorem dn_Meaning_condition_43 : decode bn_Meaning_condition 43 = .ok (.getfield 43, 3) := by decide +kernel
theorem dn_Meaning_condition_46 : decode bn_Meaning_condition 46 = .ok (.sipush 518, 3) := by decide +kernel
theorem dn_Meaning_condition_49 : decode bn_Meaning_condition 49 = .ok (.iconst (-1), 1) := by decide +kernel
theorem dn_Meaning_condition_50 : decode bn_Meaning_condition 50 = .ok (.invokevirtual 218, 3) := by decide +kernel
theorem dn_Meaning_condition_53 : decode bn_Meaning_condition 53 = .ok (.iastore, 1) := by decide +kernel
theorem dn_Meaning_condition_54 : decode bn_Meaning_condition 54 = .ok (.aload_n 0, 1) := by decide +kernel
theorem dn_Meaning_condition_55 : decode bn_Meaning_condition 55 = .ok (.dup, 1) := by decide +kernel
theorem dn_Meaning_condition_56 : decode bn_Meaning_condition 56 = .ok (.getfield 51, 3) := by decide +kernel
theorem dn_Meaning_condition_59 : decode bn_Meaning_condition 59 = .ok (.iconst 1, 1) := by decide +kernel
theorem dn_Meaning_condition_60 : decode bn_Meaning_condition 60 = .ok (.iadd, 1) := by decide +kernel
theorem dn_Meaning_condition_61 : decode bn_Meaning_condition 61 = .ok (.putfield 51, 3) := by decide +kernel
theorem dn_Meaning_condition_64 : decode bn_Meaning_condition 64 = .ok (.return_, 1) := by decide +kernel
theorem dn_Meaning_declare_0 : decode bn_Meaning_declare 0 = .ok (.aload_n 0, 1) := by decide +kernel
theorem dn_Meaning_declare_1 : decode bn_Meaning_declare 1 = .ok (.getfield 24, 3) := by decide +kernel
theorem dn_Meaning_declare_4 : decode bn_Meaning_declare 4 = .ok (.invokevirtual 54, 3) := by decide +kernel
theorem dn_Meaning_declare_7 : decode bn_Meaning_declare 7 = .ok (.ifCond .eq 4, 3) := by decide +kernel
theorem dn_Meaning_declare_10 : decode bn_Meaning_declare 10 = .ok (.return_, 1) := by decide +kernel
theorem dn_Meaning_declare_11 : decode bn_Meaning_declare 11 = .ok (.aload_n 0, 1) := by decide +kernel
theorem dn_Meaning_declare_12 : decode bn_Meaning_declare 12 = .ok (.getfield 24, 3) := by decide +kernel
theorem dn_Meaning_declare_15 : decode bn_Meaning_declare 15 = .ok (.iload_n 2, 1) := by decide +kernel
theorem dn_Meaning_declare_16 : decode bn_Meaning_declare 16 = .ok (.invokevirtual 78, 3) := by decide +kernel
theorem dn_Meaning_declare_19 : decode bn_Meaning_declare 19 = .ok (.iconst (-1), 1) := by decide +kernel
theorem dn_Meaning_declare_20 : decode bn_Meaning_declare 20 = .ok (.if_icmp .eq 14, 3) := by decide +kernel
theorem dn_Meaning_declare_23 : decode bn_Meaning_declare 23 = .ok (.aload_n 0, 1) := by decide +kernel
theorem dn_Meaning_declare_24 : decode bn_Meaning_declare 24 = .ok (.getfield 24, 3) := by decide +kernel
theorem dn_Meaning_declare_27 : decode bn_Meaning_declare 27 = .ok (.bipush 21, 2) := by decide +kernel
theorem dn_Meaning_declare_29 : decode bn_Meaning_declare 29 = .ok (.iload_n 3, 1) := by decide +kernel
theorem dn_Meaning_declare_30 : decode bn_Meaning_declare 30 = .ok (.invokevirtual 64, 3) := by decide +kernel
theorem dn_Meaning_declare_33 : decode bn_Meaning_declare 33 = .ok (.return_, 1) := by decide +kernel
theorem dn_Meaning_declare_34 : decode bn_Meaning_declare 34 = .ok (.aload_n 0, 1) := by decide +kernel
theorem dn_Meaning_declare_35 : decode bn_Meaning_declare 35 = .ok (.getfield 24, 3) := by decide +kernel
theorem dn_Meaning_declare_38 : decode bn_Meaning_declare 38 = .ok (.iload_n 2, 1) := by decide +kernel
theorem dn_Meaning_declare_39 : decode bn_Meaning_declare 39 = .ok (.aload_n 0, 1) := by decide +kernel
theorem dn_Meaning_declare_40 : decode bn_Meaning_declare 40 = .ok (.getfield 38, 3) := by decide +kernel
theorem dn_Meaning_declare_43 : decode bn_Meaning_declare 43 = .ok (.getfield 81, 3) := by decide +kernel
theorem dn_Meaning_declare_46 : decode bn_Meaning_declare 46 = .ok (.invokevirtual 86, 3) := by decide +kernel
theorem dn_Meaning_declare_49 : decode bn_Meaning_declare 49 = .ok (.aload_n 0, 1) := by decide +kernel
theorem dn_Meaning_declare_50 : decode bn_Meaning_declare 50 = .ok (.getfield 38, 3) := by decide +kernel
theorem dn_Meaning_declare_53 : decode bn_Meaning_declare 53 = .ok (.iload_n 1, 1) := by decide +kernel
theorem dn_Meaning_declare_54 : decode bn_Meaning_declare 54 = .ok (.iload_n 3, 1) := by decide +kernel
theorem dn_Meaning_declare_55 : decode bn_Meaning_declare 55 = .ok (.aload_n 0, 1) := by decide +kernel
theorem dn_Meaning_declare_56 : decode bn_Meaning_declare 56 = .ok (.getfield 44, 3) := by decide +kernel
theorem dn_Meaning_declare_59 : decode bn_Meaning_declare 59 = .ok (.invokevirtual 89, 3) := by decide +kernel
theorem dn_Meaning_declare_62 : decode bn_Meaning_declare 62 = .ok (.aload_n 0, 1) := by decide +kernel
theorem dn_Meaning_declare_63 : decode bn_Meaning_declare 63 = .ok (.iconst 1, 1) := by decide +kernel
theorem dn_Meaning_declare_64 : decode bn_Meaning_declare 64 = .ok (.putfield 44, 3) := by decide +kernel
theorem dn_Meaning_declare_67 : decode bn_Meaning_declare 67 = .ok (.return_, 1) := by decide +kernel
theorem dn_Meaning_ifEnd_0 : decode bn_Meaning_ifEnd 0 = .ok (.aload_n 0, 1) := by decide +kernel
theorem dn_Meaning_ifEnd_1 : decode bn_Meaning_ifEnd 1 = .ok (.getfield 24, 3) := by decide +kernel
theorem dn_Meaning_ifEnd_4 : decode bn_Meaning_ifEnd 4 = .ok (.invokevirtual 54, 3) := by decide +kernel
theorem dn_Meaning_ifEnd_7 : decode bn_Meaning_ifEnd 7 = .ok (.ifCond .ne 10, 3) := by decide +kernel
theorem dn_Meaning_ifEnd_10 : decode bn_Meaning_ifEnd 10 = .ok (.aload_n 0, 1) := by decide +kernel
theorem dn_Meaning_ifEnd_11 : decode bn_Meaning_ifEnd 11 = .ok (.getfield 51, 3) := by decide +kernel
theorem dn_Meaning_ifEnd_14 : decode bn_Meaning_ifEnd 14 = .ok (.ifCond .ne 4, 3) := by decide +kernel
theorem dn_Meaning_ifEnd_17 : decode bn_Meaning_ifEnd 17 = .ok (.return_, 1) := by decide +kernel
theorem dn_Meaning_ifEnd_18 : decode bn_Meaning_ifEnd 18 = .ok (.aload_n 0, 1) := by decide +kernel
theorem dn_Meaning_ifEnd_19 : decode bn_Meaning_ifEnd 19 = .ok (.dup, 1) := by decide +kernel
theorem dn_Meaning_ifEnd_20 : decode bn_Meaning_ifEnd 20 = .ok (.getfield 51, 3) := by decide +kernel
theorem dn_Meaning_ifEnd_23 : decode bn_Meaning_ifEnd 23 = .ok (.iconst 1, 1) := by decide +kernel
theorem dn_Meaning_ifEnd_24 : decode bn_Meaning_ifEnd 24 = .ok (.isub, 1) := by decide +kernel
theorem dn_Meaning_ifEnd_25 : decode bn_Meaning_ifEnd 25 = .ok (.putfield 51, 3) := by decide +kernel
theorem dn_Meaning_ifEnd_28 : decode bn_Meaning_ifEnd 28 = .ok (.aload_n 0, 1) := by decide +kernel
theorem dn_Meaning_ifEnd_29 : decode bn_Meaning_ifEnd 29 = .ok (.getfield 43, 3) := by decide +kernel
theorem dn_Meaning_ifEnd_32 : decode bn_Meaning_ifEnd 32 = .ok (.aload_n 0, 1) := by decide +kernel
theorem dn_Meaning_ifEnd_33 : decode bn_Meaning_ifEnd 33 = .ok (.getfield 9, 3) := by decide +kernel
theorem dn_Meaning_ifEnd_36 : decode bn_Meaning_ifEnd 36 = .ok (.aload_n 0, 1) := by decide +kernel
theorem dn_Meaning_ifEnd_37 : decode bn_Meaning_ifEnd 37 = .ok (.getfield 51, 3) := by decide +kernel
theorem dn_Meaning_ifEnd_40 : decode bn_Meaning_ifEnd 40 = .ok (.iaload, 1) := by decide +kernel
theorem dn_Meaning_ifEnd_41 : decode bn_Meaning_ifEnd 41 = .ok (.invokevirtual 221, 3) := by decide +kernel
theorem dn_Meaning_ifEnd_44 : decode bn_Meaning_ifEnd 44 = .ok (.return_, 1) := by decide +kernel
theorem dn_Meaning_instance_0 : decode bn_Meaning_instance 0 = .ok (.aload_n 0, 1) := by decide +kernel
theorem dn_Meaning_instance_1 : decode bn_Meaning_instance 1 = .ok (.getfield 24, 3) := by decide +kernel
theorem dn_Meaning_instance_4 : decode bn_Meaning_instance 4 = .ok (.invokevirtual 54, 3) := by decide +kernel
theorem dn_Meaning_instance_7 : decode bn_Meaning_instance 7 = .ok (.ifCond .eq 4, 3) := by decide +kernel
theorem dn_Meaning_instance_10 : decode bn_Meaning_instance 10 = .ok (.return_, 1) := by decide +kernel
theorem dn_Meaning_instance_11 : decode bn_Meaning_instance 11 = .ok (.aload_n 0, 1) := by decide +kernel
theorem dn_Meaning_instance_12 : decode bn_Meaning_instance 12 = .ok (.getfield 24, 3) := by decide +kernel
theorem dn_Meaning_instance_15 : decode bn_Meaning_instance 15 = .ok (.iload_n 1, 1) := by decide +kernel
theorem dn_Meaning_instance_16 : decode bn_Meaning_instance 16 = .ok (.invokevirtual 60, 3) := by decide +kernel
theorem dn_Meaning_instance_19 : decode bn_Meaning_instance 19 = .ok (.istore_n 3, 1) := by decide +kernel
theorem dn_Meaning_instance_20 : decode bn_Meaning_instance 20 = .ok (.iload_n 3, 1) := by decide +kernel
theorem dn_Meaning_instance_21 : decode bn_Meaning_instance 21 = .ok (.iconst (-1), 1) := by decide +kernel
theorem dn_Meaning_instance_22 : decode bn_Meaning_instance 22 = .ok (.if_icmp .eq 16, 3) := by decide +kernel
theorem dn_Meaning_instance_25 : decode bn_Meaning_instance 25 = .ok (.iload_n 3, 1) := by decide +kernel
theorem dn_Meaning_instance_26 : decode bn_Meaning_instance 26 = .ok (.aload_n 0, 1) := by decide +kernel
theorem dn_Meaning_instance_27 : decode bn_Meaning_instance 27 = .ok (.getfield 28, 3) := by decide +kernel
theorem dn_Meaning_instance_30 : decode bn_Meaning_instance 30 = .ok (.getfield 136, 3) := by decide +kernel
theorem dn_Meaning_instance_33 : decode bn_Meaning_instance 33 = .ok (.iconst 1, 1) := by decide +kernel
theorem dn_Meaning_instance_34 : decode bn_Meaning_instance 34 = .ok (.isub, 1) := by decide +kernel
theorem dn_Meaning_instance_35 : decode bn_Meaning_instance 35 = .ok (.if_icmp .lt 16, 3) := by decide +kernel
theorem dn_Meaning_instance_38 : decode bn_Meaning_instance 38 = .ok (.aload_n 0, 1) := by decide +kernel
theorem dn_Meaning_instance_39 : decode bn_Meaning_instance 39 = .ok (.getfield 24, 3) := by decide +kernel
theorem dn_Meaning_instance_42 : decode bn_Meaning_instance 42 = .ok (.bipush 22, 2) := by decide +kernel
theorem dn_Meaning_instance_44 : decode bn_Meaning_instance 44 = .ok (.iload_n 2, 1) := by decide +kernel
theorem dn_Meaning_instance_45 : decode bn_Meaning_instance 45 = .ok (.invokevirtual 64, 3) := by decide +kernel
theorem dn_Meaning_instance_48 : decode bn_Meaning_instance 48 = .ok (.goto 11, 3) := by decide +kernel
theorem dn_Meaning_instance_51 : decode bn_Meaning_instance 51 = .ok (.aload_n 0, 1) := by decide +kernel
theorem dn_Meaning_instance_52 : decode bn_Meaning_instance 52 = .ok (.getfield 38, 3) := by decide +kernel
theorem dn_Meaning_instance_55 : decode bn_Meaning_instance 55 = .ok (.iload_n 3, 1) := by decide +kernel
theorem dn_Meaning_instance_56 : decode bn_Meaning_instance 56 = .ok (.invokevirtual 139, 3) := by decide +kernel
theorem dn_Meaning_instance_59 : decode bn_Meaning_instance 59 = .ok (.return_, 1) := by decide +kernel
theorem dn_Meaning_instanceEnd_0 : decode bn_Meaning_instanceEnd 0 = .ok (.aload_n 0, 1) := by decide +kernel
theorem dn_Meaning_instanceEnd_1 : decode bn_Meaning_instanceEnd 1 = .ok (.getfield 24, 3) := by decide +kernel
theorem dn_Meaning_instanceEnd_4 : decode bn_Meaning_instanceEnd 4 = .ok (.invokevirtual 54, 3) := by decide +kernel
theorem dn_Meaning_instanceEnd_7 : decode bn_Meaning_instanceEnd 7 = .ok (.ifCond .eq 4, 3) := by decide +kernel
theorem dn_Meaning_instanceEnd_10 : decode bn_Meaning_instanceEnd 10 = .ok (.return_, 1) := by decide +kernel
theorem dn_Meaning_instanceEnd_11 : decode bn_Meaning_instanceEnd 11 = .ok (.aload_n 0, 1) := by decide +kernel
theorem dn_Meaning_instanceEnd_12 : decode bn_Meaning_instanceEnd 12 = .ok (.getfield 38, 3) := by decide +kernel
theorem dn_Meaning_instanceEnd_15 : decode bn_Meaning_instanceEnd 15 = .ok (.getfield 142, 3) := by decide +kernel
theorem dn_Meaning_instanceEnd_18 : decode bn_Meaning_instanceEnd 18 = .ok (.iconst 1, 1) := by decide +kernel
theorem dn_Meaning_instanceEnd_19 : decode bn_Meaning_instanceEnd 19 = .ok (.isub, 1) := by decide +kernel
theorem dn_Meaning_instanceEnd_20 : decode bn_Meaning_instanceEnd 20 = .ok (.istore_n 1, 1) := by decide +kernel
theorem dn_Meaning_instanceEnd_21 : decode bn_Meaning_instanceEnd 21 = .ok (.iload_n 1, 1) := by decide +kernel
theorem dn_Meaning_instanceEnd_22 : decode bn_Meaning_instanceEnd 22 = .ok (.ifCond .ge 4, 3) := by decide +kernel
theorem dn_Meaning_instanceEnd_25 : decode bn_Meaning_instanceEnd 25 = .ok (.return_, 1) := by decide +kernel
theorem dn_Meaning_instanceEnd_26 : decode bn_Meaning_instanceEnd 26 = .ok (.aload_n 0, 1) := by decide +kernel
theorem dn_Meaning_instanceEnd_27 : decode bn_Meaning_instanceEnd 27 = .ok (.getfield 38, 3) := by decide +kernel
theorem dn_Meaning_instanceEnd_30 : decode bn_Meaning_instanceEnd 30 = .ok (.getfield 171, 3) := by decide +kernel
theorem dn_Meaning_instanceEnd_33 : decode bn_Meaning_instanceEnd 33 = .ok (.aload_n 0, 1) := by decide +kernel
theorem dn_Meaning_instanceEnd_34 : decode bn_Meaning_instanceEnd 34 = .ok (.getfield 38, 3) := by decide +kernel
theorem dn_Meaning_instanceEnd_37 : decode bn_Meaning_instanceEnd 37 = .ok (.getfield 183, 3) := by decide +kernel
theorem dn_Meaning_instanceEnd_40 : decode bn_Meaning_instanceEnd 40 = .ok (.iload_n 1, 1) := by decide +kernel
theorem dn_Meaning_instanceEnd_41 : decode bn_Meaning_instanceEnd 41 = .ok (.iaload, 1) := by decide +kernel
theorem dn_Meaning_instanceEnd_42 : decode bn_Meaning_instanceEnd 42 = .ok (.isub, 1) := by decide +kernel
theorem dn_Meaning_instanceEnd_43 : decode bn_Meaning_instanceEnd 43 = .ok (.istore_n 2, 1) := by decide +kernel
theorem dn_Meaning_instanceEnd_44 : decode bn_Meaning_instanceEnd 44 = .ok (.iload_n 2, 1) := by decide +kernel
theorem dn_Meaning_instanceEnd_45 : decode bn_Meaning_instanceEnd 45 = .ok (.aload_n 0, 1) := by decide +kernel
theorem dn_Meaning_instanceEnd_46 : decode bn_Meaning_instanceEnd 46 = .ok (.getfield 28, 3) := by decide +kernel
theorem dn_Meaning_instanceEnd_49 : decode bn_Meaning_instanceEnd 49 = .ok (.aload_n 0, 1) := by decide +kernel
theorem dn_Meaning_instanceEnd_50 : decode bn_Meaning_instanceEnd 50 = .ok (.getfield 38, 3) := by decide +kernel
theorem dn_Meaning_instanceEnd_53 : decode bn_Meaning_instanceEnd 53 = .ok (.getfield 148, 3) := by decide +kernel
theorem dn_Meaning_instanceEnd_56 : decode bn_Meaning_instanceEnd 56 = .ok (.iload_n 1, 1) := by decide +kernel
theorem dn_Meaning_instanceEnd_57 : decode bn_Meaning_instanceEnd 57 = .ok (.iaload, 1) := by decide +kernel
theorem dn_Meaning_instanceEnd_58 : decode bn_Meaning_instanceEnd 58 = .ok (.invokevirtual 154, 3) := by decide +kernel
theorem dn_Meaning_instanceEnd_61 : decode bn_Meaning_instanceEnd 61 = .ok (.if_icmp .eq 21, 3) := by decide +kernel
theorem dn_Meaning_instanceEnd_64 : decode bn_Meaning_instanceEnd 64 = .ok (.aload_n 0, 1) := by decide +kernel
theorem dn_Meaning_instanceEnd_65 : decode bn_Meaning_instanceEnd 65 = .ok (.getfield 24, 3) := by decide +kernel
theorem dn_Meaning_instanceEnd_68 : decode bn_Meaning_instanceEnd 68 = .ok (.bipush 24, 2) := by decide +kernel
theorem dn_Meaning_instanceEnd_70 : decode bn_Meaning_instanceEnd 70 = .ok (.aload_n 0, 1) := by decide +kernel
theorem dn_Meaning_instanceEnd_71 : decode bn_Meaning_instanceEnd 71 = .ok (.getfield 38, 3) := by decide +kernel
theorem dn_Meaning_instanceEnd_74 : decode bn_Meaning_instanceEnd 74 = .ok (.getfield 145, 3) := by decide +kernel
theorem dn_Meaning_instanceEnd_77 : decode bn_Meaning_instanceEnd 77 = .ok (.iload_n 1, 1) := by decide +kernel
theorem dn_Meaning_instanceEnd_78 : decode bn_Meaning_instanceEnd 78 = .ok (.iaload, 1) := by decide +kernel
theorem dn_Meaning_instanceEnd_79 : decode bn_Meaning_instanceEnd 79 = .ok (.invokevirtual 64, 3) := by decide +kernel
theorem dn_Meaning_instanceEnd_82 : decode bn_Meaning_instanceEnd 82 = .ok (.return_, 1) := by decide +kernel
theorem dn_Meaning_instanceName_0 : decode bn_Meaning_instanceName 0 = .ok (.aload_n 0, 1) := by decide +kernel
theorem dn_Meaning_instanceName_1 : decode bn_Meaning_instanceName 1 = .ok (.getfield 24, 3) := by decide +kernel
theorem dn_Meaning_instanceName_4 : decode bn_Meaning_instanceName 4 = .ok (.invokevirtual 54, 3) := by decide +kernel
theorem dn_Meaning_instanceName_7 : decode bn_Meaning_instanceName 7 = .ok (.ifCond .eq 4, 3) := by decide +kernel
theorem dn_Meaning_instanceName_10 : decode bn_Meaning_instanceName 10 = .ok (.return_, 1) := by decide +kernel
theorem dn_Meaning_instanceName_11 : decode bn_Meaning_instanceName 11 = .ok (.aload_n 0, 1) := by decide +kernel
theorem dn_Meaning_instanceName_12 : decode bn_Meaning_instanceName 12 = .ok (.getfield 38, 3) := by decide +kernel
theorem dn_Meaning_instanceName_15 : decode bn_Meaning_instanceName 15 = .ok (.getfield 142, 3) := by decide +kernel
theorem dn_Meaning_instanceName_18 : decode bn_Meaning_instanceName 18 = .ok (.iconst 1, 1) := by decide +kernel
theorem dn_Meaning_instanceName_19 : decode bn_Meaning_instanceName 19 = .ok (.isub, 1) := by decide +kernel
theorem dn_Meaning_instanceName_20 : decode bn_Meaning_instanceName 20 = .ok (.istore_n 3, 1) := by decide +kernel
theorem dn_Meaning_instanceName_21 : decode bn_Meaning_instanceName 21 = .ok (.iload_n 3, 1) := by decide +kernel
theorem dn_Meaning_instanceName_22 : decode bn_Meaning_instanceName 22 = .ok (.ifCond .ge 4, 3) := by decide +kernel
theorem dn_Meaning_instanceName_25 : decode bn_Meaning_instanceName 25 = .ok (.return_, 1) := by decide +kernel
theorem dn_Meaning_instanceName_26 : decode bn_Meaning_instanceName 26 = .ok (.aload_n 0, 1) := by decide +kernel
theorem dn_Meaning_instanceName_27 : decode bn_Meaning_instanceName 27 = .ok (.getfield 38, 3) := by decide +kernel
theorem dn_Meaning_instanceName_30 : decode bn_Meaning_instanceName 30 = .ok (.getfield 145, 3) := by decide +kernel
theorem dn_Meaning_instanceName_33 : decode bn_Meaning_instanceName 33 = .ok (.iload_n 3, 1) := by decide +kernel
theorem dn_Meaning_instanceName_34 : decode bn_Meaning_instanceName 34 = .ok (.iload_n 2, 1) := by decide +kernel
theorem dn_Meaning_instanceName_35 : decode bn_Meaning_instanceName 35 = .ok (.iastore, 1) := by decide +kernel
theorem dn_Meaning_instanceName_36 : decode bn_Meaning_instanceName 36 = .ok (.aload_n 0, 1) := by decide +kernel
theorem dn_Meaning_instanceName_37 : decode bn_Meaning_instanceName 37 = .ok (.getfield 24, 3) := by decide +kernel
theorem dn_Meaning_instanceName_40 : decode bn_Meaning_instanceName 40 = .ok (.iload_n 1, 1) := by decide +kernel
theorem dn_Meaning_instanceName_41 : decode bn_Meaning_instanceName 41 = .ok (.invokevirtual 78, 3) := by decide +kernel
theorem dn_Meaning_instanceName_44 : decode bn_Meaning_instanceName 44 = .ok (.iconst (-1), 1) := by decide +kernel
theorem dn_Meaning_instanceName_45 : decode bn_Meaning_instanceName 45 = .ok (.if_icmp .eq 16, 3) := by decide +kernel
theorem dn_Meaning_instanceName_48 : decode bn_Meaning_instanceName 48 = .ok (.aload_n 0, 1) := by decide +kernel
theorem dn_Meaning_instanceName_49 : decode bn_Meaning_instanceName 49 = .ok (.getfield 24, 3) := by decide +kernel
theorem dn_Meaning_instanceName_52 : decode bn_Meaning_instanceName 52 = .ok (.bipush 21, 2) := by decide +kernel
theorem dn_Meaning_instanceName_54 : decode bn_Meaning_instanceName 54 = .ok (.iload_n 2, 1) := by decide +kernel
theorem dn_Meaning_instanceName_55 : decode bn_Meaning_instanceName 55 = .ok (.invokevirtual 64, 3) := by decide +kernel
theorem dn_Meaning_instanceName_58 : decode bn_Meaning_instanceName 58 = .ok (.goto 13, 3) := by decide +kernel
theorem dn_Meaning_instanceName_61 : decode bn_Meaning_instanceName 61 = .ok (.aload_n 0, 1) := by decide +kernel
theorem dn_Meaning_instanceName_62 : decode bn_Meaning_instanceName 62 = .ok (.getfield 24, 3) := by decide +kernel
theorem dn_Meaning_instanceName_65 : decode bn_Meaning_instanceName 65 = .ok (.iload_n 1, 1) := by decide +kernel
theorem dn_Meaning_instanceName_66 : decode bn_Meaning_instanceName 66 = .ok (.bipush (-2), 2) := by decide +kernel
theorem dn_Meaning_instanceName_68 : decode bn_Meaning_instanceName 68 = .ok (.invokevirtual 86, 3) := by decide +kernel
theorem dn_Meaning_instanceName_71 : decode bn_Meaning_instanceName 71 = .ok (.return_, 1) := by decide +kernel
theorem dn_Meaning_label_0 : decode bn_Meaning_label 0 = .ok (.aload_n 0, 1) := by decide +kernel
theorem dn_Meaning_label_1 : decode bn_Meaning_label 1 = .ok (.getfield 24, 3) := by decide +kernel
theorem dn_Meaning_label_4 : decode bn_Meaning_label 4 = .ok (.invokevirtual 54, 3) := by decide +kernel
theorem dn_Meaning_label_7 : decode bn_Meaning_label 7 = .ok (.ifCond .ne 10, 3) := by decide +kernel
theorem dn_Meaning_label_10 : decode bn_Meaning_label 10 = .ok (.aload_n 0, 1) := by decide +kernel
theorem dn_Meaning_label_11 : decode bn_Meaning_label 11 = .ok (.getfield 51, 3) := by decide +kernel
theorem dn_Meaning_label_14 : decode bn_Meaning_label 14 = .ok (.ifCond .ne 4, 3) := by decide +kernel
theorem dn_Meaning_label_17 : decode bn_Meaning_label 17 = .ok (.return_, 1) := by decide +kernel
theorem dn_Meaning_label_18 : decode bn_Meaning_label 18 = .ok (.aload_n 0, 1) := by decide +kernel
theorem dn_Meaning_label_19 : decode bn_Meaning_label 19 = .ok (.getfield 21, 3) := by decide +kernel
theorem dn_Meaning_label_22 : decode bn_Meaning_label 22 = .ok (.aload_n 0, 1) := by decide +kernel
theorem dn_Meaning_label_23 : decode bn_Meaning_label 23 = .ok (.getfield 51, 3) := by decide +kernel
theorem dn_Meaning_label_26 : decode bn_Meaning_label 26 = .ok (.iconst 1, 1) := by decide +kernel
theorem dn_Meaning_label_27 : decode bn_Meaning_label 27 = .ok (.isub, 1) := by decide +kernel
theorem dn_Meaning_label_28 : decode bn_Meaning_label 28 = .ok (.iaload, 1) := by decide +kernel
theorem dn_Meaning_label_29 : decode bn_Meaning_label 29 = .ok (.istore_n 3, 1) := by decide +kernel
theorem dn_Meaning_label_30 : decode bn_Meaning_label 30 = .ok (.aload_n 0, 1) := by decide +kernel
theorem dn_Meaning_label_31 : decode bn_Meaning_label 31 = .ok (.getfield 43, 3) := by decide +kernel
theorem dn_Meaning_label_34 : decode bn_Meaning_label 34 = .ok (.iload_n 1, 1) := by decide +kernel
theorem dn_Meaning_label_35 : decode bn_Meaning_label 35 = .ok (.invokevirtual 93, 3) := by decide +kernel
theorem dn_Meaning_label_38 : decode bn_Meaning_label 38 = .ok (.iload_n 3, 1) := by decide +kernel
theorem dn_Meaning_label_39 : decode bn_Meaning_label 39 = .ok (.if_icmp .eq 13, 3) := by decide +kernel
theorem dn_Meaning_label_42 : decode bn_Meaning_label 42 = .ok (.aload_n 0, 1) := by decide +kernel
theorem dn_Meaning_label_43 : decode bn_Meaning_label 43 = .ok (.getfield 24, 3) := by decide +kernel
theorem dn_Meaning_label_46 : decode bn_Meaning_label 46 = .ok (.bipush 30, 2) := by decide +kernel
theorem dn_Meaning_label_48 : decode bn_Meaning_label 48 = .ok (.iload_n 2, 1) := by decide +kernel
theorem dn_Meaning_label_49 : decode bn_Meaning_label 49 = .ok (.invokevirtual 64, 3) := by decide +kernel
theorem dn_Meaning_label_52 : decode bn_Meaning_label 52 = .ok (.aload_n 0, 1) := by decide +kernel
theorem dn_Meaning_label_53 : decode bn_Meaning_label 53 = .ok (.getfield 24, 3) := by decide +kernel
theorem dn_Meaning_label_56 : decode bn_Meaning_label 56 = .ok (.iload_n 3, 1) := by decide +kernel
theorem dn_Meaning_label_57 : decode bn_Meaning_label 57 = .ok (.invokevirtual 126, 3) := by decide +kernel
theorem dn_Meaning_label_60 : decode bn_Meaning_label 60 = .ok (.aload_n 0, 1) := by decide +kernel
theorem dn_Meaning_label_61 : decode bn_Meaning_label 61 = .ok (.getfield 43, 3) := by decide +kernel
theorem dn_Meaning_label_64 : decode bn_Meaning_label 64 = .ok (.sipush 513, 3) := by decide +kernel
theorem dn_Meaning_label_67 : decode bn_Meaning_label 67 = .ok (.iload_n 1, 1) := by decide +kernel
theorem dn_Meaning_label_68 : decode bn_Meaning_label 68 = .ok (.invokevirtual 218, 3) := by decide +kernel
theorem dn_Meaning_label_71 : decode bn_Meaning_label 71 = .ok (.pop, 1) := by decide +kernel
theorem dn_Meaning_label_72 : decode bn_Meaning_label 72 = .ok (.aload_n 0, 1) := by decide +kernel
theorem dn_Meaning_label_73 : decode bn_Meaning_label 73 = .ok (.getfield 18, 3) := by decide +kernel
theorem dn_Meaning_label_76 : decode bn_Meaning_label 76 = .ok (.aload_n 0, 1) := by decide +kernel
theorem dn_Meaning_label_77 : decode bn_Meaning_label 77 = .ok (.getfield 51, 3) := by decide +kernel
theorem dn_Meaning_label_80 : decode bn_Meaning_label 80 = .ok (.iconst 1, 1) := by decide +kernel
theorem dn_Meaning_label_81 : decode bn_Meaning_label 81 = .ok (.isub, 1) := by decide +kernel
theorem dn_Meaning_label_82 : decode bn_Meaning_label 82 = .ok (.aload_n 0, 1) := by decide +kernel
theorem dn_Meaning_label_83 : decode bn_Meaning_label 83 = .ok (.getfield 43, 3) := by decide +kernel
theorem dn_Meaning_label_86 : decode bn_Meaning_label 86 = .ok (.sipush 519, 3) := by decide +kernel
theorem dn_Meaning_label_89 : decode bn_Meaning_label 89 = .ok (.aload_n 0, 1) := by decide +kernel
theorem dn_Meaning_label_90 : decode bn_Meaning_label 90 = .ok (.getfield 18, 3) := by decide +kernel
theorem dn_Meaning_label_93 : decode bn_Meaning_label 93 = .ok (.aload_n 0, 1) := by decide +kernel
theorem dn_Meaning_label_94 : decode bn_Meaning_label 94 = .ok (.getfield 51, 3) := by decide +kernel
theorem dn_Meaning_label_97 : decode bn_Meaning_label 97 = .ok (.iconst 1, 1) := by decide +kernel
theorem dn_Meaning_label_98 : decode bn_Meaning_label 98 = .ok (.isub, 1) := by decide +kernel
theorem dn_Meaning_label_99 : decode bn_Meaning_label 99 = .ok (.iaload, 1) := by decide +kernel
theorem dn_Meaning_label_100 : decode bn_Meaning_label 100 = .ok (.invokevirtual 218, 3) := by decide +kernel
theorem dn_Meaning_label_103 : decode bn_Meaning_label 103 = .ok (.iastore, 1) := by decide +kernel
theorem dn_Meaning_label_104 : decode bn_Meaning_label 104 = .ok (.return_, 1) := by decide +kernel
theorem dn_Meaning_labelsEnd_0 : decode bn_Meaning_labelsEnd 0 = .ok (.aload_n 0, 1) := by decide +kernel
theorem dn_Meaning_labelsEnd_1 : decode bn_Meaning_labelsEnd 1 = .ok (.getfield 24, 3) := by decide +kernel
theorem dn_Meaning_labelsEnd_4 : decode bn_Meaning_labelsEnd 4 = .ok (.invokevirtual 54, 3) := by decide +kernel
theorem dn_Meaning_labelsEnd_7 : decode bn_Meaning_labelsEnd 7 = .ok (.ifCond .ne 10, 3) := by decide +kernel
theorem dn_Meaning_labelsEnd_10 : decode bn_Meaning_labelsEnd 10 = .ok (.aload_n 0, 1) := by decide +kernel
theorem dn_Meaning_labelsEnd_11 : decode bn_Meaning_labelsEnd 11 = .ok (.getfield 51, 3) := by decide +kernel
theorem dn_Meaning_labelsEnd_14 : decode bn_Meaning_labelsEnd 14 = .ok (.ifCond .ne 4, 3) := by decide +kernel
theorem dn_Meaning_labelsEnd_17 : decode bn_Meaning_labelsEnd 17 = .ok (.return_, 1) := by decide +kernel
theorem dn_Meaning_labelsEnd_18 : decode bn_Meaning_labelsEnd 18 = .ok (.aload_n 0, 1) := by decide +kernel
theorem dn_Meaning_labelsEnd_19 : decode bn_Meaning_labelsEnd 19 = .ok (.getfield 9, 3) := by decide +kernel
theorem dn_Meaning_labelsEnd_22 : decode bn_Meaning_labelsEnd 22 = .ok (.aload_n 0, 1) := by decide +kernel
theorem dn_Meaning_labelsEnd_23 : decode bn_Meaning_labelsEnd 23 = .ok (.getfield 51, 3) := by decide +kernel
theorem dn_Meaning_labelsEnd_26 : decode bn_Meaning_labelsEnd 26 = .ok (.iconst 1, 1) := by decide +kernel
theorem dn_Meaning_labelsEnd_27 : decode bn_Meaning_labelsEnd 27 = .ok (.isub, 1) := by decide +kernel
theorem dn_Meaning_labelsEnd_28 : decode bn_Meaning_labelsEnd 28 = .ok (.aload_n 0, 1) := by decide +kernel
theorem dn_Meaning_labelsEnd_29 : decode bn_Meaning_labelsEnd 29 = .ok (.getfield 43, 3) := by decide +kernel
theorem dn_Meaning_labelsEnd_32 : decode bn_Meaning_labelsEnd 32 = .ok (.sipush 517, 3) := by decide +kernel
theorem dn_Meaning_labelsEnd_35 : decode bn_Meaning_labelsEnd 35 = .ok (.iconst (-1), 1) := by decide +kernel
theorem dn_Meaning_labelsEnd_36 : decode bn_Meaning_labelsEnd 36 = .ok (.invokevirtual 218, 3) := by decide +kernel
theorem dn_Meaning_labelsEnd_39 : decode bn_Meaning_labelsEnd 39 = .ok (.iastore, 1) := by decide +kernel
theorem dn_Meaning_labelsEnd_40 : decode bn_Meaning_labelsEnd 40 = .ok (.aload_n 0, 1) := by decide +kernel
theorem dn_Meaning_labelsEnd_41 : decode bn_Meaning_labelsEnd 41 = .ok (.getfield 43, 3) := by decide +kernel
theorem dn_Meaning_labelsEnd_44 : decode bn_Meaning_labelsEnd 44 = .ok (.aload_n 0, 1) := by decide +kernel
theorem dn_Meaning_labelsEnd_45 : decode bn_Meaning_labelsEnd 45 = .ok (.getfield 18, 3) := by decide +kernel
theorem dn_Meaning_labelsEnd_48 : decode bn_Meaning_labelsEnd 48 = .ok (.aload_n 0, 1) := by decide +kernel
theorem dn_Meaning_labelsEnd_49 : decode bn_Meaning_labelsEnd 49 = .ok (.getfield 51, 3) := by decide +kernel
theorem dn_Meaning_labelsEnd_52 : decode bn_Meaning_labelsEnd 52 = .ok (.iconst 1, 1) := by decide +kernel
theorem dn_Meaning_labelsEnd_53 : decode bn_Meaning_labelsEnd 53 = .ok (.isub, 1) := by decide +kernel
theorem dn_Meaning_labelsEnd_54 : decode bn_Meaning_labelsEnd 54 = .ok (.iaload, 1) := by decide +kernel
theorem dn_Meaning_labelsEnd_55 : decode bn_Meaning_labelsEnd 55 = .ok (.invokevirtual 224, 3) := by decide +kernel
theorem dn_Meaning_labelsEnd_58 : decode bn_Meaning_labelsEnd 58 = .ok (.aload_n 0, 1) := by decide +kernel
theorem dn_Meaning_labelsEnd_59 : decode bn_Meaning_labelsEnd 59 = .ok (.getfield 18, 3) := by decide +kernel
theorem dn_Meaning_labelsEnd_62 : decode bn_Meaning_labelsEnd 62 = .ok (.aload_n 0, 1) := by decide +kernel
theorem dn_Meaning_labelsEnd_63 : decode bn_Meaning_labelsEnd 63 = .ok (.getfield 51, 3) := by decide +kernel
theorem dn_Meaning_labelsEnd_66 : decode bn_Meaning_labelsEnd 66 = .ok (.iconst 1, 1) := by decide +kernel
theorem dn_Meaning_labelsEnd_67 : decode bn_Meaning_labelsEnd 67 = .ok (.isub, 1) := by decide +kernel
theorem dn_Meaning_labelsEnd_68 : decode bn_Meaning_labelsEnd 68 = .ok (.iconst (-1), 1) := by decide +kernel
theorem dn_Meaning_labelsEnd_69 : decode bn_Meaning_labelsEnd 69 = .ok (.iastore, 1) := by decide +kernel
theorem dn_Meaning_labelsEnd_70 : decode bn_Meaning_labelsEnd 70 = .ok (.return_, 1) := by decide +kernel
theorem dn_Meaning_linkTo_0 : decode bn_Meaning_linkTo 0 = .ok (.aload_n 0, 1) := by decide +kernel
theorem dn_Meaning_linkTo_1 : decode bn_Meaning_linkTo 1 = .ok (.getfield 24, 3) := by decide +kernel
theorem dn_Meaning_linkTo_4 : decode bn_Meaning_linkTo 4 = .ok (.invokevirtual 54, 3) := by decide +kernel
theorem dn_Meaning_linkTo_7 : decode bn_Meaning_linkTo 7 = .ok (.ifCond .eq 4, 3) := by decide +kernel
theorem dn_Meaning_linkTo_10 : decode bn_Meaning_linkTo 10 = .ok (.return_, 1) := by decide +kernel
theorem dn_Meaning_linkTo_11 : decode bn_Meaning_linkTo 11 = .ok (.aload_n 0, 1) := by decide +kernel
theorem dn_Meaning_linkTo_12 : decode bn_Meaning_linkTo 12 = .ok (.getfield 38, 3) := by decide +kernel
theorem dn_Meaning_linkTo_15 : decode bn_Meaning_linkTo 15 = .ok (.getfield 142, 3) := by decide +kernel
theorem dn_Meaning_linkTo_18 : decode bn_Meaning_linkTo 18 = .ok (.iconst 1, 1) := by decide +kernel
theorem dn_Meaning_linkTo_19 : decode bn_Meaning_linkTo 19 = .ok (.isub, 1) := by decide +kernel
theorem dn_Meaning_linkTo_20 : decode bn_Meaning_linkTo 20 = .ok (.istore_n 3, 1) := by decide +kernel
theorem dn_Meaning_linkTo_21 : decode bn_Meaning_linkTo 21 = .ok (.iload_n 3, 1) := by decide +kernel
theorem dn_Meaning_linkTo_22 : decode bn_Meaning_linkTo 22 = .ok (.ifCond .ge 4, 3) := by decide +kernel
theorem dn_Meaning_linkTo_25 : decode bn_Meaning_linkTo 25 = .ok (.return_, 1) := by decide +kernel
theorem dn_Meaning_linkTo_26 : decode bn_Meaning_linkTo 26 = .ok (.aload_n 0, 1) := by decide +kernel
theorem dn_Meaning_linkTo_27 : decode bn_Meaning_linkTo 27 = .ok (.getfield 38, 3) := by decide +kernel
theorem dn_Meaning_linkTo_30 : decode bn_Meaning_linkTo 30 = .ok (.getfield 148, 3) := by decide +kernel
theorem dn_Meaning_linkTo_33 : decode bn_Meaning_linkTo 33 = .ok (.iload_n 3, 1) := by decide +kernel
theorem dn_Meaning_linkTo_34 : decode bn_Meaning_linkTo 34 = .ok (.iaload, 1) := by decide +kernel
theorem dn_Meaning_linkTo_35 : decode bn_Meaning_linkTo 35 = .ok (.istore 4, 2) := by decide +kernel
theorem dn_Meaning_linkTo_37 : decode bn_Meaning_linkTo 37 = .ok (.aload_n 0, 1) := by decide +kernel
theorem dn_Meaning_linkTo_38 : decode bn_Meaning_linkTo 38 = .ok (.getfield 28, 3) := by decide +kernel
theorem dn_Meaning_linkTo_41 : decode bn_Meaning_linkTo 41 = .ok (.iload 4, 2) := by decide +kernel
theorem dn_Meaning_linkTo_43 : decode bn_Meaning_linkTo 43 = .ok (.invokevirtual 151, 3) := by decide +kernel
theorem dn_Meaning_linkTo_46 : decode bn_Meaning_linkTo 46 = .ok (.istore 5, 2) := by decide +kernel
theorem dn_Meaning_linkTo_48 : decode bn_Meaning_linkTo 48 = .ok (.aload_n 0, 1) := by decide +kernel
theorem dn_Meaning_linkTo_49 : decode bn_Meaning_linkTo 49 = .ok (.aload_n 0, 1) := by decide +kernel
theorem dn_Meaning_linkTo_50 : decode bn_Meaning_linkTo 50 = .ok (.getfield 24, 3) := by decide +kernel
theorem dn_Meaning_linkTo_53 : decode bn_Meaning_linkTo 53 = .ok (.iload_n 1, 1) := by decide +kernel
theorem dn_Meaning_linkTo_54 : decode bn_Meaning_linkTo 54 = .ok (.iload 5, 2) := by decide +kernel
theorem dn_Meaning_linkTo_56 : decode bn_Meaning_linkTo 56 = .ok (.iload 5, 2) := by decide +kernel
theorem dn_Meaning_linkTo_58 : decode bn_Meaning_linkTo 58 = .ok (.aload_n 0, 1) := by decide +kernel
theorem dn_Meaning_linkTo_59 : decode bn_Meaning_linkTo 59 = .ok (.getfield 28, 3) := by decide +kernel
theorem dn_Meaning_linkTo_62 : decode bn_Meaning_linkTo 62 = .ok (.iload 4, 2) := by decide +kernel
theorem dn_Meaning_linkTo_64 : decode bn_Meaning_linkTo 64 = .ok (.invokevirtual 154, 3) := by decide +kernel
theorem dn_Meaning_linkTo_67 : decode bn_Meaning_linkTo 67 = .ok (.iadd, 1) := by decide +kernel
theorem dn_Meaning_linkTo_68 : decode bn_Meaning_linkTo 68 = .ok (.invokevirtual 157, 3) := by decide +kernel
theorem dn_Meaning_linkTo_71 : decode bn_Meaning_linkTo 71 = .ok (.putfield 161, 3) := by decide +kernel
theorem dn_Meaning_linkTo_74 : decode bn_Meaning_linkTo 74 = .ok (.aload_n 0, 1) := by decide +kernel
theorem dn_Meaning_linkTo_75 : decode bn_Meaning_linkTo 75 = .ok (.getfield 161, 3) := by decide +kernel
theorem dn_Meaning_linkTo_78 : decode bn_Meaning_linkTo 78 = .ok (.iconst (-1), 1) := by decide +kernel
theorem dn_Meaning_linkTo_79 : decode bn_Meaning_linkTo 79 = .ok (.if_icmp .eq 21, 3) := by decide +kernel
theorem dn_Meaning_linkTo_82 : decode bn_Meaning_linkTo 82 = .ok (.aload_n 0, 1) := by decide +kernel
theorem dn_Meaning_linkTo_83 : decode bn_Meaning_linkTo 83 = .ok (.getfield 38, 3) := by decide +kernel
theorem dn_Meaning_linkTo_86 : decode bn_Meaning_linkTo 86 = .ok (.iload_n 3, 1) := by decide +kernel
theorem dn_Meaning_linkTo_87 : decode bn_Meaning_linkTo 87 = .ok (.aload_n 0, 1) := by decide +kernel
theorem dn_Meaning_linkTo_88 : decode bn_Meaning_linkTo 88 = .ok (.getfield 161, 3) := by decide +kernel
theorem dn_Meaning_linkTo_91 : decode bn_Meaning_linkTo 91 = .ok (.iload 5, 2) := by decide +kernel
theorem dn_Meaning_linkTo_93 : decode bn_Meaning_linkTo 93 = .ok (.isub, 1) := by decide +kernel
theorem dn_Meaning_linkTo_94 : decode bn_Meaning_linkTo 94 = .ok (.invokevirtual 164, 3) := by decide +kernel
theorem dn_Meaning_linkTo_97 : decode bn_Meaning_linkTo 97 = .ok (.ifCond .eq 16, 3) := by decide +kernel
theorem dn_Meaning_linkTo_100 : decode bn_Meaning_linkTo 100 = .ok (.aload_n 0, 1) := by decide +kernel
theorem dn_Meaning_linkTo_101 : decode bn_Meaning_linkTo 101 = .ok (.getfield 24, 3) := by decide +kernel
theorem dn_Meaning_linkTo_104 : decode bn_Meaning_linkTo 104 = .ok (.bipush 23, 2) := by decide +kernel
theorem dn_Meaning_linkTo_106 : decode bn_Meaning_linkTo 106 = .ok (.iload_n 2, 1) := by decide +kernel
theorem dn_Meaning_linkTo_107 : decode bn_Meaning_linkTo 107 = .ok (.invokevirtual 64, 3) := by decide +kernel
theorem dn_Meaning_linkTo_110 : decode bn_Meaning_linkTo 110 = .ok (.goto 17, 3) := by decide +kernel
theorem dn_Meaning_linkTo_113 : decode bn_Meaning_linkTo 113 = .ok (.aload_n 0, 1) := by decide +kernel
theorem dn_Meaning_linkTo_114 : decode bn_Meaning_linkTo 114 = .ok (.getfield 38, 3) := by decide +kernel
theorem dn_Meaning_linkTo_117 : decode bn_Meaning_linkTo 117 = .ok (.aload_n 0, 1) := by decide +kernel
theorem dn_Meaning_linkTo_118 : decode bn_Meaning_linkTo 118 = .ok (.getfield 161, 3) := by decide +kernel
theorem dn_Meaning_linkTo_121 : decode bn_Meaning_linkTo 121 = .ok (.iload 5, 2) := by decide +kernel
theorem dn_Meaning_linkTo_123 : decode bn_Meaning_linkTo 123 = .ok (.isub, 1) := by decide +kernel
theorem dn_Meaning_linkTo_124 : decode bn_Meaning_linkTo 124 = .ok (.invokevirtual 168, 3) := by decide +kernel
theorem dn_Meaning_linkTo_127 : decode bn_Meaning_linkTo 127 = .ok (.return_, 1) := by decide +kernel
theorem dn_Meaning_linked_0 : decode bn_Meaning_linked 0 = .ok (.aload_n 0, 1) := by decide +kernel
theorem dn_Meaning_linked_1 : decode bn_Meaning_linked 1 = .ok (.getfield 24, 3) := by decide +kernel
theorem dn_Meaning_linked_4 : decode bn_Meaning_linked 4 = .ok (.invokevirtual 54, 3) := by decide +kernel
theorem dn_Meaning_linked_7 : decode bn_Meaning_linked 7 = .ok (.ifCond .eq 4, 3) := by decide +kernel
theorem dn_Meaning_linked_10 : decode bn_Meaning_linked 10 = .ok (.return_, 1) := by decide +kernel
theorem dn_Meaning_linked_11 : decode bn_Meaning_linked 11 = .ok (.aload_n 0, 1) := by decide +kernel
theorem dn_Meaning_linked_12 : decode bn_Meaning_linked 12 = .ok (.getfield 24, 3) := by decide +kernel
theorem dn_Meaning_linked_15 : decode bn_Meaning_linked 15 = .ok (.invokevirtual 119, 3) := by decide +kernel
theorem dn_Meaning_linked_18 : decode bn_Meaning_linked 18 = .ok (.istore 4, 2) := by decide +kernel
theorem dn_Meaning_linked_20 : decode bn_Meaning_linked 20 = .ok (.aload_n 0, 1) := by decide +kernel
theorem dn_Meaning_linked_21 : decode bn_Meaning_linked 21 = .ok (.getfield 38, 3) := by decide +kernel
theorem dn_Meaning_linked_24 : decode bn_Meaning_linked 24 = .ok (.getfield 171, 3) := by decide +kernel
theorem dn_Meaning_linked_27 : decode bn_Meaning_linked 27 = .ok (.iconst 1, 1) := by decide +kernel
theorem dn_Meaning_linked_28 : decode bn_Meaning_linked 28 = .ok (.isub, 1) := by decide +kernel
theorem dn_Meaning_linked_29 : decode bn_Meaning_linked 29 = .ok (.istore 5, 2) := by decide +kernel
theorem dn_Meaning_linked_31 : decode bn_Meaning_linked 31 = .ok (.aload_n 0, 1) := by decide +kernel
theorem dn_Meaning_linked_32 : decode bn_Meaning_linked 32 = .ok (.getfield 24, 3) := by decide +kernel
theorem dn_Meaning_linked_35 : decode bn_Meaning_linked 35 = .ok (.aload_n 0, 1) := by decide +kernel
theorem dn_Meaning_linked_36 : decode bn_Meaning_linked 36 = .ok (.getfield 161, 3) := by decide +kernel
theorem dn_Meaning_linked_39 : decode bn_Meaning_linked 39 = .ok (.invokevirtual 107, 3) := by decide +kernel
theorem dn_Meaning_linked_42 : decode bn_Meaning_linked 42 = .ok (.istore 6, 2) := by decide +kernel
theorem dn_Meaning_linked_44 : decode bn_Meaning_linked 44 = .ok (.iload 5, 2) := by decide +kernel
theorem dn_Meaning_linked_46 : decode bn_Meaning_linked 46 = .ok (.ifCond .lt 9, 3) := by decide +kernel
theorem dn_Meaning_linked_49 : decode bn_Meaning_linked 49 = .ok (.iload 6, 2) := by decide +kernel
theorem dn_Meaning_linked_51 : decode bn_Meaning_linked 51 = .ok (.iconst (-1), 1) := by decide +kernel
theorem dn_Meaning_linked_52 : decode bn_Meaning_linked 52 = .ok (.if_icmp .ne 4, 3) := by decide +kernel
theorem dn_Meaning_linked_55 : decode bn_Meaning_linked 55 = .ok (.return_, 1) := by decide +kernel
theorem dn_Meaning_linked_56 : decode bn_Meaning_linked 56 = .ok (.iload 6, 2) := by decide +kernel
theorem dn_Meaning_linked_58 : decode bn_Meaning_linked 58 = .ok (.ifCond .eq 7, 3) := by decide +kernel
theorem dn_Meaning_linked_61 : decode bn_Meaning_linked 61 = .ok (.iconst 1, 1) := by decide +kernel
theorem dn_Meaning_linked_62 : decode bn_Meaning_linked 62 = .ok (.goto 4, 3) := by decide +kernel
theorem dn_Meaning_linked_65 : decode bn_Meaning_linked 65 = .ok (.iconst 0, 1) := by decide +kernel
theorem dn_Meaning_linked_66 : decode bn_Meaning_linked 66 = .ok (.istore 7, 2) := by decide +kernel
theorem dn_Meaning_linked_68 : decode bn_Meaning_linked 68 = .ok (.aload_n 0, 1) := by decide +kernel
theorem dn_Meaning_linked_69 : decode bn_Meaning_linked 69 = .ok (.getfield 24, 3) := by decide +kernel
theorem dn_Meaning_linked_72 : decode bn_Meaning_linked 72 = .ok (.iload_n 3, 1) := by decide +kernel
theorem dn_Meaning_linked_73 : decode bn_Meaning_linked 73 = .ok (.invokevirtual 78, 3) := by decide +kernel
theorem dn_Meaning_linked_76 : decode bn_Meaning_linked 76 = .ok (.istore 8, 2) := by decide +kernel
theorem dn_Meaning_linked_78 : decode bn_Meaning_linked 78 = .ok (.iload 7, 2) := by decide +kernel
theorem dn_Meaning_linked_80 : decode bn_Meaning_linked 80 = .ok (.ifCond .eq 29, 3) := by decide +kernel
theorem dn_Meaning_linked_83 : decode bn_Meaning_linked 83 = .ok (.aload_n 0, 1) := by decide +kernel
theorem dn_Meaning_linked_84 : decode bn_Meaning_linked 84 = .ok (.getfield 24, 3) := by decide +kernel
theorem dn_Meaning_linked_87 : decode bn_Meaning_linked 87 = .ok (.iload 8, 2) := by decide +kernel
theorem dn_Meaning_linked_89 : decode bn_Meaning_linked 89 = .ok (.invokevirtual 107, 3) := by decide +kernel
theorem dn_Meaning_linked_92 : decode bn_Meaning_linked 92 = .ok (.iconst 1, 1) := by decide +kernel
theorem dn_Meaning_linked_93 : decode bn_Meaning_linked 93 = .ok (.if_icmp .eq 16, 3) := by decide +kernel
theorem dn_Meaning_linked_96 : decode bn_Meaning_linked 96 = .ok (.aload_n 0, 1) := by decide +kernel
theorem dn_Meaning_linked_97 : decode bn_Meaning_linked 97 = .ok (.getfield 24, 3) := by decide +kernel
theorem dn_Meaning_linked_100 : decode bn_Meaning_linked 100 = .ok (.bipush 25, 2) := by decide +kernel
theorem dn_Meaning_linked_102 : decode bn_Meaning_linked 102 = .ok (.iload_n 2, 1) := by decide +kernel
theorem dn_Meaning_linked_103 : decode bn_Meaning_linked 103 = .ok (.invokevirtual 64, 3) := by decide +kernel
theorem dn_Meaning_linked_106 : decode bn_Meaning_linked 106 = .ok (.goto 169, 3) := by decide +kernel
theorem dn_Meaning_linked_109 : decode bn_Meaning_linked 109 = .ok (.iload 4, 2) := by decide +kernel
theorem dn_Meaning_linked_111 : decode bn_Meaning_linked 111 = .ok (.aload_n 0, 1) := by decide +kernel
theorem dn_Meaning_linked_112 : decode bn_Meaning_linked 112 = .ok (.getfield 38, 3) := by decide +kernel
theorem dn_Meaning_linked_115 : decode bn_Meaning_linked 115 = .ok (.getfield 98, 3) := by decide +kernel
theorem dn_Meaning_linked_118 : decode bn_Meaning_linked 118 = .ok (.aload_n 0, 1) := by decide +kernel
theorem dn_Meaning_linked_119 : decode bn_Meaning_linked 119 = .ok (.getfield 161, 3) := by decide +kernel
theorem dn_Meaning_linked_122 : decode bn_Meaning_linked 122 = .ok (.iaload, 1) := by decide +kernel
theorem dn_Meaning_linked_123 : decode bn_Meaning_linked 123 = .ok (.if_icmp .eq 16, 3) := by decide +kernel
theorem dn_Meaning_linked_126 : decode bn_Meaning_linked 126 = .ok (.aload_n 0, 1) := by decide +kernel
theorem dn_Meaning_linked_127 : decode bn_Meaning_linked 127 = .ok (.getfield 24, 3) := by decide +kernel
theorem dn_Meaning_linked_130 : decode bn_Meaning_linked 130 = .ok (.bipush 30, 2) := by decide +kernel
theorem dn_Meaning_linked_132 : decode bn_Meaning_linked 132 = .ok (.iload_n 1, 1) := by decide +kernel
theorem dn_Meaning_linked_133 : decode bn_Meaning_linked 133 = .ok (.invokevirtual 64, 3) := by decide +kernel
theorem dn_Meaning_linked_136 : decode bn_Meaning_linked 136 = .ok (.goto 139, 3) := by decide +kernel
theorem dn_Meaning_linked_139 : decode bn_Meaning_linked 139 = .ok (.iload 7, 2) := by decide +kernel
theorem dn_Meaning_linked_141 : decode bn_Meaning_linked 141 = .ok (.ifCond .ne 40, 3) := by decide +kernel
theorem dn_Meaning_linked_144 : decode bn_Meaning_linked 144 = .ok (.aload_n 0, 1) := by decide +kernel
theorem dn_Meaning_linked_145 : decode bn_Meaning_linked 145 = .ok (.getfield 38, 3) := by decide +kernel
theorem dn_Meaning_linked_148 : decode bn_Meaning_linked 148 = .ok (.getfield 174, 3) := by decide +kernel
theorem dn_Meaning_linked_151 : decode bn_Meaning_linked 151 = .ok (.iload 5, 2) := by decide +kernel
theorem dn_Meaning_linked_153 : decode bn_Meaning_linked 153 = .ok (.aload_n 0, 1) := by decide +kernel
theorem dn_Meaning_linked_154 : decode bn_Meaning_linked 154 = .ok (.getfield 24, 3) := by decide +kernel
theorem dn_Meaning_linked_157 : decode bn_Meaning_linked 157 = .ok (.getfield 129, 3) := by decide +kernel
theorem dn_Meaning_linked_160 : decode bn_Meaning_linked 160 = .ok (.iastore, 1) := by decide +kernel
theorem dn_Meaning_linked_161 : decode bn_Meaning_linked 161 = .ok (.aload_n 0, 1) := by decide +kernel
theorem dn_Meaning_linked_162 : decode bn_Meaning_linked 162 = .ok (.getfield 38, 3) := by decide +kernel
theorem dn_Meaning_linked_165 : decode bn_Meaning_linked 165 = .ok (.getfield 177, 3) := by decide +kernel
theorem dn_Meaning_linked_168 : decode bn_Meaning_linked 168 = .ok (.iload 5, 2) := by decide +kernel
theorem dn_Meaning_linked_170 : decode bn_Meaning_linked 170 = .ok (.aload_n 0, 1) := by decide +kernel
theorem dn_Meaning_linked_171 : decode bn_Meaning_linked 171 = .ok (.getfield 43, 3) := by decide +kernel
theorem dn_Meaning_linked_174 : decode bn_Meaning_linked 174 = .ok (.getfield 113, 3) := by decide +kernel
theorem dn_Meaning_linked_177 : decode bn_Meaning_linked 177 = .ok (.iastore, 1) := by decide +kernel
theorem dn_Meaning_linked_178 : decode bn_Meaning_linked 178 = .ok (.goto 97, 3) := by decide +kernel
theorem dn_Meaning_linked_181 : decode bn_Meaning_linked 181 = .ok (.aload_n 0, 1) := by decide +kernel
theorem dn_Meaning_linked_182 : decode bn_Meaning_linked 182 = .ok (.getfield 38, 3) := by decide +kernel
theorem dn_Meaning_linked_185 : decode bn_Meaning_linked 185 = .ok (.getfield 110, 3) := by decide +kernel
theorem dn_Meaning_linked_188 : decode bn_Meaning_linked 188 = .ok (.iload 8, 2) := by decide +kernel
theorem dn_Meaning_linked_190 : decode bn_Meaning_linked 190 = .ok (.iaload, 1) := by decide +kernel
theorem dn_Meaning_linked_191 : decode bn_Meaning_linked 191 = .ok (.iconst (-1), 1) := by decide +kernel
theorem dn_Meaning_linked_192 : decode bn_Meaning_linked 192 = .ok (.if_icmp .eq 16, 3) := by decide +kernel
theorem dn_Meaning_linked_195 : decode bn_Meaning_linked 195 = .ok (.aload_n 0, 1) := by decide +kernel
theorem dn_Meaning_linked_196 : decode bn_Meaning_linked 196 = .ok (.getfield 24, 3) := by decide +kernel
theorem dn_Meaning_linked_199 : decode bn_Meaning_linked 199 = .ok (.bipush 31, 2) := by decide +kernel
theorem dn_Meaning_linked_201 : decode bn_Meaning_linked 201 = .ok (.iload_n 2, 1) := by decide +kernel
theorem dn_Meaning_linked_202 : decode bn_Meaning_linked 202 = .ok (.invokevirtual 64, 3) := by decide +kernel
theorem dn_Meaning_linked_205 : decode bn_Meaning_linked 205 = .ok (.goto 70, 3) := by decide +kernel
theorem dn_Meaning_linked_208 : decode bn_Meaning_linked 208 = .ok (.aload_n 0, 1) := by decide +kernel
theorem dn_Meaning_linked_209 : decode bn_Meaning_linked 209 = .ok (.getfield 43, 3) := by decide +kernel
theorem dn_Meaning_linked_212 : decode bn_Meaning_linked 212 = .ok (.aload_n 0, 1) := by decide +kernel
theorem dn_Meaning_linked_213 : decode bn_Meaning_linked 213 = .ok (.getfield 24, 3) := by decide +kernel
theorem dn_Meaning_linked_216 : decode bn_Meaning_linked 216 = .ok (.getfield 129, 3) := by decide +kernel
theorem dn_Meaning_linked_219 : decode bn_Meaning_linked 219 = .ok (.putfield 113, 3) := by decide +kernel
theorem dn_Meaning_linked_222 : decode bn_Meaning_linked 222 = .ok (.aload_n 0, 1) := by decide +kernel
theorem dn_Meaning_linked_223 : decode bn_Meaning_linked 223 = .ok (.getfield 38, 3) := by decide +kernel
theorem dn_Meaning_linked_226 : decode bn_Meaning_linked 226 = .ok (.getfield 110, 3) := by decide +kernel
theorem dn_Meaning_linked_229 : decode bn_Meaning_linked 229 = .ok (.iload 8, 2) := by decide +kernel
theorem dn_Meaning_linked_231 : decode bn_Meaning_linked 231 = .ok (.aload_n 0, 1) := by decide +kernel
theorem dn_Meaning_linked_232 : decode bn_Meaning_linked 232 = .ok (.getfield 43, 3) := by decide +kernel
theorem dn_Meaning_linked_235 : decode bn_Meaning_linked 235 = .ok (.getfield 113, 3) := by decide +kernel
theorem dn_Meaning_linked_238 : decode bn_Meaning_linked 238 = .ok (.iastore, 1) := by decide +kernel
theorem dn_Meaning_linked_239 : decode bn_Meaning_linked 239 = .ok (.aload_n 0, 1) := by decide +kernel
theorem dn_Meaning_linked_240 : decode bn_Meaning_linked 240 = .ok (.getfield 38, 3) := by decide +kernel
theorem dn_Meaning_linked_243 : decode bn_Meaning_linked 243 = .ok (.getfield 123, 3) := by decide +kernel
theorem dn_Meaning_linked_246 : decode bn_Meaning_linked 246 = .ok (.iload 8, 2) := by decide +kernel
theorem dn_Meaning_linked_248 : decode bn_Meaning_linked 248 = .ok (.aload_n 0, 1) := by decide +kernel
theorem dn_Meaning_linked_249 : decode bn_Meaning_linked 249 = .ok (.getfield 43, 3) := by decide +kernel
theorem dn_Meaning_linked_252 : decode bn_Meaning_linked 252 = .ok (.getfield 113, 3) := by decide +kernel
theorem dn_Meaning_linked_255 : decode bn_Meaning_linked 255 = .ok (.iastore, 1) := by decide +kernel
theorem dn_Meaning_linked_256 : decode bn_Meaning_linked 256 = .ok (.aload_n 0, 1) := by decide +kernel
theorem dn_Meaning_linked_257 : decode bn_Meaning_linked 257 = .ok (.getfield 38, 3) := by decide +kernel
theorem dn_Meaning_linked_260 : decode bn_Meaning_linked 260 = .ok (.getfield 174, 3) := by decide +kernel
theorem dn_Meaning_linked_263 : decode bn_Meaning_linked 263 = .ok (.iload 5, 2) := by decide +kernel
theorem dn_Meaning_linked_265 : decode bn_Meaning_linked 265 = .ok (.aload_n 0, 1) := by decide +kernel
theorem dn_Meaning_linked_266 : decode bn_Meaning_linked 266 = .ok (.getfield 24, 3) := by decide +kernel
theorem dn_Meaning_linked_269 : decode bn_Meaning_linked 269 = .ok (.iload 8, 2) := by decide +kernel
theorem dn_Meaning_linked_271 : decode bn_Meaning_linked 271 = .ok (.invokevirtual 180, 3) := by decide +kernel
theorem dn_Meaning_linked_274 : decode bn_Meaning_linked 274 = .ok (.iastore, 1) := by decide +kernel
theorem dn_Meaning_linked_275 : decode bn_Meaning_linked 275 = .ok (.return_, 1) := by decide +kernel
theorem dn_Meaning_module_0 : decode bn_Meaning_module 0 = .ok (.aload_n 0, 1) := by decide +kernel
theorem dn_Meaning_module_1 : decode bn_Meaning_module 1 = .ok (.getfield 24, 3) := by decide +kernel
theorem dn_Meaning_module_4 : decode bn_Meaning_module 4 = .ok (.invokevirtual 54, 3) := by decide +kernel
theorem dn_Meaning_module_7 : decode bn_Meaning_module 7 = .ok (.ifCond .eq 4, 3) := by decide +kernel
theorem dn_Meaning_module_10 : decode bn_Meaning_module 10 = .ok (.return_, 1) := by decide +kernel
theorem dn_Meaning_module_11 : decode bn_Meaning_module 11 = .ok (.aload_n 0, 1) := by decide +kernel
theorem dn_Meaning_module_12 : decode bn_Meaning_module 12 = .ok (.getfield 24, 3) := by decide +kernel
theorem dn_Meaning_module_15 : decode bn_Meaning_module 15 = .ok (.iload_n 1, 1) := by decide +kernel
theorem dn_Meaning_module_16 : decode bn_Meaning_module 16 = .ok (.invokevirtual 60, 3) := by decide +kernel
theorem dn_Meaning_module_19 : decode bn_Meaning_module 19 = .ok (.iconst (-1), 1) := by decide +kernel
theorem dn_Meaning_module_20 : decode bn_Meaning_module 20 = .ok (.if_icmp .eq 14, 3) := by decide +kernel
theorem dn_Meaning_module_23 : decode bn_Meaning_module 23 = .ok (.aload_n 0, 1) := by decide +kernel
theorem dn_Meaning_module_24 : decode bn_Meaning_module 24 = .ok (.getfield 24, 3) := by decide +kernel
theorem dn_Meaning_module_27 : decode bn_Meaning_module 27 = .ok (.bipush 20, 2) := by decide +kernel
theorem dn_Meaning_module_29 : decode bn_Meaning_module 29 = .ok (.iload_n 2, 1) := by decide +kernel
theorem dn_Meaning_module_30 : decode bn_Meaning_module 30 = .ok (.invokevirtual 64, 3) := by decide +kernel
theorem dn_Meaning_module_33 : decode bn_Meaning_module 33 = .ok (.return_, 1) := by decide +kernel
theorem dn_Meaning_module_34 : decode bn_Meaning_module 34 = .ok (.aload_n 0, 1) := by decide +kernel
theorem dn_Meaning_module_35 : decode bn_Meaning_module 35 = .ok (.getfield 24, 3) := by decide +kernel
theorem dn_Meaning_module_38 : decode bn_Meaning_module 38 = .ok (.iload_n 1, 1) := by decide +kernel
theorem dn_Meaning_module_39 : decode bn_Meaning_module 39 = .ok (.invokevirtual 68, 3) := by decide +kernel
theorem dn_Meaning_module_42 : decode bn_Meaning_module 42 = .ok (.aload_n 0, 1) := by decide +kernel
theorem dn_Meaning_module_43 : decode bn_Meaning_module 43 = .ok (.getfield 28, 3) := by decide +kernel
theorem dn_Meaning_module_46 : decode bn_Meaning_module 46 = .ok (.iload_n 2, 1) := by decide +kernel
theorem dn_Meaning_module_47 : decode bn_Meaning_module 47 = .ok (.invokevirtual 72, 3) := by decide +kernel
theorem dn_Meaning_module_50 : decode bn_Meaning_module 50 = .ok (.return_, 1) := by decide +kernel
theorem dn_Meaning_moduleEnd_0 : decode bn_Meaning_moduleEnd 0 = .ok (.aload_n 0, 1) := by decide +kernel
theorem dn_Meaning_moduleEnd_1 : decode bn_Meaning_moduleEnd 1 = .ok (.getfield 24, 3) := by decide +kernel
theorem dn_Meaning_moduleEnd_4 : decode bn_Meaning_moduleEnd 4 = .ok (.invokevirtual 54, 3) := by decide +kernel
theorem dn_Meaning_moduleEnd_7 : decode bn_Meaning_moduleEnd 7 = .ok (.ifCond .eq 4, 3) := by decide +kernel
theorem dn_Meaning_moduleEnd_10 : decode bn_Meaning_moduleEnd 10 = .ok (.return_, 1) := by decide +kernel
theorem dn_Meaning_moduleEnd_11 : decode bn_Meaning_moduleEnd 11 = .ok (.aload_n 0, 1) := by decide +kernel
theorem dn_Meaning_moduleEnd_12 : decode bn_Meaning_moduleEnd 12 = .ok (.getfield 28, 3) := by decide +kernel
theorem dn_Meaning_moduleEnd_15 : decode bn_Meaning_moduleEnd 15 = .ok (.aload_n 0, 1) := by decide +kernel
theorem dn_Meaning_moduleEnd_16 : decode bn_Meaning_moduleEnd 16 = .ok (.getfield 28, 3) := by decide +kernel
theorem dn_Meaning_moduleEnd_19 : decode bn_Meaning_moduleEnd 19 = .ok (.getfield 136, 3) := by decide +kernel
theorem dn_Meaning_moduleEnd_22 : decode bn_Meaning_moduleEnd 22 = .ok (.iconst 1, 1) := by decide +kernel
theorem dn_Meaning_moduleEnd_23 : decode bn_Meaning_moduleEnd 23 = .ok (.isub, 1) := by decide +kernel
theorem dn_Meaning_moduleEnd_24 : decode bn_Meaning_moduleEnd 24 = .ok (.invokevirtual 151, 3) := by decide +kernel
theorem dn_Meaning_moduleEnd_27 : decode bn_Meaning_moduleEnd 27 = .ok (.istore_n 1, 1) := by decide +kernel
theorem dn_Meaning_moduleEnd_28 : decode bn_Meaning_moduleEnd 28 = .ok (.iload_n 1, 1) := by decide +kernel
theorem dn_Meaning_moduleEnd_29 : decode bn_Meaning_moduleEnd 29 = .ok (.aload_n 0, 1) := by decide +kernel
theorem dn_Meaning_moduleEnd_30 : decode bn_Meaning_moduleEnd 30 = .ok (.getfield 38, 3) := by decide +kernel
theorem dn_Meaning_moduleEnd_33 : decode bn_Meaning_moduleEnd 33 = .ok (.getfield 81, 3) := by decide +kernel
theorem dn_Meaning_moduleEnd_36 : decode bn_Meaning_moduleEnd 36 = .ok (.if_icmp .ge 54, 3) := by decide +kernel
theorem dn_Meaning_moduleEnd_39 : decode bn_Meaning_moduleEnd 39 = .ok (.aload_n 0, 1) := by decide +kernel
theorem dn_Meaning_moduleEnd_40 : decode bn_Meaning_moduleEnd 40 = .ok (.getfield 38, 3) := by decide +kernel
theorem dn_Meaning_moduleEnd_43 : decode bn_Meaning_moduleEnd 43 = .ok (.getfield 186, 3) := by decide +kernel
theorem dn_Meaning_moduleEnd_46 : decode bn_Meaning_moduleEnd 46 = .ok (.iload_n 1, 1) := by decide +kernel
theorem dn_Meaning_moduleEnd_47 : decode bn_Meaning_moduleEnd 47 = .ok (.iaload, 1) := by decide +kernel
theorem dn_Meaning_moduleEnd_48 : decode bn_Meaning_moduleEnd 48 = .ok (.iconst 1, 1) := by decide +kernel
theorem dn_Meaning_moduleEnd_49 : decode bn_Meaning_moduleEnd 49 = .ok (.if_icmp .ne 35, 3) := by decide +kernel
theorem dn_Meaning_moduleEnd_52 : decode bn_Meaning_moduleEnd 52 = .ok (.aload_n 0, 1) := by decide +kernel
theorem dn_Meaning_moduleEnd_53 : decode bn_Meaning_moduleEnd 53 = .ok (.getfield 38, 3) := by decide +kernel
theorem dn_Meaning_moduleEnd_56 : decode bn_Meaning_moduleEnd 56 = .ok (.getfield 110, 3) := by decide +kernel
theorem dn_Meaning_moduleEnd_59 : decode bn_Meaning_moduleEnd 59 = .ok (.iload_n 1, 1) := by decide +kernel
theorem dn_Meaning_moduleEnd_60 : decode bn_Meaning_moduleEnd 60 = .ok (.iaload, 1) := by decide +kernel
theorem dn_Meaning_moduleEnd_61 : decode bn_Meaning_moduleEnd 61 = .ok (.iconst (-1), 1) := by decide +kernel
theorem dn_Meaning_moduleEnd_62 : decode bn_Meaning_moduleEnd 62 = .ok (.if_icmp .ne 22, 3) := by decide +kernel
theorem dn_Meaning_moduleEnd_65 : decode bn_Meaning_moduleEnd 65 = .ok (.aload_n 0, 1) := by decide +kernel
theorem dn_Meaning_moduleEnd_66 : decode bn_Meaning_moduleEnd 66 = .ok (.getfield 24, 3) := by decide +kernel
theorem dn_Meaning_moduleEnd_69 : decode bn_Meaning_moduleEnd 69 = .ok (.bipush 33, 2) := by decide +kernel
theorem dn_Meaning_moduleEnd_71 : decode bn_Meaning_moduleEnd 71 = .ok (.aload_n 0, 1) := by decide +kernel
theorem dn_Meaning_moduleEnd_72 : decode bn_Meaning_moduleEnd 72 = .ok (.getfield 38, 3) := by decide +kernel
theorem dn_Meaning_moduleEnd_75 : decode bn_Meaning_moduleEnd 75 = .ok (.getfield 189, 3) := by decide +kernel
theorem dn_Meaning_moduleEnd_78 : decode bn_Meaning_moduleEnd 78 = .ok (.iload_n 1, 1) := by decide +kernel
theorem dn_Meaning_moduleEnd_79 : decode bn_Meaning_moduleEnd 79 = .ok (.iaload, 1) := by decide +kernel
theorem dn_Meaning_moduleEnd_80 : decode bn_Meaning_moduleEnd 80 = .ok (.invokevirtual 64, 3) := by decide +kernel
theorem dn_Meaning_moduleEnd_83 : decode bn_Meaning_moduleEnd 83 = .ok (.return_, 1) := by decide +kernel
theorem dn_Meaning_moduleEnd_84 : decode bn_Meaning_moduleEnd 84 = .ok (.iinc 1 1, 3) := by decide +kernel
theorem dn_Meaning_moduleEnd_87 : decode bn_Meaning_moduleEnd 87 = .ok (.goto (-59), 3) := by decide +kernel
theorem dn_Meaning_moduleEnd_90 : decode bn_Meaning_moduleEnd 90 = .ok (.aload_n 0, 1) := by decide +kernel
theorem dn_Meaning_moduleEnd_91 : decode bn_Meaning_moduleEnd 91 = .ok (.getfield 28, 3) := by decide +kernel
theorem dn_Meaning_moduleEnd_94 : decode bn_Meaning_moduleEnd 94 = .ok (.aload_n 0, 1) := by decide +kernel
theorem dn_Meaning_moduleEnd_95 : decode bn_Meaning_moduleEnd 95 = .ok (.getfield 24, 3) := by decide +kernel
theorem dn_Meaning_moduleEnd_98 : decode bn_Meaning_moduleEnd 98 = .ok (.getfield 192, 3) := by decide +kernel
theorem dn_Meaning_moduleEnd_101 : decode bn_Meaning_moduleEnd 101 = .ok (.invokevirtual 195, 3) := by decide +kernel
theorem dn_Meaning_moduleEnd_104 : decode bn_Meaning_moduleEnd 104 = .ok (.return_, 1) := by decide +kernel
theorem dn_Meaning_otherwise_0 : decode bn_Meaning_otherwise 0 = .ok (.aload_n 0, 1) := by decide +kernel
theorem dn_Meaning_otherwise_1 : decode bn_Meaning_otherwise 1 = .ok (.getfield 24, 3) := by decide +kernel
theorem dn_Meaning_otherwise_4 : decode bn_Meaning_otherwise 4 = .ok (.invokevirtual 54, 3) := by decide +kernel
theorem dn_Meaning_otherwise_7 : decode bn_Meaning_otherwise 7 = .ok (.ifCond .ne 10, 3) := by decide +kernel
theorem dn_Meaning_otherwise_10 : decode bn_Meaning_otherwise 10 = .ok (.aload_n 0, 1) := by decide +kernel
theorem dn_Meaning_otherwise_11 : decode bn_Meaning_otherwise 11 = .ok (.getfield 51, 3) := by decide +kernel
theorem dn_Meaning_otherwise_14 : decode bn_Meaning_otherwise 14 = .ok (.ifCond .ne 4, 3) := by decide +kernel
theorem dn_Meaning_otherwise_17 : decode bn_Meaning_otherwise 17 = .ok (.return_, 1) := by decide +kernel
theorem dn_Meaning_otherwise_18 : decode bn_Meaning_otherwise 18 = .ok (.aload_n 0, 1) := by decide +kernel
theorem dn_Meaning_otherwise_19 : decode bn_Meaning_otherwise 19 = .ok (.getfield 43, 3) := by decide +kernel
theorem dn_Meaning_otherwise_22 : decode bn_Meaning_otherwise 22 = .ok (.sipush 517, 3) := by decide +kernel
theorem dn_Meaning_otherwise_25 : decode bn_Meaning_otherwise 25 = .ok (.iconst (-1), 1) := by decide +kernel
theorem dn_Meaning_otherwise_26 : decode bn_Meaning_otherwise 26 = .ok (.invokevirtual 218, 3) := by decide +kernel
theorem dn_Meaning_otherwise_29 : decode bn_Meaning_otherwise 29 = .ok (.istore_n 1, 1) := by decide +kernel
theorem dn_Meaning_otherwise_30 : decode bn_Meaning_otherwise 30 = .ok (.aload_n 0, 1) := by decide +kernel
theorem dn_Meaning_otherwise_31 : decode bn_Meaning_otherwise 31 = .ok (.getfield 43, 3) := by decide +kernel
theorem dn_Meaning_otherwise_34 : decode bn_Meaning_otherwise 34 = .ok (.aload_n 0, 1) := by decide +kernel
theorem dn_Meaning_otherwise_35 : decode bn_Meaning_otherwise 35 = .ok (.getfield 9, 3) := by decide +kernel
theorem dn_Meaning_otherwise_38 : decode bn_Meaning_otherwise 38 = .ok (.aload_n 0, 1) := by decide +kernel
theorem dn_Meaning_otherwise_39 : decode bn_Meaning_otherwise 39 = .ok (.getfield 51, 3) := by decide +kernel
theorem dn_Meaning_otherwise_42 : decode bn_Meaning_otherwise 42 = .ok (.iconst 1, 1) := by decide +kernel
theorem dn_Meaning_otherwise_43 : decode bn_Meaning_otherwise 43 = .ok (.isub, 1) := by decide +kernel
theorem dn_Meaning_otherwise_44 : decode bn_Meaning_otherwise 44 = .ok (.iaload, 1) := by decide +kernel
theorem dn_Meaning_otherwise_45 : decode bn_Meaning_otherwise 45 = .ok (.invokevirtual 221, 3) := by decide +kernel
theorem dn_Meaning_otherwise_48 : decode bn_Meaning_otherwise 48 = .ok (.aload_n 0, 1) := by decide +kernel
theorem dn_Meaning_otherwise_49 : decode bn_Meaning_otherwise 49 = .ok (.getfield 9, 3) := by decide +kernel
theorem dn_Meaning_otherwise_52 : decode bn_Meaning_otherwise 52 = .ok (.aload_n 0, 1) := by decide +kernel
theorem dn_Meaning_otherwise_53 : decode bn_Meaning_otherwise 53 = .ok (.getfield 51, 3) := by decide +kernel
theorem dn_Meaning_otherwise_56 : decode bn_Meaning_otherwise 56 = .ok (.iconst 1, 1) := by decide +kernel
theorem dn_Meaning_otherwise_57 : decode bn_Meaning_otherwise 57 = .ok (.isub, 1) := by decide +kernel
theorem dn_Meaning_otherwise_58 : decode bn_Meaning_otherwise 58 = .ok (.iload_n 1, 1) := by decide +kernel
theorem dn_Meaning_otherwise_59 : decode bn_Meaning_otherwise 59 = .ok (.iastore, 1) := by decide +kernel
theorem dn_Meaning_otherwise_60 : decode bn_Meaning_otherwise 60 = .ok (.return_, 1) := by decide +kernel
theorem dn_Meaning_portsEnd_0 : decode bn_Meaning_portsEnd 0 = .ok (.aload_n 0, 1) := by decide +kernel
theorem dn_Meaning_portsEnd_1 : decode bn_Meaning_portsEnd 1 = .ok (.getfield 24, 3) := by decide +kernel
theorem dn_Meaning_portsEnd_4 : decode bn_Meaning_portsEnd 4 = .ok (.invokevirtual 54, 3) := by decide +kernel
theorem dn_Meaning_portsEnd_7 : decode bn_Meaning_portsEnd 7 = .ok (.ifCond .eq 4, 3) := by decide +kernel
theorem dn_Meaning_portsEnd_10 : decode bn_Meaning_portsEnd 10 = .ok (.return_, 1) := by decide +kernel
theorem dn_Meaning_portsEnd_11 : decode bn_Meaning_portsEnd 11 = .ok (.aload_n 0, 1) := by decide +kernel
theorem dn_Meaning_portsEnd_12 : decode bn_Meaning_portsEnd 12 = .ok (.getfield 28, 3) := by decide +kernel
theorem dn_Meaning_portsEnd_15 : decode bn_Meaning_portsEnd 15 = .ok (.invokevirtual 75, 3) := by decide +kernel
theorem dn_Meaning_portsEnd_18 : decode bn_Meaning_portsEnd 18 = .ok (.return_, 1) := by decide +kernel
theorem dn_Meaning_range_0 : decode bn_Meaning_range 0 = .ok (.aload_n 0, 1) := by decide +kernel
theorem dn_Meaning_range_1 : decode bn_Meaning_range 1 = .ok (.getfield 24, 3) := by decide +kernel
theorem dn_Meaning_range_4 : decode bn_Meaning_range 4 = .ok (.invokevirtual 54, 3) := by decide +kernel
theorem dn_Meaning_range_7 : decode bn_Meaning_range 7 = .ok (.ifCond .eq 4, 3) := by decide +kernel
theorem dn_Meaning_range_10 : decode bn_Meaning_range 10 = .ok (.return_, 1) := by decide +kernel
theorem dn_Meaning_range_11 : decode bn_Meaning_range 11 = .ok (.iload_n 3, 1) := by decide +kernel
theorem dn_Meaning_range_12 : decode bn_Meaning_range 12 = .ok (.ifCond .ne 13, 3) := by decide +kernel
theorem dn_Meaning_range_15 : decode bn_Meaning_range 15 = .ok (.iload_n 2, 1) := by decide +kernel
theorem dn_Meaning_range_16 : decode bn_Meaning_range 16 = .ok (.ifCond .lt 9, 3) := by decide +kernel
theorem dn_Meaning_range_19 : decode bn_Meaning_range 19 = .ok (.iload_n 2, 1) := by decide +kernel
theorem dn_Meaning_range_20 : decode bn_Meaning_range 20 = .ok (.bipush 64, 2) := by decide +kernel
theorem dn_Meaning_range_22 : decode bn_Meaning_range 22 = .ok (.if_icmp .lt 13, 3) := by decide +kernel
theorem dn_Meaning_range_25 : decode bn_Meaning_range 25 = .ok (.aload_n 0, 1) := by decide +kernel
theorem dn_Meaning_range_26 : decode bn_Meaning_range 26 = .ok (.getfield 24, 3) := by decide +kernel
theorem dn_Meaning_range_29 : decode bn_Meaning_range 29 = .ok (.bipush 30, 2) := by decide +kernel
theorem dn_Meaning_range_31 : decode bn_Meaning_range 31 = .ok (.iload_n 1, 1) := by decide +kernel
theorem dn_Meaning_range_32 : decode bn_Meaning_range 32 = .ok (.invokevirtual 64, 3) := by decide +kernel
theorem dn_Meaning_range_35 : decode bn_Meaning_range 35 = .ok (.aload_n 0, 1) := by decide +kernel
theorem dn_Meaning_range_36 : decode bn_Meaning_range 36 = .ok (.iload_n 2, 1) := by decide +kernel
theorem dn_Meaning_range_37 : decode bn_Meaning_range 37 = .ok (.iconst 1, 1) := by decide +kernel
theorem dn_Meaning_range_38 : decode bn_Meaning_range 38 = .ok (.iadd, 1) := by decide +kernel
theorem dn_Meaning_range_39 : decode bn_Meaning_range 39 = .ok (.putfield 44, 3) := by decide +kernel
theorem dn_Meaning_range_42 : decode bn_Meaning_range 42 = .ok (.return_, 1) := by decide +kernel
theorem dn_Meaning_start_0 : decode bn_Meaning_start 0 = .ok (.aload_n 0, 1) := by decide +kernel
theorem dn_Meaning_start_1 : decode bn_Meaning_start 1 = .ok (.aload_n 1, 1) := by decide +kernel
theorem dn_Meaning_start_2 : decode bn_Meaning_start 2 = .ok (.putfield 28, 3) := by decide +kernel
theorem dn_Meaning_start_5 : decode bn_Meaning_start 5 = .ok (.aload_n 0, 1) := by decide +kernel
theorem dn_Meaning_start_6 : decode bn_Meaning_start 6 = .ok (.aload_n 1, 1) := by decide +kernel
theorem dn_Meaning_start_7 : decode bn_Meaning_start 7 = .ok (.getfield 32, 3) := by decide +kernel
theorem dn_Meaning_start_10 : decode bn_Meaning_start 10 = .ok (.putfield 38, 3) := by decide +kernel
theorem dn_Meaning_start_13 : decode bn_Meaning_start 13 = .ok (.aload_n 0, 1) := by decide +kernel
theorem dn_Meaning_start_14 : decode bn_Meaning_start 14 = .ok (.aload_n 1, 1) := by decide +kernel
theorem dn_Meaning_start_15 : decode bn_Meaning_start 15 = .ok (.getfield 39, 3) := by decide +kernel
theorem dn_Meaning_start_18 : decode bn_Meaning_start 18 = .ok (.putfield 43, 3) := by decide +kernel
theorem dn_Meaning_start_21 : decode bn_Meaning_start 21 = .ok (.aload_n 0, 1) := by decide +kernel
theorem dn_Meaning_start_22 : decode bn_Meaning_start 22 = .ok (.iconst 1, 1) := by decide +kernel
theorem dn_Meaning_start_23 : decode bn_Meaning_start 23 = .ok (.putfield 44, 3) := by decide +kernel
theorem dn_Meaning_start_26 : decode bn_Meaning_start 26 = .ok (.aload_n 0, 1) := by decide +kernel
theorem dn_Meaning_start_27 : decode bn_Meaning_start 27 = .ok (.iconst 0, 1) := by decide +kernel
theorem dn_Meaning_start_28 : decode bn_Meaning_start 28 = .ok (.putfield 48, 3) := by decide +kernel
theorem dn_Meaning_start_31 : decode bn_Meaning_start 31 = .ok (.aload_n 0, 1) := by decide +kernel
theorem dn_Meaning_start_32 : decode bn_Meaning_start 32 = .ok (.iconst 0, 1) := by decide +kernel
theorem dn_Meaning_start_33 : decode bn_Meaning_start 33 = .ok (.putfield 51, 3) := by decide +kernel
theorem dn_Meaning_start_36 : decode bn_Meaning_start 36 = .ok (.return_, 1) := by decide +kernel
theorem dn_Meaning_storePart_0 : decode bn_Meaning_storePart 0 = .ok (.aload_n 0, 1) := by decide +kernel
theorem dn_Meaning_storePart_1 : decode bn_Meaning_storePart 1 = .ok (.getfield 24, 3) := by decide +kernel
theorem dn_Meaning_storePart_4 : decode bn_Meaning_storePart 4 = .ok (.invokevirtual 54, 3) := by decide +kernel
theorem dn_Meaning_storePart_7 : decode bn_Meaning_storePart 7 = .ok (.ifCond .eq 4, 3) := by decide +kernel
theorem dn_Meaning_storePart_10 : decode bn_Meaning_storePart 10 = .ok (.return_, 1) := by decide +kernel
theorem dn_Meaning_storePart_11 : decode bn_Meaning_storePart 11 = .ok (.aload_n 0, 1) := by decide +kernel
theorem dn_Meaning_storePart_12 : decode bn_Meaning_storePart 12 = .ok (.iload_n 1, 1) := by decide +kernel
theorem dn_Meaning_storePart_13 : decode bn_Meaning_storePart 13 = .ok (.aload_n 0, 1) := by decide +kernel
theorem dn_Meaning_storePart_14 : decode bn_Meaning_storePart 14 = .ok (.getfield 208, 3) := by decide +kernel
theorem dn_Meaning_storePart_17 : decode bn_Meaning_storePart 17 = .ok (.invokestatic 211, 3) := by decide +kernel
theorem dn_Meaning_storePart_20 : decode bn_Meaning_storePart 20 = .ok (.putfield 208, 3) := by decide +kernel
theorem dn_Meaning_storePart_23 : decode bn_Meaning_storePart 23 = .ok (.aload_n 0, 1) := by decide +kernel
theorem dn_Meaning_storePart_24 : decode bn_Meaning_storePart 24 = .ok (.iload_n 1, 1) := by decide +kernel
theorem dn_Meaning_storePart_25 : decode bn_Meaning_storePart 25 = .ok (.invokestatic 215, 3) := by decide +kernel
theorem dn_Meaning_storePart_28 : decode bn_Meaning_storePart 28 = .ok (.putfield 205, 3) := by decide +kernel
theorem dn_Meaning_storePart_31 : decode bn_Meaning_storePart 31 = .ok (.aload_n 0, 1) := by decide +kernel
theorem dn_Meaning_storePart_32 : decode bn_Meaning_storePart 32 = .ok (.getfield 208, 3) := by decide +kernel
theorem dn_Meaning_storePart_35 : decode bn_Meaning_storePart 35 = .ok (.iconst (-1), 1) := by decide +kernel
theorem dn_Meaning_storePart_36 : decode bn_Meaning_storePart 36 = .ok (.if_icmp .ne 13, 3) := by decide +kernel
theorem dn_Meaning_storePart_39 : decode bn_Meaning_storePart 39 = .ok (.aload_n 0, 1) := by decide +kernel
theorem dn_Meaning_storePart_40 : decode bn_Meaning_storePart 40 = .ok (.getfield 24, 3) := by decide +kernel
theorem dn_Meaning_storePart_43 : decode bn_Meaning_storePart 43 = .ok (.bipush 30, 2) := by decide +kernel
theorem dn_Meaning_storePart_45 : decode bn_Meaning_storePart 45 = .ok (.iload_n 2, 1) := by decide +kernel
theorem dn_Meaning_storePart_46 : decode bn_Meaning_storePart 46 = .ok (.invokevirtual 64, 3) := by decide +kernel
theorem dn_Meaning_storePart_49 : decode bn_Meaning_storePart 49 = .ok (.return_, 1) := by decide +kernel
theorem dn_Meaning_storeTo_0 : decode bn_Meaning_storeTo 0 = .ok (.aload_n 0, 1) := by decide +kernel
theorem dn_Meaning_storeTo_1 : decode bn_Meaning_storeTo 1 = .ok (.getfield 24, 3) := by decide +kernel
theorem dn_Meaning_storeTo_4 : decode bn_Meaning_storeTo 4 = .ok (.invokevirtual 54, 3) := by decide +kernel
theorem dn_Meaning_storeTo_7 : decode bn_Meaning_storeTo 7 = .ok (.ifCond .eq 4, 3) := by decide +kernel
theorem dn_Meaning_storeTo_10 : decode bn_Meaning_storeTo 10 = .ok (.return_, 1) := by decide +kernel
theorem dn_Meaning_storeTo_11 : decode bn_Meaning_storeTo 11 = .ok (.aload_n 0, 1) := by decide +kernel
theorem dn_Meaning_storeTo_12 : decode bn_Meaning_storeTo 12 = .ok (.getfield 24, 3) := by decide +kernel
theorem dn_Meaning_storeTo_15 : decode bn_Meaning_storeTo 15 = .ok (.iload_n 1, 1) := by decide +kernel
theorem dn_Meaning_storeTo_16 : decode bn_Meaning_storeTo 16 = .ok (.invokevirtual 78, 3) := by decide +kernel
theorem dn_Meaning_storeTo_19 : decode bn_Meaning_storeTo 19 = .ok (.istore_n 3, 1) := by decide +kernel
theorem dn_Meaning_storeTo_20 : decode bn_Meaning_storeTo 20 = .ok (.aload_n 0, 1) := by decide +kernel
theorem dn_Meaning_storeTo_21 : decode bn_Meaning_storeTo 21 = .ok (.getfield 24, 3) := by decide +kernel
theorem dn_Meaning_storeTo_24 : decode bn_Meaning_storeTo 24 = .ok (.iload_n 3, 1) := by decide +kernel
theorem dn_Meaning_storeTo_25 : decode bn_Meaning_storeTo 25 = .ok (.invokevirtual 107, 3) := by decide +kernel
theorem dn_Meaning_storeTo_28 : decode bn_Meaning_storeTo 28 = .ok (.iconst 2, 1) := by decide +kernel
theorem dn_Meaning_storeTo_29 : decode bn_Meaning_storeTo 29 = .ok (.if_icmp .eq 16, 3) := by decide +kernel
theorem dn_Meaning_storeTo_32 : decode bn_Meaning_storeTo 32 = .ok (.aload_n 0, 1) := by decide +kernel
theorem dn_Meaning_storeTo_33 : decode bn_Meaning_storeTo 33 = .ok (.getfield 24, 3) := by decide +kernel
theorem dn_Meaning_storeTo_36 : decode bn_Meaning_storeTo 36 = .ok (.bipush 22, 2) := by decide +kernel
theorem dn_Meaning_storeTo_38 : decode bn_Meaning_storeTo 38 = .ok (.iload_n 2, 1) := by decide +kernel
theorem dn_Meaning_storeTo_39 : decode bn_Meaning_storeTo 39 = .ok (.invokevirtual 64, 3) := by decide +kernel
theorem dn_Meaning_storeTo_42 : decode bn_Meaning_storeTo 42 = .ok (.goto 81, 3) := by decide +kernel
theorem dn_Meaning_storeTo_45 : decode bn_Meaning_storeTo 45 = .ok (.aload_n 0, 1) := by decide +kernel
theorem dn_Meaning_storeTo_46 : decode bn_Meaning_storeTo 46 = .ok (.getfield 38, 3) := by decide +kernel
theorem dn_Meaning_storeTo_49 : decode bn_Meaning_storeTo 49 = .ok (.getfield 110, 3) := by decide +kernel
theorem dn_Meaning_storeTo_52 : decode bn_Meaning_storeTo 52 = .ok (.iload_n 3, 1) := by decide +kernel
theorem dn_Meaning_storeTo_53 : decode bn_Meaning_storeTo 53 = .ok (.iaload, 1) := by decide +kernel
theorem dn_Meaning_storeTo_54 : decode bn_Meaning_storeTo 54 = .ok (.iconst (-1), 1) := by decide +kernel
theorem dn_Meaning_storeTo_55 : decode bn_Meaning_storeTo 55 = .ok (.if_icmp .eq 32, 3) := by decide +kernel
theorem dn_Meaning_storeTo_58 : decode bn_Meaning_storeTo 58 = .ok (.aload_n 0, 1) := by decide +kernel
theorem dn_Meaning_storeTo_59 : decode bn_Meaning_storeTo 59 = .ok (.getfield 38, 3) := by decide +kernel
theorem dn_Meaning_storeTo_62 : decode bn_Meaning_storeTo 62 = .ok (.getfield 110, 3) := by decide +kernel
theorem dn_Meaning_storeTo_65 : decode bn_Meaning_storeTo 65 = .ok (.iload_n 3, 1) := by decide +kernel
theorem dn_Meaning_storeTo_66 : decode bn_Meaning_storeTo 66 = .ok (.iaload, 1) := by decide +kernel
theorem dn_Meaning_storeTo_67 : decode bn_Meaning_storeTo 67 = .ok (.aload_n 0, 1) := by decide +kernel
theorem dn_Meaning_storeTo_68 : decode bn_Meaning_storeTo 68 = .ok (.getfield 48, 3) := by decide +kernel
theorem dn_Meaning_storeTo_71 : decode bn_Meaning_storeTo 71 = .ok (.if_icmp .eq 16, 3) := by decide +kernel
theorem dn_Meaning_storeTo_74 : decode bn_Meaning_storeTo 74 = .ok (.aload_n 0, 1) := by decide +kernel
theorem dn_Meaning_storeTo_75 : decode bn_Meaning_storeTo 75 = .ok (.getfield 24, 3) := by decide +kernel
theorem dn_Meaning_storeTo_78 : decode bn_Meaning_storeTo 78 = .ok (.bipush 32, 2) := by decide +kernel
theorem dn_Meaning_storeTo_80 : decode bn_Meaning_storeTo 80 = .ok (.iload_n 2, 1) := by decide +kernel
theorem dn_Meaning_storeTo_81 : decode bn_Meaning_storeTo 81 = .ok (.invokevirtual 64, 3) := by decide +kernel
theorem dn_Meaning_storeTo_84 : decode bn_Meaning_storeTo 84 = .ok (.goto 39, 3) := by decide +kernel
theorem dn_Meaning_storeTo_87 : decode bn_Meaning_storeTo 87 = .ok (.aload_n 0, 1) := by decide +kernel
theorem dn_Meaning_storeTo_88 : decode bn_Meaning_storeTo 88 = .ok (.getfield 38, 3) := by decide +kernel
theorem dn_Meaning_storeTo_91 : decode bn_Meaning_storeTo 91 = .ok (.getfield 110, 3) := by decide +kernel
theorem dn_Meaning_storeTo_94 : decode bn_Meaning_storeTo 94 = .ok (.iload_n 3, 1) := by decide +kernel
theorem dn_Meaning_storeTo_95 : decode bn_Meaning_storeTo 95 = .ok (.aload_n 0, 1) := by decide +kernel
theorem dn_Meaning_storeTo_96 : decode bn_Meaning_storeTo 96 = .ok (.getfield 48, 3) := by decide +kernel
theorem dn_Meaning_storeTo_99 : decode bn_Meaning_storeTo 99 = .ok (.iastore, 1) := by decide +kernel
theorem dn_Meaning_storeTo_100 : decode bn_Meaning_storeTo 100 = .ok (.aload_n 0, 1) := by decide +kernel
theorem dn_Meaning_storeTo_101 : decode bn_Meaning_storeTo 101 = .ok (.iload_n 3, 1) := by decide +kernel
theorem dn_Meaning_storeTo_102 : decode bn_Meaning_storeTo 102 = .ok (.putfield 116, 3) := by decide +kernel
theorem dn_Meaning_storeTo_105 : decode bn_Meaning_storeTo 105 = .ok (.aload_n 0, 1) := by decide +kernel
theorem dn_Meaning_storeTo_106 : decode bn_Meaning_storeTo 106 = .ok (.iconst 0, 1) := by decide +kernel
theorem dn_Meaning_storeTo_107 : decode bn_Meaning_storeTo 107 = .ok (.putfield 205, 3) := by decide +kernel
theorem dn_Meaning_storeTo_110 : decode bn_Meaning_storeTo 110 = .ok (.aload_n 0, 1) := by decide +kernel
theorem dn_Meaning_storeTo_111 : decode bn_Meaning_storeTo 111 = .ok (.aload_n 0, 1) := by decide +kernel
theorem dn_Meaning_storeTo_112 : decode bn_Meaning_storeTo 112 = .ok (.getfield 38, 3) := by decide +kernel
theorem dn_Meaning_storeTo_115 : decode bn_Meaning_storeTo 115 = .ok (.getfield 98, 3) := by decide +kernel
theorem dn_Meaning_storeTo_118 : decode bn_Meaning_storeTo 118 = .ok (.iload_n 3, 1) := by decide +kernel
theorem dn_Meaning_storeTo_119 : decode bn_Meaning_storeTo 119 = .ok (.iaload, 1) := by decide +kernel
theorem dn_Meaning_storeTo_120 : decode bn_Meaning_storeTo 120 = .ok (.putfield 208, 3) := by decide +kernel
theorem dn_Meaning_storeTo_123 : decode bn_Meaning_storeTo 123 = .ok (.return_, 1) := by decide +kernel
theorem dn_Meaning_stored_0 : decode bn_Meaning_stored 0 = .ok (.aload_n 0, 1) := by decide +kernel
theorem dn_Meaning_stored_1 : decode bn_Meaning_stored 1 = .ok (.getfield 24, 3) := by decide +kernel
theorem dn_Meaning_stored_4 : decode bn_Meaning_stored 4 = .ok (.invokevirtual 54, 3) := by decide +kernel
theorem dn_Meaning_stored_7 : decode bn_Meaning_stored 7 = .ok (.ifCond .eq 4, 3) := by decide +kernel
theorem dn_Meaning_stored_10 : decode bn_Meaning_stored 10 = .ok (.return_, 1) := by decide +kernel
theorem dn_Meaning_stored_11 : decode bn_Meaning_stored 11 = .ok (.aload_n 0, 1) := by decide +kernel
theorem dn_Meaning_stored_12 : decode bn_Meaning_stored 12 = .ok (.getfield 24, 3) := by decide +kernel
theorem dn_Meaning_stored_15 : decode bn_Meaning_stored 15 = .ok (.invokevirtual 119, 3) := by decide +kernel
theorem dn_Meaning_stored_18 : decode bn_Meaning_stored 18 = .ok (.aload_n 0, 1) := by decide +kernel
theorem dn_Meaning_stored_19 : decode bn_Meaning_stored 19 = .ok (.getfield 208, 3) := by decide +kernel
theorem dn_Meaning_stored_22 : decode bn_Meaning_stored 22 = .ok (.if_icmp .eq 13, 3) := by decide +kernel
theorem dn_Meaning_stored_25 : decode bn_Meaning_stored 25 = .ok (.aload_n 0, 1) := by decide +kernel
theorem dn_Meaning_stored_26 : decode bn_Meaning_stored 26 = .ok (.getfield 24, 3) := by decide +kernel
theorem dn_Meaning_stored_29 : decode bn_Meaning_stored 29 = .ok (.bipush 30, 2) := by decide +kernel
theorem dn_Meaning_stored_31 : decode bn_Meaning_stored 31 = .ok (.iload_n 1, 1) := by decide +kernel
theorem dn_Meaning_stored_32 : decode bn_Meaning_stored 32 = .ok (.invokevirtual 64, 3) := by decide +kernel
theorem dn_Meaning_stored_35 : decode bn_Meaning_stored 35 = .ok (.aload_n 0, 1) := by decide +kernel
theorem dn_Meaning_stored_36 : decode bn_Meaning_stored 36 = .ok (.getfield 24, 3) := by decide +kernel
theorem dn_Meaning_stored_39 : decode bn_Meaning_stored 39 = .ok (.aload_n 0, 1) := by decide +kernel
theorem dn_Meaning_stored_40 : decode bn_Meaning_stored 40 = .ok (.getfield 208, 3) := by decide +kernel
theorem dn_Meaning_stored_43 : decode bn_Meaning_stored 43 = .ok (.invokevirtual 126, 3) := by decide +kernel
theorem dn_Meaning_stored_46 : decode bn_Meaning_stored 46 = .ok (.aload_n 0, 1) := by decide +kernel
theorem dn_Meaning_stored_47 : decode bn_Meaning_stored 47 = .ok (.getfield 43, 3) := by decide +kernel
theorem dn_Meaning_stored_50 : decode bn_Meaning_stored 50 = .ok (.sipush 515, 3) := by decide +kernel
theorem dn_Meaning_stored_53 : decode bn_Meaning_stored 53 = .ok (.aload_n 0, 1) := by decide +kernel
theorem dn_Meaning_stored_54 : decode bn_Meaning_stored 54 = .ok (.getfield 24, 3) := by decide +kernel
theorem dn_Meaning_stored_57 : decode bn_Meaning_stored 57 = .ok (.aload_n 0, 1) := by decide +kernel
theorem dn_Meaning_stored_58 : decode bn_Meaning_stored 58 = .ok (.getfield 116, 3) := by decide +kernel
theorem dn_Meaning_stored_61 : decode bn_Meaning_stored 61 = .ok (.invokevirtual 180, 3) := by decide +kernel
theorem dn_Meaning_stored_64 : decode bn_Meaning_stored 64 = .ok (.bipush 14, 2) := by decide +kernel
theorem dn_Meaning_stored_66 : decode bn_Meaning_stored 66 = .ok (.ishl, 1) := by decide +kernel
theorem dn_Meaning_stored_67 : decode bn_Meaning_stored 67 = .ok (.aload_n 0, 1) := by decide +kernel
theorem dn_Meaning_stored_68 : decode bn_Meaning_stored 68 = .ok (.getfield 205, 3) := by decide +kernel
theorem dn_Meaning_stored_71 : decode bn_Meaning_stored 71 = .ok (.bipush 7, 2) := by decide +kernel
theorem dn_Meaning_stored_73 : decode bn_Meaning_stored 73 = .ok (.ishl, 1) := by decide +kernel
theorem dn_Meaning_stored_74 : decode bn_Meaning_stored 74 = .ok (.ior, 1) := by decide +kernel
theorem dn_Meaning_stored_75 : decode bn_Meaning_stored 75 = .ok (.aload_n 0, 1) := by decide +kernel
theorem dn_Meaning_stored_76 : decode bn_Meaning_stored 76 = .ok (.getfield 208, 3) := by decide +kernel
theorem dn_Meaning_stored_79 : decode bn_Meaning_stored 79 = .ok (.ior, 1) := by decide +kernel
theorem dn_Meaning_stored_80 : decode bn_Meaning_stored 80 = .ok (.invokevirtual 218, 3) := by decide +kernel
theorem dn_Meaning_stored_83 : decode bn_Meaning_stored 83 = .ok (.pop, 1) := by decide +kernel
theorem dn_Meaning_stored_84 : decode bn_Meaning_stored 84 = .ok (.aload_n 0, 1) := by decide +kernel
theorem dn_Meaning_stored_85 : decode bn_Meaning_stored 85 = .ok (.iconst 1, 1) := by decide +kernel
theorem dn_Meaning_stored_86 : decode bn_Meaning_stored 86 = .ok (.putfield 201, 3) := by decide +kernel
theorem dn_Meaning_stored_89 : decode bn_Meaning_stored 89 = .ok (.return_, 1) := by decide +kernel
theorem dn_Order_append_0 : decode bn_Order_append 0 = .ok (.aload_n 0, 1) := by decide +kernel
theorem dn_Order_append_1 : decode bn_Order_append 1 = .ok (.getfield 27, 3) := by decide +kernel
theorem dn_Order_append_4 : decode bn_Order_append 4 = .ok (.getfield 87, 3) := by decide +kernel
theorem dn_Order_append_7 : decode bn_Order_append 7 = .ok (.iload_n 1, 1) := by decide +kernel
theorem dn_Order_append_8 : decode bn_Order_append 8 = .ok (.iaload, 1) := by decide +kernel
theorem dn_Order_append_9 : decode bn_Order_append 9 = .ok (.iconst (-1), 1) := by decide +kernel
theorem dn_Order_append_10 : decode bn_Order_append 10 = .ok (.if_icmp .ne 24, 3) := by decide +kernel
theorem dn_Order_append_13 : decode bn_Order_append 13 = .ok (.aload_n 0, 1) := by decide +kernel
theorem dn_Order_append_14 : decode bn_Order_append 14 = .ok (.getfield 27, 3) := by decide +kernel
theorem dn_Order_append_17 : decode bn_Order_append 17 = .ok (.getfield 90, 3) := by decide +kernel
theorem dn_Order_append_20 : decode bn_Order_append 20 = .ok (.iload_n 1, 1) := by decide +kernel
theorem dn_Order_append_21 : decode bn_Order_append 21 = .ok (.iaload, 1) := by decide +kernel
theorem dn_Order_append_22 : decode bn_Order_append 22 = .ok (.aload_n 0, 1) := by decide +kernel
theorem dn_Order_append_23 : decode bn_Order_append 23 = .ok (.getfield 27, 3) := by decide +kernel
theorem dn_Order_append_26 : decode bn_Order_append 26 = .ok (.getfield 74, 3) := by decide +kernel
theorem dn_Order_append_29 : decode bn_Order_append 29 = .ok (.iload_n 1, 1) := by decide +kernel
theorem dn_Order_append_30 : decode bn_Order_append 30 = .ok (.iaload, 1) := by decide +kernel
theorem dn_Order_append_31 : decode bn_Order_append 31 = .ok (.if_icmp .le 7, 3) := by decide +kernel
theorem dn_Order_append_34 : decode bn_Order_append 34 = .ok (.iconst 1, 1) := by decide +kernel
theorem dn_Order_append_35 : decode bn_Order_append 35 = .ok (.goto 4, 3) := by decide +kernel
theorem dn_Order_append_38 : decode bn_Order_append 38 = .ok (.iconst 0, 1) := by decide +kernel
theorem dn_Order_append_39 : decode bn_Order_append 39 = .ok (.istore_n 2, 1) := by decide +kernel
theorem dn_Order_append_40 : decode bn_Order_append 40 = .ok (.iload_n 2, 1) := by decide +kernel
theorem dn_Order_append_41 : decode bn_Order_append 41 = .ok (.ifCond .eq 21, 3) := by decide +kernel
theorem dn_Order_append_44 : decode bn_Order_append 44 = .ok (.aload_n 0, 1) := by decide +kernel
theorem dn_Order_append_45 : decode bn_Order_append 45 = .ok (.getfield 27, 3) := by decide +kernel
theorem dn_Order_append_48 : decode bn_Order_append 48 = .ok (.getfield 31, 3) := by decide +kernel
theorem dn_Order_append_51 : decode bn_Order_append 51 = .ok (.aload_n 0, 1) := by decide +kernel
theorem dn_Order_append_52 : decode bn_Order_append 52 = .ok (.getfield 27, 3) := by decide +kernel
theorem dn_Order_append_55 : decode bn_Order_append 55 = .ok (.getfield 113, 3) := by decide +kernel
theorem dn_Order_append_58 : decode bn_Order_append 58 = .ok (.arraylength, 1) := by decide +kernel
theorem dn_Order_append_59 : decode bn_Order_append 59 = .ok (.if_icmp .lt 4, 3) := by decide +kernel
theorem dn_Order_append_62 : decode bn_Order_append 62 = .ok (.return_, 1) := by decide +kernel
theorem dn_Order_append_63 : decode bn_Order_append 63 = .ok (.aload_n 0, 1) := by decide +kernel
theorem dn_Order_append_64 : decode bn_Order_append 64 = .ok (.getfield 27, 3) := by decide +kernel
theorem dn_Order_append_67 : decode bn_Order_append 67 = .ok (.getfield 113, 3) := by decide +kernel
theorem dn_Order_append_70 : decode bn_Order_append 70 = .ok (.aload_n 0, 1) := by decide +kernel
theorem dn_Order_append_71 : decode bn_Order_append 71 = .ok (.getfield 27, 3) := by decide +kernel
theorem dn_Order_append_74 : decode bn_Order_append 74 = .ok (.getfield 31, 3) := by decide +kernel
theorem dn_Order_append_77 : decode bn_Order_append 77 = .ok (.iload_n 1, 1) := by decide +kernel
theorem dn_Order_append_78 : decode bn_Order_append 78 = .ok (.iastore, 1) := by decide +kernel
theorem dn_Order_append_79 : decode bn_Order_append 79 = .ok (.aload_n 0, 1) := by decide +kernel
theorem dn_Order_append_80 : decode bn_Order_append 80 = .ok (.getfield 27, 3) := by decide +kernel
theorem dn_Order_append_83 : decode bn_Order_append 83 = .ok (.dup, 1) := by decide +kernel
theorem dn_Order_append_84 : decode bn_Order_append 84 = .ok (.getfield 31, 3) := by decide +kernel
theorem dn_Order_append_87 : decode bn_Order_append 87 = .ok (.iconst 1, 1) := by decide +kernel
theorem dn_Order_append_88 : decode bn_Order_append 88 = .ok (.iadd, 1) := by decide +kernel
theorem dn_Order_append_89 : decode bn_Order_append 89 = .ok (.putfield 31, 3) := by decide +kernel
theorem dn_Order_append_92 : decode bn_Order_append 92 = .ok (.return_, 1) := by decide +kernel
theorem dn_Order_arrange_0 : decode bn_Order_arrange 0 = .ok (.aload_n 0, 1) := by decide +kernel
theorem dn_Order_arrange_1 : decode bn_Order_arrange 1 = .ok (.aload_n 1, 1) := by decide +kernel
theorem dn_Order_arrange_2 : decode bn_Order_arrange 2 = .ok (.putfield 27, 3) := by decide +kernel
theorem dn_Order_arrange_5 : decode bn_Order_arrange 5 = .ok (.aload_n 0, 1) := by decide +kernel
theorem dn_Order_arrange_6 : decode bn_Order_arrange 6 = .ok (.getfield 27, 3) := by decide +kernel
theorem dn_Order_arrange_9 : decode bn_Order_arrange 9 = .ok (.iconst 0, 1) := by decide +kernel
theorem dn_Order_arrange_10 : decode bn_Order_arrange 10 = .ok (.putfield 31, 3) := by decide +kernel
theorem dn_Order_arrange_13 : decode bn_Order_arrange 13 = .ok (.iconst 0, 1) := by decide +kernel
theorem dn_Order_arrange_14 : decode bn_Order_arrange 14 = .ok (.istore_n 2, 1) := by decide +kernel
theorem dn_Order_arrange_15 : decode bn_Order_arrange 15 = .ok (.iload_n 2, 1) := by decide +kernel
theorem dn_Order_arrange_16 : decode bn_Order_arrange 16 = .ok (.aload_n 0, 1) := by decide +kernel
theorem dn_Order_arrange_17 : decode bn_Order_arrange 17 = .ok (.getfield 27, 3) := by decide +kernel
theorem dn_Order_arrange_20 : decode bn_Order_arrange 20 = .ok (.getfield 37, 3) := by decide +kernel
theorem dn_Order_arrange_23 : decode bn_Order_arrange 23 = .ok (.if_icmp .ge 16, 3) := by decide +kernel
theorem dn_Order_arrange_26 : decode bn_Order_arrange 26 = .ok (.aload_n 0, 1) := by decide +kernel
theorem dn_Order_arrange_27 : decode bn_Order_arrange 27 = .ok (.getfield 9, 3) := by decide +kernel
theorem dn_Order_arrange_30 : decode bn_Order_arrange 30 = .ok (.iload_n 2, 1) := by decide +kernel
theorem dn_Order_arrange_31 : decode bn_Order_arrange 31 = .ok (.iconst 0, 1) := by decide +kernel
theorem dn_Order_arrange_32 : decode bn_Order_arrange 32 = .ok (.iastore, 1) := by decide +kernel
theorem dn_Order_arrange_33 : decode bn_Order_arrange 33 = .ok (.iinc 2 1, 3) := by decide +kernel
theorem dn_Order_arrange_36 : decode bn_Order_arrange 36 = .ok (.goto (-21), 3) := by decide +kernel
theorem dn_Order_arrange_39 : decode bn_Order_arrange 39 = .ok (.aload_n 0, 1) := by decide +kernel
theorem dn_Order_arrange_40 : decode bn_Order_arrange 40 = .ok (.iconst 0, 1) := by decide +kernel
theorem dn_Order_arrange_41 : decode bn_Order_arrange 41 = .ok (.putfield 40, 3) := by decide +kernel
theorem dn_Order_arrange_44 : decode bn_Order_arrange 44 = .ok (.aload_n 0, 1) := by decide +kernel
theorem dn_Order_arrange_45 : decode bn_Order_arrange 45 = .ok (.iconst 0, 1) := by decide +kernel
theorem dn_Order_arrange_46 : decode bn_Order_arrange 46 = .ok (.putfield 43, 3) := by decide +kernel
theorem dn_Order_arrange_49 : decode bn_Order_arrange 49 = .ok (.aload_n 0, 1) := by decide +kernel
theorem dn_Order_arrange_50 : decode bn_Order_arrange 50 = .ok (.iconst 0, 1) := by decide +kernel
theorem dn_Order_arrange_51 : decode bn_Order_arrange 51 = .ok (.putfield 46, 3) := by decide +kernel
theorem dn_Order_arrange_54 : decode bn_Order_arrange 54 = .ok (.aload_n 0, 1) := by decide +kernel
theorem dn_Order_arrange_55 : decode bn_Order_arrange 55 = .ok (.ldc 49, 2) := by decide +kernel
theorem dn_Order_arrange_57 : decode bn_Order_arrange 57 = .ok (.putfield 50, 3) := by decide +kernel
theorem dn_Order_arrange_60 : decode bn_Order_arrange 60 = .ok (.iconst 0, 1) := by decide +kernel
theorem dn_Order_arrange_61 : decode bn_Order_arrange 61 = .ok (.istore_n 2, 1) := by decide +kernel
theorem dn_Order_arrange_62 : decode bn_Order_arrange 62 = .ok (.iload_n 2, 1) := by decide +kernel
theorem dn_Order_arrange_63 : decode bn_Order_arrange 63 = .ok (.aload_n 0, 1) := by decide +kernel
theorem dn_Order_arrange_64 : decode bn_Order_arrange 64 = .ok (.getfield 27, 3) := by decide +kernel
theorem dn_Order_arrange_67 : decode bn_Order_arrange 67 = .ok (.getfield 37, 3) := by decide +kernel
theorem dn_Order_arrange_70 : decode bn_Order_arrange 70 = .ok (.if_icmp .ge 23, 3) := by decide +kernel
theorem dn_Order_arrange_73 : decode bn_Order_arrange 73 = .ok (.aload_n 0, 1) := by decide +kernel
theorem dn_Order_arrange_74 : decode bn_Order_arrange 74 = .ok (.getfield 9, 3) := by decide +kernel
theorem dn_Order_arrange_77 : decode bn_Order_arrange 77 = .ok (.iload_n 2, 1) := by decide +kernel
theorem dn_Order_arrange_78 : decode bn_Order_arrange 78 = .ok (.iaload, 1) := by decide +kernel
theorem dn_Order_arrange_79 : decode bn_Order_arrange 79 = .ok (.ifCond .ne 8, 3) := by decide +kernel
theorem dn_Order_arrange_82 : decode bn_Order_arrange 82 = .ok (.aload_n 0, 1) := by decide +kernel
theorem dn_Order_arrange_83 : decode bn_Order_arrange 83 = .ok (.iload_n 2, 1) := by decide +kernel
theorem dn_Order_arrange_84 : decode bn_Order_arrange 84 = .ok (.invokevirtual 53, 3) := by decide +kernel
theorem dn_Order_arrange_87 : decode bn_Order_arrange 87 = .ok (.iinc 2 1, 3) := by decide +kernel
theorem dn_Order_arrange_90 : decode bn_Order_arrange 90 = .ok (.goto (-28), 3) := by decide +kernel
theorem dn_Order_arrange_93 : decode bn_Order_arrange 93 = .ok (.aload_n 0, 1) := by decide +kernel
theorem dn_Order_arrange_94 : decode bn_Order_arrange 94 = .ok (.getfield 50, 3) := by decide +kernel
theorem dn_Order_arrange_97 : decode bn_Order_arrange 97 = .ok (.ldc 49, 2) := by decide +kernel
theorem dn_Order_arrange_99 : decode bn_Order_arrange 99 = .ok (.if_icmp .ne 7, 3) := by decide +kernel
theorem dn_Order_arrange_102 : decode bn_Order_arrange 102 = .ok (.iconst (-1), 1) := by decide +kernel
theorem dn_Order_arrange_103 : decode bn_Order_arrange 103 = .ok (.goto 7, 3) := by decide +kernel
theorem dn_Order_arrange_106 : decode bn_Order_arrange 106 = .ok (.aload_n 0, 1) := by decide +kernel
theorem dn_Order_arrange_107 : decode bn_Order_arrange 107 = .ok (.getfield 50, 3) := by decide +kernel
theorem dn_Order_arrange_110 : decode bn_Order_arrange 110 = .ok (.ireturn, 1) := by decide +kernel
theorem dn_Order_enter_0 : decode bn_Order_enter 0 = .ok (.aload_n 0, 1) := by decide +kernel
theorem dn_Order_enter_1 : decode bn_Order_enter 1 = .ok (.getfield 40, 3) := by decide +kernel
theorem dn_Order_enter_4 : decode bn_Order_enter 4 = .ok (.aload_n 0, 1) := by decide +kernel
theorem dn_Order_enter_5 : decode bn_Order_enter 5 = .ok (.getfield 21, 3) := by decide +kernel
theorem dn_Order_enter_8 : decode bn_Order_enter 8 = .ok (.arraylength, 1) := by decide +kernel
theorem dn_Order_enter_9 : decode bn_Order_enter 9 = .ok (.if_icmp .ge 15, 3) := by decide +kernel
theorem dn_Order_enter_12 : decode bn_Order_enter 12 = .ok (.aload_n 0, 1) := by decide +kernel
theorem dn_Order_enter_13 : decode bn_Order_enter 13 = .ok (.getfield 43, 3) := by decide +kernel
theorem dn_Order_enter_16 : decode bn_Order_enter 16 = .ok (.aload_n 0, 1) := by decide +kernel
theorem dn_Order_enter_17 : decode bn_Order_enter 17 = .ok (.getfield 24, 3) := by decide +kernel
theorem dn_Order_enter_20 : decode bn_Order_enter 20 = .ok (.arraylength, 1) := by decide +kernel
theorem dn_Order_enter_21 : decode bn_Order_enter 21 = .ok (.if_icmp .lt 4, 3) := by decide +kernel
theorem dn_Order_enter_24 : decode bn_Order_enter 24 = .ok (.return_, 1) := by decide +kernel
theorem dn_Order_enter_25 : decode bn_Order_enter 25 = .ok (.aload_n 0, 1) := by decide +kernel
theorem dn_Order_enter_26 : decode bn_Order_enter 26 = .ok (.dup, 1) := by decide +kernel
theorem dn_Order_enter_27 : decode bn_Order_enter 27 = .ok (.getfield 46, 3) := by decide +kernel
theorem dn_Order_enter_30 : decode bn_Order_enter 30 = .ok (.iconst 1, 1) := by decide +kernel
theorem dn_Order_enter_31 : decode bn_Order_enter 31 = .ok (.iadd, 1) := by decide +kernel
theorem dn_Order_enter_32 : decode bn_Order_enter 32 = .ok (.putfield 46, 3) := by decide +kernel
theorem dn_Order_enter_35 : decode bn_Order_enter 35 = .ok (.aload_n 0, 1) := by decide +kernel
theorem dn_Order_enter_36 : decode bn_Order_enter 36 = .ok (.getfield 9, 3) := by decide +kernel
theorem dn_Order_enter_39 : decode bn_Order_enter 39 = .ok (.iload_n 1, 1) := by decide +kernel
theorem dn_Order_enter_40 : decode bn_Order_enter 40 = .ok (.aload_n 0, 1) := by decide +kernel
theorem dn_Order_enter_41 : decode bn_Order_enter 41 = .ok (.getfield 46, 3) := by decide +kernel
theorem dn_Order_enter_44 : decode bn_Order_enter 44 = .ok (.iastore, 1) := by decide +kernel
theorem dn_Order_enter_45 : decode bn_Order_enter 45 = .ok (.aload_n 0, 1) := by decide +kernel
theorem dn_Order_enter_46 : decode bn_Order_enter 46 = .ok (.getfield 15, 3) := by decide +kernel
theorem dn_Order_enter_49 : decode bn_Order_enter 49 = .ok (.iload_n 1, 1) := by decide +kernel
theorem dn_Order_enter_50 : decode bn_Order_enter 50 = .ok (.aload_n 0, 1) := by decide +kernel
theorem dn_Order_enter_51 : decode bn_Order_enter 51 = .ok (.getfield 46, 3) := by decide +kernel
theorem dn_Order_enter_54 : decode bn_Order_enter 54 = .ok (.iastore, 1) := by decide +kernel
theorem dn_Order_enter_55 : decode bn_Order_enter 55 = .ok (.aload_n 0, 1) := by decide +kernel
theorem dn_Order_enter_56 : decode bn_Order_enter 56 = .ok (.getfield 18, 3) := by decide +kernel
theorem dn_Order_enter_59 : decode bn_Order_enter 59 = .ok (.iload_n 1, 1) := by decide +kernel
theorem dn_Order_enter_60 : decode bn_Order_enter 60 = .ok (.aload_n 0, 1) := by decide +kernel
theorem dn_Order_enter_61 : decode bn_Order_enter 61 = .ok (.getfield 27, 3) := by decide +kernel
theorem dn_Order_enter_64 : decode bn_Order_enter 64 = .ok (.getfield 74, 3) := by decide +kernel
theorem dn_Order_enter_67 : decode bn_Order_enter 67 = .ok (.iload_n 1, 1) := by decide +kernel
theorem dn_Order_enter_68 : decode bn_Order_enter 68 = .ok (.iaload, 1) := by decide +kernel
theorem dn_Order_enter_69 : decode bn_Order_enter 69 = .ok (.iastore, 1) := by decide +kernel
theorem dn_Order_enter_70 : decode bn_Order_enter 70 = .ok (.aload_n 0, 1) := by decide +kernel
theorem dn_Order_enter_71 : decode bn_Order_enter 71 = .ok (.getfield 21, 3) := by decide +kernel
theorem dn_Order_enter_74 : decode bn_Order_enter 74 = .ok (.aload_n 0, 1) := by decide +kernel
theorem dn_Order_enter_75 : decode bn_Order_enter 75 = .ok (.getfield 40, 3) := by decide +kernel
theorem dn_Order_enter_78 : decode bn_Order_enter 78 = .ok (.iload_n 1, 1) := by decide +kernel
theorem dn_Order_enter_79 : decode bn_Order_enter 79 = .ok (.iastore, 1) := by decide +kernel
theorem dn_Order_enter_80 : decode bn_Order_enter 80 = .ok (.aload_n 0, 1) := by decide +kernel
theorem dn_Order_enter_81 : decode bn_Order_enter 81 = .ok (.dup, 1) := by decide +kernel
theorem dn_Order_enter_82 : decode bn_Order_enter 82 = .ok (.getfield 40, 3) := by decide +kernel
theorem dn_Order_enter_85 : decode bn_Order_enter 85 = .ok (.iconst 1, 1) := by decide +kernel
theorem dn_Order_enter_86 : decode bn_Order_enter 86 = .ok (.iadd, 1) := by decide +kernel
theorem dn_Order_enter_87 : decode bn_Order_enter 87 = .ok (.putfield 40, 3) := by decide +kernel
theorem dn_Order_enter_90 : decode bn_Order_enter 90 = .ok (.aload_n 0, 1) := by decide +kernel
theorem dn_Order_enter_91 : decode bn_Order_enter 91 = .ok (.getfield 24, 3) := by decide +kernel
theorem dn_Order_enter_94 : decode bn_Order_enter 94 = .ok (.aload_n 0, 1) := by decide +kernel
theorem dn_Order_enter_95 : decode bn_Order_enter 95 = .ok (.getfield 43, 3) := by decide +kernel
theorem dn_Order_enter_98 : decode bn_Order_enter 98 = .ok (.iload_n 1, 1) := by decide +kernel
theorem dn_Order_enter_99 : decode bn_Order_enter 99 = .ok (.iastore, 1) := by decide +kernel
theorem dn_Order_enter_100 : decode bn_Order_enter 100 = .ok (.aload_n 0, 1) := by decide +kernel
theorem dn_Order_enter_101 : decode bn_Order_enter 101 = .ok (.dup, 1) := by decide +kernel
theorem dn_Order_enter_102 : decode bn_Order_enter 102 = .ok (.getfield 43, 3) := by decide +kernel
theorem dn_Order_enter_105 : decode bn_Order_enter 105 = .ok (.iconst 1, 1) := by decide +kernel
theorem dn_Order_enter_106 : decode bn_Order_enter 106 = .ok (.iadd, 1) := by decide +kernel
theorem dn_Order_enter_107 : decode bn_Order_enter 107 = .ok (.putfield 43, 3) := by decide +kernel
theorem dn_Order_enter_110 : decode bn_Order_enter 110 = .ok (.return_, 1) := by decide +kernel
theorem dn_Order_leave_0 : decode bn_Order_leave 0 = .ok (.aload_n 0, 1) := by decide +kernel
theorem dn_Order_leave_1 : decode bn_Order_leave 1 = .ok (.dup, 1) := by decide +kernel
theorem dn_Order_leave_2 : decode bn_Order_leave 2 = .ok (.getfield 40, 3) := by decide +kernel
theorem dn_Order_leave_5 : decode bn_Order_leave 5 = .ok (.iconst 1, 1) := by decide +kernel
theorem dn_Order_leave_6 : decode bn_Order_leave 6 = .ok (.isub, 1) := by decide +kernel
theorem dn_Order_leave_7 : decode bn_Order_leave 7 = .ok (.putfield 40, 3) := by decide +kernel
theorem dn_Order_leave_10 : decode bn_Order_leave 10 = .ok (.aload_n 0, 1) := by decide +kernel
theorem dn_Order_leave_11 : decode bn_Order_leave 11 = .ok (.getfield 40, 3) := by decide +kernel
theorem dn_Order_leave_14 : decode bn_Order_leave 14 = .ok (.ifCond .le 36, 3) := by decide +kernel
theorem dn_Order_leave_17 : decode bn_Order_leave 17 = .ok (.aload_n 0, 1) := by decide +kernel
theorem dn_Order_leave_18 : decode bn_Order_leave 18 = .ok (.getfield 21, 3) := by decide +kernel
theorem dn_Order_leave_21 : decode bn_Order_leave 21 = .ok (.aload_n 0, 1) := by decide +kernel
theorem dn_Order_leave_22 : decode bn_Order_leave 22 = .ok (.getfield 40, 3) := by decide +kernel
theorem dn_Order_leave_25 : decode bn_Order_leave 25 = .ok (.iconst 1, 1) := by decide +kernel
theorem dn_Order_leave_26 : decode bn_Order_leave 26 = .ok (.isub, 1) := by decide +kernel
theorem dn_Order_leave_27 : decode bn_Order_leave 27 = .ok (.iaload, 1) := by decide +kernel
theorem dn_Order_leave_28 : decode bn_Order_leave 28 = .ok (.istore_n 2, 1) := by decide +kernel
theorem dn_Order_leave_29 : decode bn_Order_leave 29 = .ok (.aload_n 0, 1) := by decide +kernel
theorem dn_Order_leave_30 : decode bn_Order_leave 30 = .ok (.getfield 15, 3) := by decide +kernel
theorem dn_Order_leave_33 : decode bn_Order_leave 33 = .ok (.iload_n 2, 1) := by decide +kernel
theorem dn_Order_leave_34 : decode bn_Order_leave 34 = .ok (.aload_n 0, 1) := by decide +kernel
theorem dn_Order_leave_35 : decode bn_Order_leave 35 = .ok (.getfield 15, 3) := by decide +kernel
theorem dn_Order_leave_38 : decode bn_Order_leave 38 = .ok (.iload_n 2, 1) := by decide +kernel
theorem dn_Order_leave_39 : decode bn_Order_leave 39 = .ok (.iaload, 1) := by decide +kernel
theorem dn_Order_leave_40 : decode bn_Order_leave 40 = .ok (.aload_n 0, 1) := by decide +kernel
theorem dn_Order_leave_41 : decode bn_Order_leave 41 = .ok (.getfield 15, 3) := by decide +kernel
theorem dn_Order_leave_44 : decode bn_Order_leave 44 = .ok (.iload_n 1, 1) := by decide +kernel
theorem dn_Order_leave_45 : decode bn_Order_leave 45 = .ok (.iaload, 1) := by decide +kernel
theorem dn_Order_leave_46 : decode bn_Order_leave 46 = .ok (.invokestatic 68, 3) := by decide +kernel
theorem dn_Order_leave_49 : decode bn_Order_leave 49 = .ok (.iastore, 1) := by decide +kernel
theorem dn_Order_leave_50 : decode bn_Order_leave 50 = .ok (.aload_n 0, 1) := by decide +kernel
theorem dn_Order_leave_51 : decode bn_Order_leave 51 = .ok (.getfield 15, 3) := by decide +kernel
theorem dn_Order_leave_54 : decode bn_Order_leave 54 = .ok (.iload_n 1, 1) := by decide +kernel
theorem dn_Order_leave_55 : decode bn_Order_leave 55 = .ok (.iaload, 1) := by decide +kernel
theorem dn_Order_leave_56 : decode bn_Order_leave 56 = .ok (.aload_n 0, 1) := by decide +kernel
theorem dn_Order_leave_57 : decode bn_Order_leave 57 = .ok (.getfield 9, 3) := by decide +kernel
theorem dn_Order_leave_60 : decode bn_Order_leave 60 = .ok (.iload_n 1, 1) := by decide +kernel
theorem dn_Order_leave_61 : decode bn_Order_leave 61 = .ok (.iaload, 1) := by decide +kernel
theorem dn_Order_leave_62 : decode bn_Order_leave 62 = .ok (.if_icmp .eq 4, 3) := by decide +kernel
theorem dn_Order_leave_65 : decode bn_Order_leave 65 = .ok (.return_, 1) := by decide +kernel
theorem dn_Order_leave_66 : decode bn_Order_leave 66 = .ok (.aload_n 0, 1) := by decide +kernel
theorem dn_Order_leave_67 : decode bn_Order_leave 67 = .ok (.getfield 43, 3) := by decide +kernel
theorem dn_Order_leave_70 : decode bn_Order_leave 70 = .ok (.ifCond .le 22, 3) := by decide +kernel
theorem dn_Order_leave_73 : decode bn_Order_leave 73 = .ok (.aload_n 0, 1) := by decide +kernel
theorem dn_Order_leave_74 : decode bn_Order_leave 74 = .ok (.getfield 24, 3) := by decide +kernel
theorem dn_Order_leave_77 : decode bn_Order_leave 77 = .ok (.aload_n 0, 1) := by decide +kernel
theorem dn_Order_leave_78 : decode bn_Order_leave 78 = .ok (.getfield 43, 3) := by decide +kernel
theorem dn_Order_leave_81 : decode bn_Order_leave 81 = .ok (.iconst 1, 1) := by decide +kernel
theorem dn_Order_leave_82 : decode bn_Order_leave 82 = .ok (.isub, 1) := by decide +kernel
theorem dn_Order_leave_83 : decode bn_Order_leave 83 = .ok (.iaload, 1) := by decide +kernel
theorem dn_Order_leave_84 : decode bn_Order_leave 84 = .ok (.iload_n 1, 1) := by decide +kernel
theorem dn_Order_leave_85 : decode bn_Order_leave 85 = .ok (.if_icmp .eq 7, 3) := by decide +kernel
theorem dn_Order_leave_88 : decode bn_Order_leave 88 = .ok (.iconst 1, 1) := by decide +kernel
theorem dn_Order_leave_89 : decode bn_Order_leave 89 = .ok (.goto 4, 3) := by decide +kernel
theorem dn_Order_leave_92 : decode bn_Order_leave 92 = .ok (.iconst 0, 1) := by decide +kernel
theorem dn_Order_leave_93 : decode bn_Order_leave 93 = .ok (.istore_n 2, 1) := by decide +kernel
theorem dn_Order_leave_94 : decode bn_Order_leave 94 = .ok (.iconst (-1), 1) := by decide +kernel
theorem dn_Order_leave_95 : decode bn_Order_leave 95 = .ok (.istore_n 3, 1) := by decide +kernel
theorem dn_Order_leave_96 : decode bn_Order_leave 96 = .ok (.aload_n 0, 1) := by decide +kernel
theorem dn_Order_leave_97 : decode bn_Order_leave 97 = .ok (.getfield 43, 3) := by decide +kernel
theorem dn_Order_leave_100 : decode bn_Order_leave 100 = .ok (.ifCond .le 60, 3) := by decide +kernel
theorem dn_Order_leave_103 : decode bn_Order_leave 103 = .ok (.iload_n 3, 1) := by decide +kernel
theorem dn_Order_leave_104 : decode bn_Order_leave 104 = .ok (.iload_n 1, 1) := by decide +kernel
theorem dn_Order_leave_105 : decode bn_Order_leave 105 = .ok (.if_icmp .eq 55, 3) := by decide +kernel
theorem dn_Order_leave_108 : decode bn_Order_leave 108 = .ok (.aload_n 0, 1) := by decide +kernel
theorem dn_Order_leave_109 : decode bn_Order_leave 109 = .ok (.dup, 1) := by decide +kernel
theorem dn_Order_leave_110 : decode bn_Order_leave 110 = .ok (.getfield 43, 3) := by decide +kernel
theorem dn_Order_leave_113 : decode bn_Order_leave 113 = .ok (.iconst 1, 1) := by decide +kernel
theorem dn_Order_leave_114 : decode bn_Order_leave 114 = .ok (.isub, 1) := by decide +kernel
theorem dn_Order_leave_115 : decode bn_Order_leave 115 = .ok (.putfield 43, 3) := by decide +kernel
theorem dn_Order_leave_118 : decode bn_Order_leave 118 = .ok (.aload_n 0, 1) := by decide +kernel
theorem dn_Order_leave_119 : decode bn_Order_leave 119 = .ok (.getfield 24, 3) := by decide +kernel
theorem dn_Order_leave_122 : decode bn_Order_leave 122 = .ok (.aload_n 0, 1) := by decide +kernel
theorem dn_Order_leave_123 : decode bn_Order_leave 123 = .ok (.getfield 43, 3) := by decide +kernel
theorem dn_Order_leave_126 : decode bn_Order_leave 126 = .ok (.iaload, 1) := by decide +kernel
theorem dn_Order_leave_127 : decode bn_Order_leave 127 = .ok (.istore_n 3, 1) := by decide +kernel
theorem dn_Order_leave_128 : decode bn_Order_leave 128 = .ok (.aload_n 0, 1) := by decide +kernel
theorem dn_Order_leave_129 : decode bn_Order_leave 129 = .ok (.getfield 9, 3) := by decide +kernel
theorem dn_Order_leave_132 : decode bn_Order_leave 132 = .ok (.iload_n 3, 1) := by decide +kernel
theorem dn_Order_leave_133 : decode bn_Order_leave 133 = .ok (.ldc 49, 2) := by decide +kernel
theorem dn_Order_leave_135 : decode bn_Order_leave 135 = .ok (.iastore, 1) := by decide +kernel
theorem dn_Order_leave_136 : decode bn_Order_leave 136 = .ok (.iload_n 2, 1) := by decide +kernel
theorem dn_Order_leave_137 : decode bn_Order_leave 137 = .ok (.ifCond .eq 15, 3) := by decide +kernel
theorem dn_Order_leave_140 : decode bn_Order_leave 140 = .ok (.aload_n 0, 1) := by decide +kernel
theorem dn_Order_leave_141 : decode bn_Order_leave 141 = .ok (.aload_n 0, 1) := by decide +kernel
theorem dn_Order_leave_142 : decode bn_Order_leave 142 = .ok (.getfield 50, 3) := by decide +kernel
theorem dn_Order_leave_145 : decode bn_Order_leave 145 = .ok (.iload_n 3, 1) := by decide +kernel
theorem dn_Order_leave_146 : decode bn_Order_leave 146 = .ok (.invokestatic 68, 3) := by decide +kernel
theorem dn_Order_leave_149 : decode bn_Order_leave 149 = .ok (.putfield 50, 3) := by decide +kernel
theorem dn_Order_leave_152 : decode bn_Order_leave 152 = .ok (.aload_n 0, 1) := by decide +kernel
theorem dn_Order_leave_153 : decode bn_Order_leave 153 = .ok (.iload_n 3, 1) := by decide +kernel
theorem dn_Order_leave_154 : decode bn_Order_leave 154 = .ok (.invokevirtual 110, 3) := by decide +kernel
theorem dn_Order_leave_157 : decode bn_Order_leave 157 = .ok (.goto (-61), 3) := by decide +kernel
theorem dn_Order_leave_160 : decode bn_Order_leave 160 = .ok (.return_, 1) := by decide +kernel
theorem dn_Order_nextNeeded_0 : decode bn_Order_nextNeeded 0 = .ok (.aload_n 0, 1) := by decide +kernel
theorem dn_Order_nextNeeded_1 : decode bn_Order_nextNeeded 1 = .ok (.getfield 27, 3) := by decide +kernel
theorem dn_Order_nextNeeded_4 : decode bn_Order_nextNeeded 4 = .ok (.getfield 77, 3) := by decide +kernel
theorem dn_Order_nextNeeded_7 : decode bn_Order_nextNeeded 7 = .ok (.getfield 81, 3) := by decide +kernel
theorem dn_Order_nextNeeded_10 : decode bn_Order_nextNeeded 10 = .ok (.astore_n 2, 1) := by decide +kernel
theorem dn_Order_nextNeeded_11 : decode bn_Order_nextNeeded 11 = .ok (.aload_n 0, 1) := by decide +kernel
theorem dn_Order_nextNeeded_12 : decode bn_Order_nextNeeded 12 = .ok (.getfield 27, 3) := by decide +kernel
theorem dn_Order_nextNeeded_15 : decode bn_Order_nextNeeded 15 = .ok (.getfield 87, 3) := by decide +kernel
theorem dn_Order_nextNeeded_18 : decode bn_Order_nextNeeded 18 = .ok (.iload_n 1, 1) := by decide +kernel
theorem dn_Order_nextNeeded_19 : decode bn_Order_nextNeeded 19 = .ok (.iaload, 1) := by decide +kernel
theorem dn_Order_nextNeeded_20 : decode bn_Order_nextNeeded 20 = .ok (.iconst (-1), 1) := by decide +kernel
theorem dn_Order_nextNeeded_21 : decode bn_Order_nextNeeded 21 = .ok (.if_icmp .eq 32, 3) := by decide +kernel
theorem dn_Order_nextNeeded_24 : decode bn_Order_nextNeeded 24 = .ok (.aload_n 0, 1) := by decide +kernel
theorem dn_Order_nextNeeded_25 : decode bn_Order_nextNeeded 25 = .ok (.getfield 18, 3) := by decide +kernel
theorem dn_Order_nextNeeded_28 : decode bn_Order_nextNeeded 28 = .ok (.iload_n 1, 1) := by decide +kernel
theorem dn_Order_nextNeeded_29 : decode bn_Order_nextNeeded 29 = .ok (.iaload, 1) := by decide +kernel
theorem dn_Order_nextNeeded_30 : decode bn_Order_nextNeeded 30 = .ok (.iconst (-1), 1) := by decide +kernel
theorem dn_Order_nextNeeded_31 : decode bn_Order_nextNeeded 31 = .ok (.if_icmp .ne 5, 3) := by decide +kernel
theorem dn_Order_nextNeeded_34 : decode bn_Order_nextNeeded 34 = .ok (.iconst (-1), 1) := by decide +kernel
theorem dn_Order_nextNeeded_35 : decode bn_Order_nextNeeded 35 = .ok (.ireturn, 1) := by decide +kernel
theorem dn_Order_nextNeeded_36 : decode bn_Order_nextNeeded 36 = .ok (.aload_n 0, 1) := by decide +kernel
theorem dn_Order_nextNeeded_37 : decode bn_Order_nextNeeded 37 = .ok (.getfield 18, 3) := by decide +kernel
theorem dn_Order_nextNeeded_40 : decode bn_Order_nextNeeded 40 = .ok (.iload_n 1, 1) := by decide +kernel
theorem dn_Order_nextNeeded_41 : decode bn_Order_nextNeeded 41 = .ok (.iconst (-1), 1) := by decide +kernel
theorem dn_Order_nextNeeded_42 : decode bn_Order_nextNeeded 42 = .ok (.iastore, 1) := by decide +kernel
theorem dn_Order_nextNeeded_43 : decode bn_Order_nextNeeded 43 = .ok (.aload_n 0, 1) := by decide +kernel
theorem dn_Order_nextNeeded_44 : decode bn_Order_nextNeeded 44 = .ok (.getfield 27, 3) := by decide +kernel
theorem dn_Order_nextNeeded_47 : decode bn_Order_nextNeeded 47 = .ok (.getfield 87, 3) := by decide +kernel
theorem dn_Order_nextNeeded_50 : decode bn_Order_nextNeeded 50 = .ok (.iload_n 1, 1) := by decide +kernel
theorem dn_Order_nextNeeded_51 : decode bn_Order_nextNeeded 51 = .ok (.iaload, 1) := by decide +kernel
theorem dn_Order_nextNeeded_52 : decode bn_Order_nextNeeded 52 = .ok (.ireturn, 1) := by decide +kernel
theorem dn_Order_nextNeeded_53 : decode bn_Order_nextNeeded 53 = .ok (.aload_n 0, 1) := by decide +kernel
theorem dn_Order_nextNeeded_54 : decode bn_Order_nextNeeded 54 = .ok (.getfield 27, 3) := by decide +kernel
theorem dn_Order_nextNeeded_57 : decode bn_Order_nextNeeded 57 = .ok (.getfield 90, 3) := by decide +kernel
theorem dn_Order_nextNeeded_60 : decode bn_Order_nextNeeded 60 = .ok (.iload_n 1, 1) := by decide +kernel
theorem dn_Order_nextNeeded_61 : decode bn_Order_nextNeeded 61 = .ok (.iaload, 1) := by decide +kernel
theorem dn_Order_nextNeeded_62 : decode bn_Order_nextNeeded 62 = .ok (.aload_n 2, 1) := by decide +kernel
theorem dn_Order_nextNeeded_63 : decode bn_Order_nextNeeded 63 = .ok (.getfield 93, 3) := by decide +kernel
theorem dn_Order_nextNeeded_66 : decode bn_Order_nextNeeded 66 = .ok (.invokestatic 68, 3) := by decide +kernel
theorem dn_Order_nextNeeded_69 : decode bn_Order_nextNeeded 69 = .ok (.istore_n 3, 1) := by decide +kernel
theorem dn_Order_nextNeeded_70 : decode bn_Order_nextNeeded 70 = .ok (.aload_n 0, 1) := by decide +kernel
theorem dn_Order_nextNeeded_71 : decode bn_Order_nextNeeded 71 = .ok (.getfield 18, 3) := by decide +kernel
theorem dn_Order_nextNeeded_74 : decode bn_Order_nextNeeded 74 = .ok (.iload_n 1, 1) := by decide +kernel
theorem dn_Order_nextNeeded_75 : decode bn_Order_nextNeeded 75 = .ok (.iaload, 1) := by decide +kernel
theorem dn_Order_nextNeeded_76 : decode bn_Order_nextNeeded 76 = .ok (.iconst 0, 1) := by decide +kernel
theorem dn_Order_nextNeeded_77 : decode bn_Order_nextNeeded 77 = .ok (.invokestatic 98, 3) := by decide +kernel
theorem dn_Order_nextNeeded_80 : decode bn_Order_nextNeeded 80 = .ok (.istore 4, 2) := by decide +kernel
theorem dn_Order_nextNeeded_82 : decode bn_Order_nextNeeded 82 = .ok (.iload 4, 2) := by decide +kernel
theorem dn_Order_nextNeeded_84 : decode bn_Order_nextNeeded 84 = .ok (.iload_n 3, 1) := by decide +kernel
theorem dn_Order_nextNeeded_85 : decode bn_Order_nextNeeded 85 = .ok (.if_icmp .ge 72, 3) := by decide +kernel
theorem dn_Order_nextNeeded_88 : decode bn_Order_nextNeeded 88 = .ok (.aload_n 2, 1) := by decide +kernel
theorem dn_Order_nextNeeded_89 : decode bn_Order_nextNeeded 89 = .ok (.iload 4, 2) := by decide +kernel
theorem dn_Order_nextNeeded_91 : decode bn_Order_nextNeeded 91 = .ok (.invokevirtual 101, 3) := by decide +kernel
theorem dn_Order_nextNeeded_94 : decode bn_Order_nextNeeded 94 = .ok (.sipush 514, 3) := by decide +kernel
theorem dn_Order_nextNeeded_97 : decode bn_Order_nextNeeded 97 = .ok (.if_icmp .eq 6, 3) := by decide +kernel
theorem dn_Order_nextNeeded_100 : decode bn_Order_nextNeeded 100 = .ok (.goto 51, 3) := by decide +kernel
theorem dn_Order_nextNeeded_103 : decode bn_Order_nextNeeded 103 = .ok (.aload_n 0, 1) := by decide +kernel
theorem dn_Order_nextNeeded_104 : decode bn_Order_nextNeeded 104 = .ok (.getfield 18, 3) := by decide +kernel
theorem dn_Order_nextNeeded_107 : decode bn_Order_nextNeeded 107 = .ok (.iload_n 1, 1) := by decide +kernel
theorem dn_Order_nextNeeded_108 : decode bn_Order_nextNeeded 108 = .ok (.iload 4, 2) := by decide +kernel
theorem dn_Order_nextNeeded_110 : decode bn_Order_nextNeeded 110 = .ok (.iconst 1, 1) := by decide +kernel
theorem dn_Order_nextNeeded_111 : decode bn_Order_nextNeeded 111 = .ok (.iadd, 1) := by decide +kernel
theorem dn_Order_nextNeeded_112 : decode bn_Order_nextNeeded 112 = .ok (.iastore, 1) := by decide +kernel
theorem dn_Order_nextNeeded_113 : decode bn_Order_nextNeeded 113 = .ok (.aload_n 0, 1) := by decide +kernel
theorem dn_Order_nextNeeded_114 : decode bn_Order_nextNeeded 114 = .ok (.getfield 27, 3) := by decide +kernel
theorem dn_Order_nextNeeded_117 : decode bn_Order_nextNeeded 117 = .ok (.getfield 104, 3) := by decide +kernel
theorem dn_Order_nextNeeded_120 : decode bn_Order_nextNeeded 120 = .ok (.iload_n 1, 1) := by decide +kernel
theorem dn_Order_nextNeeded_121 : decode bn_Order_nextNeeded 121 = .ok (.iaload, 1) := by decide +kernel
theorem dn_Order_nextNeeded_122 : decode bn_Order_nextNeeded 122 = .ok (.aload_n 2, 1) := by decide +kernel
theorem dn_Order_nextNeeded_123 : decode bn_Order_nextNeeded 123 = .ok (.iload 4, 2) := by decide +kernel
theorem dn_Order_nextNeeded_125 : decode bn_Order_nextNeeded 125 = .ok (.invokevirtual 107, 3) := by decide +kernel
theorem dn_Order_nextNeeded_128 : decode bn_Order_nextNeeded 128 = .ok (.iadd, 1) := by decide +kernel
theorem dn_Order_nextNeeded_129 : decode bn_Order_nextNeeded 129 = .ok (.istore 5, 2) := by decide +kernel
theorem dn_Order_nextNeeded_131 : decode bn_Order_nextNeeded 131 = .ok (.iload 5, 2) := by decide +kernel
theorem dn_Order_nextNeeded_133 : decode bn_Order_nextNeeded 133 = .ok (.ifCond .lt 18, 3) := by decide +kernel
theorem dn_Order_nextNeeded_136 : decode bn_Order_nextNeeded 136 = .ok (.iload 5, 2) := by decide +kernel
theorem dn_Order_nextNeeded_138 : decode bn_Order_nextNeeded 138 = .ok (.aload_n 0, 1) := by decide +kernel
theorem dn_Order_nextNeeded_139 : decode bn_Order_nextNeeded 139 = .ok (.getfield 27, 3) := by decide +kernel
theorem dn_Order_nextNeeded_142 : decode bn_Order_nextNeeded 142 = .ok (.getfield 37, 3) := by decide +kernel
theorem dn_Order_nextNeeded_145 : decode bn_Order_nextNeeded 145 = .ok (.if_icmp .ge 6, 3) := by decide +kernel
theorem dn_Order_nextNeeded_148 : decode bn_Order_nextNeeded 148 = .ok (.iload 5, 2) := by decide +kernel
theorem dn_Order_nextNeeded_150 : decode bn_Order_nextNeeded 150 = .ok (.ireturn, 1) := by decide +kernel
theorem dn_Order_nextNeeded_151 : decode bn_Order_nextNeeded 151 = .ok (.iinc 4 1, 3) := by decide +kernel
theorem dn_Order_nextNeeded_154 : decode bn_Order_nextNeeded 154 = .ok (.goto (-72), 3) := by decide +kernel
theorem dn_Order_nextNeeded_157 : decode bn_Order_nextNeeded 157 = .ok (.iconst (-1), 1) := by decide +kernel
theorem dn_Order_nextNeeded_158 : decode bn_Order_nextNeeded 158 = .ok (.ireturn, 1) := by decide +kernel
theorem dn_Order_visit_0 : decode bn_Order_visit 0 = .ok (.aload_n 0, 1) := by decide +kernel
theorem dn_Order_visit_1 : decode bn_Order_visit 1 = .ok (.iload_n 1, 1) := by decide +kernel
theorem dn_Order_visit_2 : decode bn_Order_visit 2 = .ok (.invokevirtual 57, 3) := by decide +kernel
theorem dn_Order_visit_5 : decode bn_Order_visit 5 = .ok (.iconst 0, 1) := by decide +kernel
theorem dn_Order_visit_6 : decode bn_Order_visit 6 = .ok (.istore_n 2, 1) := by decide +kernel
theorem dn_Order_visit_7 : decode bn_Order_visit 7 = .ok (.iload_n 2, 1) := by decide +kernel
theorem dn_Order_visit_8 : decode bn_Order_visit 8 = .ok (.ldc 60, 2) := by decide +kernel
theorem dn_Order_visit_10 : decode bn_Order_visit 10 = .ok (.if_icmp .ge 108, 3) := by decide +kernel
theorem dn_Order_visit_13 : decode bn_Order_visit 13 = .ok (.aload_n 0, 1) := by decide +kernel
theorem dn_Order_visit_14 : decode bn_Order_visit 14 = .ok (.getfield 40, 3) := by decide +kernel
theorem dn_Order_visit_17 : decode bn_Order_visit 17 = .ok (.ifCond .le 101, 3) := by decide +kernel
theorem dn_Order_visit_20 : decode bn_Order_visit 20 = .ok (.aload_n 0, 1) := by decide +kernel
theorem dn_Order_visit_21 : decode bn_Order_visit 21 = .ok (.getfield 21, 3) := by decide +kernel
theorem dn_Order_visit_24 : decode bn_Order_visit 24 = .ok (.aload_n 0, 1) := by decide +kernel
theorem dn_Order_visit_25 : decode bn_Order_visit 25 = .ok (.getfield 40, 3) := by decide +kernel
theorem dn_Order_visit_28 : decode bn_Order_visit 28 = .ok (.iconst 1, 1) := by decide +kernel
theorem dn_Order_visit_29 : decode bn_Order_visit 29 = .ok (.isub, 1) := by decide +kernel
theorem dn_Order_visit_30 : decode bn_Order_visit 30 = .ok (.iaload, 1) := by decide +kernel
theorem dn_Order_visit_31 : decode bn_Order_visit 31 = .ok (.istore_n 3, 1) := by decide +kernel
theorem dn_Order_visit_32 : decode bn_Order_visit 32 = .ok (.aload_n 0, 1) := by decide +kernel
theorem dn_Order_visit_33 : decode bn_Order_visit 33 = .ok (.iload_n 3, 1) := by decide +kernel
theorem dn_Order_visit_34 : decode bn_Order_visit 34 = .ok (.invokevirtual 61, 3) := by decide +kernel
theorem dn_Order_visit_37 : decode bn_Order_visit 37 = .ok (.istore 4, 2) := by decide +kernel
theorem dn_Order_visit_39 : decode bn_Order_visit 39 = .ok (.iload 4, 2) := by decide +kernel
theorem dn_Order_visit_41 : decode bn_Order_visit 41 = .ok (.iconst (-1), 1) := by decide +kernel
theorem dn_Order_visit_42 : decode bn_Order_visit 42 = .ok (.if_icmp .ne 11, 3) := by decide +kernel
theorem dn_Order_visit_45 : decode bn_Order_visit 45 = .ok (.aload_n 0, 1) := by decide +kernel
theorem dn_Order_visit_46 : decode bn_Order_visit 46 = .ok (.iload_n 3, 1) := by decide +kernel
theorem dn_Order_visit_47 : decode bn_Order_visit 47 = .ok (.invokevirtual 65, 3) := by decide +kernel
theorem dn_Order_visit_50 : decode bn_Order_visit 50 = .ok (.goto 62, 3) := by decide +kernel
theorem dn_Order_visit_53 : decode bn_Order_visit 53 = .ok (.aload_n 0, 1) := by decide +kernel
theorem dn_Order_visit_54 : decode bn_Order_visit 54 = .ok (.getfield 9, 3) := by decide +kernel
theorem dn_Order_visit_57 : decode bn_Order_visit 57 = .ok (.iload 4, 2) := by decide +kernel
theorem dn_Order_visit_59 : decode bn_Order_visit 59 = .ok (.iaload, 1) := by decide +kernel
theorem dn_Order_visit_60 : decode bn_Order_visit 60 = .ok (.ifCond .ne 12, 3) := by decide +kernel
theorem dn_Order_visit_63 : decode bn_Order_visit 63 = .ok (.aload_n 0, 1) := by decide +kernel
theorem dn_Order_visit_64 : decode bn_Order_visit 64 = .ok (.iload 4, 2) := by decide +kernel
theorem dn_Order_visit_66 : decode bn_Order_visit 66 = .ok (.invokevirtual 57, 3) := by decide +kernel
theorem dn_Order_visit_69 : decode bn_Order_visit 69 = .ok (.goto 43, 3) := by decide +kernel
theorem dn_Order_visit_72 : decode bn_Order_visit 72 = .ok (.aload_n 0, 1) := by decide +kernel
theorem dn_Order_visit_73 : decode bn_Order_visit 73 = .ok (.getfield 15, 3) := by decide +kernel
theorem dn_Order_visit_76 : decode bn_Order_visit 76 = .ok (.iload_n 3, 1) := by decide +kernel
theorem dn_Order_visit_77 : decode bn_Order_visit 77 = .ok (.aload_n 0, 1) := by decide +kernel
theorem dn_Order_visit_78 : decode bn_Order_visit 78 = .ok (.getfield 15, 3) := by decide +kernel
theorem dn_Order_visit_81 : decode bn_Order_visit 81 = .ok (.iload_n 3, 1) := by decide +kernel
theorem dn_Order_visit_82 : decode bn_Order_visit 82 = .ok (.iaload, 1) := by decide +kernel
theorem dn_Order_visit_83 : decode bn_Order_visit 83 = .ok (.aload_n 0, 1) := by decide +kernel
theorem dn_Order_visit_84 : decode bn_Order_visit 84 = .ok (.getfield 9, 3) := by decide +kernel
theorem dn_Order_visit_87 : decode bn_Order_visit 87 = .ok (.iload 4, 2) := by decide +kernel
theorem dn_Order_visit_89 : decode bn_Order_visit 89 = .ok (.iaload, 1) := by decide +kernel
theorem dn_Order_visit_90 : decode bn_Order_visit 90 = .ok (.invokestatic 68, 3) := by decide +kernel
theorem dn_Order_visit_93 : decode bn_Order_visit 93 = .ok (.iastore, 1) := by decide +kernel
theorem dn_Order_visit_94 : decode bn_Order_visit 94 = .ok (.iload 4, 2) := by decide +kernel
theorem dn_Order_visit_96 : decode bn_Order_visit 96 = .ok (.iload_n 3, 1) := by decide +kernel
theorem dn_Order_visit_97 : decode bn_Order_visit 97 = .ok (.if_icmp .ne 15, 3) := by decide +kernel
theorem dn_Order_visit_100 : decode bn_Order_visit 100 = .ok (.aload_n 0, 1) := by decide +kernel
theorem dn_Order_visit_101 : decode bn_Order_visit 101 = .ok (.aload_n 0, 1) := by decide +kernel
theorem dn_Order_visit_102 : decode bn_Order_visit 102 = .ok (.getfield 50, 3) := by decide +kernel
theorem dn_Order_visit_105 : decode bn_Order_visit 105 = .ok (.iload_n 3, 1) := by decide +kernel
theorem dn_Order_visit_106 : decode bn_Order_visit 106 = .ok (.invokestatic 68, 3) := by decide +kernel
theorem dn_Order_visit_109 : decode bn_Order_visit 109 = .ok (.putfield 50, 3) := by decide +kernel
theorem dn_Order_visit_112 : decode bn_Order_visit 112 = .ok (.iinc 2 1, 3) := by decide +kernel
theorem dn_Order_visit_115 : decode bn_Order_visit 115 = .ok (.goto (-108), 3) := by decide +kernel
theorem dn_Order_visit_118 : decode bn_Order_visit 118 = .ok (.return_, 1) := by decide +kernel
theorem dn_Parts_addChild_0 : decode bn_Parts_addChild 0 = .ok (.aload_n 0, 1) := by decide +kernel
theorem dn_Parts_addChild_1 : decode bn_Parts_addChild 1 = .ok (.getfield 53, 3) := by decide +kernel
theorem dn_Parts_addChild_4 : decode bn_Parts_addChild 4 = .ok (.sipush 10923, 3) := by decide +kernel
theorem dn_Parts_addChild_7 : decode bn_Parts_addChild 7 = .ok (.if_icmp .lt 4, 3) := by decide +kernel
theorem dn_Parts_addChild_10 : decode bn_Parts_addChild 10 = .ok (.return_, 1) := by decide +kernel
theorem dn_Parts_addChild_11 : decode bn_Parts_addChild 11 = .ok (.aload_n 0, 1) := by decide +kernel
theorem dn_Parts_addChild_12 : decode bn_Parts_addChild 12 = .ok (.getfield 31, 3) := by decide +kernel
theorem dn_Parts_addChild_15 : decode bn_Parts_addChild 15 = .ok (.aload_n 0, 1) := by decide +kernel
theorem dn_Parts_addChild_16 : decode bn_Parts_addChild 16 = .ok (.getfield 53, 3) := by decide +kernel
theorem dn_Parts_addChild_19 : decode bn_Parts_addChild 19 = .ok (.iload_n 1, 1) := by decide +kernel
theorem dn_Parts_addChild_20 : decode bn_Parts_addChild 20 = .ok (.iastore, 1) := by decide +kernel
theorem dn_Parts_addChild_21 : decode bn_Parts_addChild 21 = .ok (.aload_n 0, 1) := by decide +kernel
theorem dn_Parts_addChild_22 : decode bn_Parts_addChild 22 = .ok (.getfield 34, 3) := by decide +kernel
theorem dn_Parts_addChild_25 : decode bn_Parts_addChild 25 = .ok (.aload_n 0, 1) := by decide +kernel
theorem dn_Parts_addChild_26 : decode bn_Parts_addChild 26 = .ok (.getfield 53, 3) := by decide +kernel
theorem dn_Parts_addChild_29 : decode bn_Parts_addChild 29 = .ok (.iconst (-1), 1) := by decide +kernel
theorem dn_Parts_addChild_30 : decode bn_Parts_addChild 30 = .ok (.iastore, 1) := by decide +kernel
theorem dn_Parts_addChild_31 : decode bn_Parts_addChild 31 = .ok (.aload_n 0, 1) := by decide +kernel
theorem dn_Parts_addChild_32 : decode bn_Parts_addChild 32 = .ok (.getfield 37, 3) := by decide +kernel
theorem dn_Parts_addChild_35 : decode bn_Parts_addChild 35 = .ok (.aload_n 0, 1) := by decide +kernel
theorem dn_Parts_addChild_36 : decode bn_Parts_addChild 36 = .ok (.getfield 53, 3) := by decide +kernel
theorem dn_Parts_addChild_39 : decode bn_Parts_addChild 39 = .ok (.aload_n 0, 1) := by decide +kernel
theorem dn_Parts_addChild_40 : decode bn_Parts_addChild 40 = .ok (.getfield 56, 3) := by decide +kernel
theorem dn_Parts_addChild_43 : decode bn_Parts_addChild 43 = .ok (.iastore, 1) := by decide +kernel
theorem dn_Parts_addChild_44 : decode bn_Parts_addChild 44 = .ok (.aload_n 0, 1) := by decide +kernel
theorem dn_Parts_addChild_45 : decode bn_Parts_addChild 45 = .ok (.dup, 1) := by decide +kernel
theorem dn_Parts_addChild_46 : decode bn_Parts_addChild 46 = .ok (.getfield 53, 3) := by decide +kernel
theorem dn_Parts_addChild_49 : decode bn_Parts_addChild 49 = .ok (.iconst 1, 1) := by decide +kernel
theorem dn_Parts_addChild_50 : decode bn_Parts_addChild 50 = .ok (.iadd, 1) := by decide +kernel
theorem dn_Parts_addChild_51 : decode bn_Parts_addChild 51 = .ok (.putfield 53, 3) := by decide +kernel
theorem dn_Parts_addChild_54 : decode bn_Parts_addChild 54 = .ok (.return_, 1) := by decide +kernel
theorem dn_Parts_addDecl_0 : decode bn_Parts_addDecl 0 = .ok (.aload_n 0, 1) := by decide +kernel
theorem dn_Parts_addDecl_1 : decode bn_Parts_addDecl 1 = .ok (.getfield 49, 3) := by decide +kernel
theorem dn_Parts_addDecl_4 : decode bn_Parts_addDecl 4 = .ok (.sipush 10923, 3) := by decide +kernel
theorem dn_Parts_addDecl_7 : decode bn_Parts_addDecl 7 = .ok (.if_icmp .lt 4, 3) := by decide +kernel
theorem dn_Parts_addDecl_10 : decode bn_Parts_addDecl 10 = .ok (.return_, 1) := by decide +kernel
theorem dn_Parts_addDecl_11 : decode bn_Parts_addDecl 11 = .ok (.aload_n 0, 1) := by decide +kernel
theorem dn_Parts_addDecl_12 : decode bn_Parts_addDecl 12 = .ok (.getfield 18, 3) := by decide +kernel
theorem dn_Parts_addDecl_15 : decode bn_Parts_addDecl 15 = .ok (.aload_n 0, 1) := by decide +kernel
theorem dn_Parts_addDecl_16 : decode bn_Parts_addDecl 16 = .ok (.getfield 49, 3) := by decide +kernel
theorem dn_Parts_addDecl_19 : decode bn_Parts_addDecl 19 = .ok (.iload_n 1, 1) := by decide +kernel
theorem dn_Parts_addDecl_20 : decode bn_Parts_addDecl 20 = .ok (.iastore, 1) := by decide +kernel
theorem dn_Parts_addDecl_21 : decode bn_Parts_addDecl 21 = .ok (.aload_n 0, 1) := by decide +kernel
theorem dn_Parts_addDecl_22 : decode bn_Parts_addDecl 22 = .ok (.getfield 9, 3) := by decide +kernel
theorem dn_Parts_addDecl_25 : decode bn_Parts_addDecl 25 = .ok (.aload_n 0, 1) := by decide +kernel
theorem dn_Parts_addDecl_26 : decode bn_Parts_addDecl 26 = .ok (.getfield 49, 3) := by decide +kernel
theorem dn_Parts_addDecl_29 : decode bn_Parts_addDecl 29 = .ok (.iload_n 2, 1) := by decide +kernel
theorem dn_Parts_addDecl_30 : decode bn_Parts_addDecl 30 = .ok (.iastore, 1) := by decide +kernel
theorem dn_Parts_addDecl_31 : decode bn_Parts_addDecl 31 = .ok (.aload_n 0, 1) := by decide +kernel
theorem dn_Parts_addDecl_32 : decode bn_Parts_addDecl 32 = .ok (.getfield 15, 3) := by decide +kernel
theorem dn_Parts_addDecl_35 : decode bn_Parts_addDecl 35 = .ok (.aload_n 0, 1) := by decide +kernel
theorem dn_Parts_addDecl_36 : decode bn_Parts_addDecl 36 = .ok (.getfield 49, 3) := by decide +kernel
theorem dn_Parts_addDecl_39 : decode bn_Parts_addDecl 39 = .ok (.iload_n 3, 1) := by decide +kernel
theorem dn_Parts_addDecl_40 : decode bn_Parts_addDecl 40 = .ok (.iastore, 1) := by decide +kernel
theorem dn_Parts_addDecl_41 : decode bn_Parts_addDecl 41 = .ok (.aload_n 0, 1) := by decide +kernel
theorem dn_Parts_addDecl_42 : decode bn_Parts_addDecl 42 = .ok (.getfield 21, 3) := by decide +kernel
theorem dn_Parts_addDecl_45 : decode bn_Parts_addDecl 45 = .ok (.aload_n 0, 1) := by decide +kernel
theorem dn_Parts_addDecl_46 : decode bn_Parts_addDecl 46 = .ok (.getfield 49, 3) := by decide +kernel
theorem dn_Parts_addDecl_49 : decode bn_Parts_addDecl 49 = .ok (.lconst 0, 1) := by decide +kernel
theorem dn_Parts_addDecl_50 : decode bn_Parts_addDecl 50 = .ok (.lastore, 1) := by decide +kernel
theorem dn_Parts_addDecl_51 : decode bn_Parts_addDecl 51 = .ok (.aload_n 0, 1) := by decide +kernel
theorem dn_Parts_addDecl_52 : decode bn_Parts_addDecl 52 = .ok (.getfield 25, 3) := by decide +kernel
theorem dn_Parts_addDecl_55 : decode bn_Parts_addDecl 55 = .ok (.aload_n 0, 1) := by decide +kernel
theorem dn_Parts_addDecl_56 : decode bn_Parts_addDecl 56 = .ok (.getfield 49, 3) := by decide +kernel
theorem dn_Parts_addDecl_59 : decode bn_Parts_addDecl 59 = .ok (.iconst (-1), 1) := by decide +kernel
theorem dn_Parts_addDecl_60 : decode bn_Parts_addDecl 60 = .ok (.iastore, 1) := by decide +kernel
theorem dn_Parts_addDecl_61 : decode bn_Parts_addDecl 61 = .ok (.aload_n 0, 1) := by decide +kernel
theorem dn_Parts_addDecl_62 : decode bn_Parts_addDecl 62 = .ok (.getfield 28, 3) := by decide +kernel
theorem dn_Parts_addDecl_65 : decode bn_Parts_addDecl 65 = .ok (.aload_n 0, 1) := by decide +kernel
theorem dn_Parts_addDecl_66 : decode bn_Parts_addDecl 66 = .ok (.getfield 49, 3) := by decide +kernel
theorem dn_Parts_addDecl_69 : decode bn_Parts_addDecl 69 = .ok (.iconst (-1), 1) := by decide +kernel
theorem dn_Parts_addDecl_70 : decode bn_Parts_addDecl 70 = .ok (.iastore, 1) := by decide +kernel
theorem dn_Parts_addDecl_71 : decode bn_Parts_addDecl 71 = .ok (.aload_n 0, 1) := by decide +kernel
theorem dn_Parts_addDecl_72 : decode bn_Parts_addDecl 72 = .ok (.dup, 1) := by decide +kernel
theorem dn_Parts_addDecl_73 : decode bn_Parts_addDecl 73 = .ok (.getfield 49, 3) := by decide +kernel
theorem dn_Parts_addDecl_76 : decode bn_Parts_addDecl 76 = .ok (.iconst 1, 1) := by decide +kernel
theorem dn_Parts_addDecl_77 : decode bn_Parts_addDecl 77 = .ok (.iadd, 1) := by decide +kernel
theorem dn_Parts_addDecl_78 : decode bn_Parts_addDecl 78 = .ok (.putfield 49, 3) := by decide +kernel
theorem dn_Parts_addDecl_81 : decode bn_Parts_addDecl 81 = .ok (.return_, 1) := by decide +kernel
theorem dn_Parts_addLink_0 : decode bn_Parts_addLink 0 = .ok (.aload_n 0, 1) := by decide +kernel
theorem dn_Parts_addLink_1 : decode bn_Parts_addLink 1 = .ok (.getfield 56, 3) := by decide +kernel
theorem dn_Parts_addLink_4 : decode bn_Parts_addLink 4 = .ok (.sipush 10923, 3) := by decide +kernel
theorem dn_Parts_addLink_7 : decode bn_Parts_addLink 7 = .ok (.if_icmp .lt 4, 3) := by decide +kernel
theorem dn_Parts_addLink_10 : decode bn_Parts_addLink 10 = .ok (.return_, 1) := by decide +kernel
theorem dn_Parts_addLink_11 : decode bn_Parts_addLink 11 = .ok (.aload_n 0, 1) := by decide +kernel
theorem dn_Parts_addLink_12 : decode bn_Parts_addLink 12 = .ok (.getfield 40, 3) := by decide +kernel
theorem dn_Parts_addLink_15 : decode bn_Parts_addLink 15 = .ok (.aload_n 0, 1) := by decide +kernel
theorem dn_Parts_addLink_16 : decode bn_Parts_addLink 16 = .ok (.getfield 56, 3) := by decide +kernel
theorem dn_Parts_addLink_19 : decode bn_Parts_addLink 19 = .ok (.iload_n 1, 1) := by decide +kernel
theorem dn_Parts_addLink_20 : decode bn_Parts_addLink 20 = .ok (.iastore, 1) := by decide +kernel
theorem dn_Parts_addLink_21 : decode bn_Parts_addLink 21 = .ok (.aload_n 0, 1) := by decide +kernel
theorem dn_Parts_addLink_22 : decode bn_Parts_addLink 22 = .ok (.getfield 43, 3) := by decide +kernel
theorem dn_Parts_addLink_25 : decode bn_Parts_addLink 25 = .ok (.aload_n 0, 1) := by decide +kernel
theorem dn_Parts_addLink_26 : decode bn_Parts_addLink 26 = .ok (.getfield 56, 3) := by decide +kernel
theorem dn_Parts_addLink_29 : decode bn_Parts_addLink 29 = .ok (.iconst (-1), 1) := by decide +kernel
theorem dn_Parts_addLink_30 : decode bn_Parts_addLink 30 = .ok (.iastore, 1) := by decide +kernel
theorem dn_Parts_addLink_31 : decode bn_Parts_addLink 31 = .ok (.aload_n 0, 1) := by decide +kernel
theorem dn_Parts_addLink_32 : decode bn_Parts_addLink 32 = .ok (.getfield 46, 3) := by decide +kernel
theorem dn_Parts_addLink_35 : decode bn_Parts_addLink 35 = .ok (.aload_n 0, 1) := by decide +kernel
theorem dn_Parts_addLink_36 : decode bn_Parts_addLink 36 = .ok (.getfield 56, 3) := by decide +kernel
theorem dn_Parts_addLink_39 : decode bn_Parts_addLink 39 = .ok (.iconst (-1), 1) := by decide +kernel
theorem dn_Parts_addLink_40 : decode bn_Parts_addLink 40 = .ok (.iastore, 1) := by decide +kernel
theorem dn_Parts_addLink_41 : decode bn_Parts_addLink 41 = .ok (.aload_n 0, 1) := by decide +kernel
theorem dn_Parts_addLink_42 : decode bn_Parts_addLink 42 = .ok (.dup, 1) := by decide +kernel
theorem dn_Parts_addLink_43 : decode bn_Parts_addLink 43 = .ok (.getfield 56, 3) := by decide +kernel
theorem dn_Parts_addLink_46 : decode bn_Parts_addLink 46 = .ok (.iconst 1, 1) := by decide +kernel
theorem dn_Parts_addLink_47 : decode bn_Parts_addLink 47 = .ok (.iadd, 1) := by decide +kernel
theorem dn_Parts_addLink_48 : decode bn_Parts_addLink 48 = .ok (.putfield 56, 3) := by decide +kernel
theorem dn_Parts_addLink_51 : decode bn_Parts_addLink 51 = .ok (.return_, 1) := by decide +kernel
theorem dn_Parts_clear_0 : decode bn_Parts_clear 0 = .ok (.aload_n 0, 1) := by decide +kernel
theorem dn_Parts_clear_1 : decode bn_Parts_clear 1 = .ok (.iconst 0, 1) := by decide +kernel
theorem dn_Parts_clear_2 : decode bn_Parts_clear 2 = .ok (.putfield 49, 3) := by decide +kernel
theorem dn_Parts_clear_5 : decode bn_Parts_clear 5 = .ok (.aload_n 0, 1) := by decide +kernel
theorem dn_Parts_clear_6 : decode bn_Parts_clear 6 = .ok (.iconst 0, 1) := by decide +kernel
theorem dn_Parts_clear_7 : decode bn_Parts_clear 7 = .ok (.putfield 53, 3) := by decide +kernel
theorem dn_Parts_clear_10 : decode bn_Parts_clear 10 = .ok (.aload_n 0, 1) := by decide +kernel
theorem dn_Parts_clear_11 : decode bn_Parts_clear 11 = .ok (.iconst 0, 1) := by decide +kernel
theorem dn_Parts_clear_12 : decode bn_Parts_clear 12 = .ok (.putfield 56, 3) := by decide +kernel
theorem dn_Parts_clear_15 : decode bn_Parts_clear 15 = .ok (.return_, 1) := by decide +kernel
theorem dn_Parts_isLinked_0 : decode bn_Parts_isLinked 0 = .ok (.aload_n 0, 1) := by decide +kernel
theorem dn_Parts_isLinked_1 : decode bn_Parts_isLinked 1 = .ok (.getfield 37, 3) := by decide +kernel
theorem dn_Parts_isLinked_4 : decode bn_Parts_isLinked 4 = .ok (.iload_n 1, 1) := by decide +kernel
theorem dn_Parts_isLinked_5 : decode bn_Parts_isLinked 5 = .ok (.iaload, 1) := by decide +kernel
theorem dn_Parts_isLinked_6 : decode bn_Parts_isLinked 6 = .ok (.istore_n 3, 1) := by decide +kernel
theorem dn_Parts_isLinked_7 : decode bn_Parts_isLinked 7 = .ok (.iload_n 3, 1) := by decide +kernel
theorem dn_Parts_isLinked_8 : decode bn_Parts_isLinked 8 = .ok (.aload_n 0, 1) := by decide +kernel
theorem dn_Parts_isLinked_9 : decode bn_Parts_isLinked 9 = .ok (.getfield 56, 3) := by decide +kernel
theorem dn_Parts_isLinked_12 : decode bn_Parts_isLinked 12 = .ok (.if_icmp .ge 21, 3) := by decide +kernel
theorem dn_Parts_isLinked_15 : decode bn_Parts_isLinked 15 = .ok (.aload_n 0, 1) := by decide +kernel
theorem dn_Parts_isLinked_16 : decode bn_Parts_isLinked 16 = .ok (.getfield 40, 3) := by decide +kernel
theorem dn_Parts_isLinked_19 : decode bn_Parts_isLinked 19 = .ok (.iload_n 3, 1) := by decide +kernel
theorem dn_Parts_isLinked_20 : decode bn_Parts_isLinked 20 = .ok (.iaload, 1) := by decide +kernel
theorem dn_Parts_isLinked_21 : decode bn_Parts_isLinked 21 = .ok (.iload_n 2, 1) := by decide +kernel
theorem dn_Parts_isLinked_22 : decode bn_Parts_isLinked 22 = .ok (.if_icmp .ne 5, 3) := by decide +kernel
theorem dn_Parts_isLinked_25 : decode bn_Parts_isLinked 25 = .ok (.iconst 1, 1) := by decide +kernel
theorem dn_Parts_isLinked_26 : decode bn_Parts_isLinked 26 = .ok (.ireturn, 1) := by decide +kernel
theorem dn_Parts_isLinked_27 : decode bn_Parts_isLinked 27 = .ok (.iinc 3 1, 3) := by decide +kernel
theorem dn_Parts_isLinked_30 : decode bn_Parts_isLinked 30 = .ok (.goto (-23), 3) := by decide +kernel
theorem dn_Parts_isLinked_33 : decode bn_Parts_isLinked 33 = .ok (.iconst 0, 1) := by decide +kernel
theorem dn_Parts_isLinked_34 : decode bn_Parts_isLinked 34 = .ok (.ireturn, 1) := by decide +kernel
theorem dn_Parts_linksEnd_0 : decode bn_Parts_linksEnd 0 = .ok (.iload_n 1, 1) := by decide +kernel
theorem dn_Parts_linksEnd_1 : decode bn_Parts_linksEnd 1 = .ok (.iconst 1, 1) := by decide +kernel
theorem dn_Parts_linksEnd_2 : decode bn_Parts_linksEnd 2 = .ok (.iadd, 1) := by decide +kernel
theorem dn_Parts_linksEnd_3 : decode bn_Parts_linksEnd 3 = .ok (.aload_n 0, 1) := by decide +kernel
theorem dn_Parts_linksEnd_4 : decode bn_Parts_linksEnd 4 = .ok (.getfield 53, 3) := by decide +kernel
theorem dn_Parts_linksEnd_7 : decode bn_Parts_linksEnd 7 = .ok (.if_icmp .ge 14, 3) := by decide +kernel
theorem dn_Parts_linksEnd_10 : decode bn_Parts_linksEnd 10 = .ok (.aload_n 0, 1) := by decide +kernel
theorem dn_Parts_linksEnd_11 : decode bn_Parts_linksEnd 11 = .ok (.getfield 37, 3) := by decide +kernel
theorem dn_Parts_linksEnd_14 : decode bn_Parts_linksEnd 14 = .ok (.iload_n 1, 1) := by decide +kernel
theorem dn_Parts_linksEnd_15 : decode bn_Parts_linksEnd 15 = .ok (.iconst 1, 1) := by decide +kernel
theorem dn_Parts_linksEnd_16 : decode bn_Parts_linksEnd 16 = .ok (.iadd, 1) := by decide +kernel
theorem dn_Parts_linksEnd_17 : decode bn_Parts_linksEnd 17 = .ok (.iaload, 1) := by decide +kernel
theorem dn_Parts_linksEnd_18 : decode bn_Parts_linksEnd 18 = .ok (.goto 7, 3) := by decide +kernel
theorem dn_Parts_linksEnd_21 : decode bn_Parts_linksEnd 21 = .ok (.aload_n 0, 1) := by decide +kernel
theorem dn_Parts_linksEnd_22 : decode bn_Parts_linksEnd 22 = .ok (.getfield 56, 3) := by decide +kernel
theorem dn_Parts_linksEnd_25 : decode bn_Parts_linksEnd 25 = .ok (.ireturn, 1) := by decide +kernel
theorem dn_Scanner_added_0 : decode bn_Scanner_added 0 = .ok (.aload_n 0, 1) := by decide +kernel
theorem dn_Scanner_added_1 : decode bn_Scanner_added 1 = .ok (.getfield 62, 3) := by decide +kernel
theorem dn_Scanner_added_4 : decode bn_Scanner_added 4 = .ok (.sipush 19830, 3) := by decide +kernel
theorem dn_Scanner_added_7 : decode bn_Scanner_added 7 = .ok (.if_icmp .lt 5, 3) := by decide +kernel
theorem dn_Scanner_added_12 : decode bn_Scanner_added 12 = .ok (.aload_n 0, 1) := by decide +kernel
theorem dn_Scanner_added_13 : decode bn_Scanner_added 13 = .ok (.getfield 22, 3) := by decide +kernel
theorem dn_Scanner_added_16 : decode bn_Scanner_added 16 = .ok (.aload_n 0, 1) := by decide +kernel
theorem dn_Scanner_added_17 : decode bn_Scanner_added 17 = .ok (.getfield 62, 3) := by decide +kernel
theorem dn_Scanner_added_20 : decode bn_Scanner_added 20 = .ok (.iload_n 2, 1) := by decide +kernel
theorem dn_Scanner_added_21 : decode bn_Scanner_added 21 = .ok (.iastore, 1) := by decide +kernel
theorem dn_Scanner_added_22 : decode bn_Scanner_added 22 = .ok (.aload_n 0, 1) := by decide +kernel
theorem dn_Scanner_added_23 : decode bn_Scanner_added 23 = .ok (.getfield 25, 3) := by decide +kernel
theorem dn_Scanner_added_26 : decode bn_Scanner_added 26 = .ok (.aload_n 0, 1) := by decide +kernel
theorem dn_Scanner_added_27 : decode bn_Scanner_added 27 = .ok (.getfield 62, 3) := by decide +kernel
theorem dn_Scanner_added_30 : decode bn_Scanner_added 30 = .ok (.aload_n 0, 1) := by decide +kernel
theorem dn_Scanner_added_31 : decode bn_Scanner_added 31 = .ok (.iload_n 2, 1) := by decide +kernel
theorem dn_Scanner_added_32 : decode bn_Scanner_added 32 = .ok (.iload_n 3, 1) := by decide +kernel
theorem dn_Scanner_added_33 : decode bn_Scanner_added 33 = .ok (.invokevirtual 116, 3) := by decide +kernel
theorem dn_Scanner_byteAt_0 : decode bn_Scanner_byteAt 0 = .ok (.iload_n 1, 1) := by decide +kernel
theorem dn_Scanner_byteAt_1 : decode bn_Scanner_byteAt 1 = .ok (.ifCond .lt 20, 3) := by decide +kernel
theorem dn_Scanner_byteAt_4 : decode bn_Scanner_byteAt 4 = .ok (.iload_n 1, 1) := by decide +kernel
theorem dn_Scanner_byteAt_5 : decode bn_Scanner_byteAt 5 = .ok (.aload_n 0, 1) := by decide +kernel
theorem dn_Scanner_byteAt_6 : decode bn_Scanner_byteAt 6 = .ok (.getfield 45, 3) := by decide +kernel
theorem dn_Scanner_byteAt_9 : decode bn_Scanner_byteAt 9 = .ok (.if_icmp .ge 12, 3) := by decide +kernel
theorem dn_Scanner_byteAt_12 : decode bn_Scanner_byteAt 12 = .ok (.aload_n 0, 1) := by decide +kernel
theorem dn_Scanner_byteAt_13 : decode bn_Scanner_byteAt 13 = .ok (.getfield 9, 3) := by decide +kernel
theorem dn_Scanner_byteAt_16 : decode bn_Scanner_byteAt 16 = .ok (.iload_n 1, 1) := by decide +kernel
theorem dn_Scanner_byteAt_17 : decode bn_Scanner_byteAt 17 = .ok (.baload, 1) := by decide +kernel
theorem dn_Scanner_byteAt_18 : decode bn_Scanner_byteAt 18 = .ok (.goto 4, 3) := by decide +kernel
theorem dn_Scanner_byteAt_21 : decode bn_Scanner_byteAt 21 = .ok (.iconst (-1), 1) := by decide +kernel
theorem dn_Scanner_byteAt_22 : decode bn_Scanner_byteAt 22 = .ok (.ireturn, 1) := by decide +kernel
theorem dn_Scanner_decimal_0 : decode bn_Scanner_decimal 0 = .ok (.iconst 0, 1) := by decide +kernel
theorem dn_Scanner_decimal_1 : decode bn_Scanner_decimal 1 = .ok (.istore 4, 2) := by decide +kernel
theorem dn_Scanner_decimal_3 : decode bn_Scanner_decimal 3 = .ok (.iload_n 1, 1) := by decide +kernel
theorem dn_Scanner_decimal_4 : decode bn_Scanner_decimal 4 = .ok (.istore 5, 2) := by decide +kernel
theorem dn_Scanner_decimal_6 : decode bn_Scanner_decimal 6 = .ok (.iload 5, 2) := by decide +kernel
theorem dn_Scanner_decimal_8 : decode bn_Scanner_decimal 8 = .ok (.iload_n 2, 1) := by decide +kernel
theorem dn_Scanner_decimal_9 : decode bn_Scanner_decimal 9 = .ok (.if_icmp .ge 45, 3) := by decide +kernel
theorem dn_Scanner_decimal_12 : decode bn_Scanner_decimal 12 = .ok (.aload_n 0, 1) := by decide +kernel
theorem dn_Scanner_decimal_13 : decode bn_Scanner_decimal 13 = .ok (.iload 5, 2) := by decide +kernel
theorem dn_Scanner_decimal_15 : decode bn_Scanner_decimal 15 = .ok (.invokevirtual 76, 3) := by decide +kernel
theorem dn_Scanner_decimal_18 : decode bn_Scanner_decimal 18 = .ok (.invokestatic 138, 3) := by decide +kernel
theorem dn_Scanner_decimal_21 : decode bn_Scanner_decimal 21 = .ok (.istore 6, 2) := by decide +kernel
theorem dn_Scanner_decimal_23 : decode bn_Scanner_decimal 23 = .ok (.iload 6, 2) := by decide +kernel
theorem dn_Scanner_decimal_25 : decode bn_Scanner_decimal 25 = .ok (.bipush 9, 2) := by decide +kernel
theorem dn_Scanner_decimal_27 : decode bn_Scanner_decimal 27 = .ok (.if_icmp .le 5, 3) := by decide +kernel
theorem dn_Scanner_decimal_30 : decode bn_Scanner_decimal 30 = .ok (.iconst (-1), 1) := by decide +kernel
theorem dn_Scanner_decimal_31 : decode bn_Scanner_decimal 31 = .ok (.ireturn, 1) := by decide +kernel
theorem dn_Scanner_decimal_32 : decode bn_Scanner_decimal 32 = .ok (.iload_n 3, 1) := by decide +kernel
theorem dn_Scanner_decimal_33 : decode bn_Scanner_decimal 33 = .ok (.iconst 1, 1) := by decide +kernel
theorem dn_Scanner_decimal_34 : decode bn_Scanner_decimal 34 = .ok (.iadd, 1) := by decide +kernel
theorem dn_Scanner_decimal_35 : decode bn_Scanner_decimal 35 = .ok (.bipush 10, 2) := by decide +kernel
theorem dn_Scanner_decimal_37 : decode bn_Scanner_decimal 37 = .ok (.iload 4, 2) := by decide +kernel
theorem dn_Scanner_decimal_39 : decode bn_Scanner_decimal 39 = .ok (.imul, 1) := by decide +kernel
theorem dn_Scanner_decimal_40 : decode bn_Scanner_decimal 40 = .ok (.iload 6, 2) := by decide +kernel
theorem dn_Scanner_decimal_42 : decode bn_Scanner_decimal 42 = .ok (.iadd, 1) := by decide +kernel
theorem dn_Scanner_decimal_43 : decode bn_Scanner_decimal 43 = .ok (.invokestatic 39, 3) := by decide +kernel
theorem dn_Scanner_decimal_46 : decode bn_Scanner_decimal 46 = .ok (.istore 4, 2) := by decide +kernel
theorem dn_Scanner_decimal_48 : decode bn_Scanner_decimal 48 = .ok (.iinc 5 1, 3) := by decide +kernel
theorem dn_Scanner_decimal_51 : decode bn_Scanner_decimal 51 = .ok (.goto (-45), 3) := by decide +kernel
theorem dn_Scanner_decimal_54 : decode bn_Scanner_decimal 54 = .ok (.iload 4, 2) := by decide +kernel
theorem dn_Scanner_decimal_56 : decode bn_Scanner_decimal 56 = .ok (.iload_n 3, 1) := by decide +kernel
theorem dn_Scanner_decimal_57 : decode bn_Scanner_decimal 57 = .ok (.if_icmp .le 7, 3) := by decide +kernel
theorem dn_Scanner_decimal_60 : decode bn_Scanner_decimal 60 = .ok (.iconst (-1), 1) := by decide +kernel
theorem dn_Scanner_decimal_61 : decode bn_Scanner_decimal 61 = .ok (.goto 5, 3) := by decide +kernel
theorem dn_Scanner_decimal_64 : decode bn_Scanner_decimal 64 = .ok (.iload 4, 2) := by decide +kernel
theorem dn_Scanner_decimal_66 : decode bn_Scanner_decimal 66 = .ok (.ireturn, 1) := by decide +kernel
theorem dn_Scanner_digitOf_0 : decode bn_Scanner_digitOf 0 = .ok (.iload_n 0, 1) := by decide +kernel
theorem dn_Scanner_digitOf_1 : decode bn_Scanner_digitOf 1 = .ok (.invokestatic 86, 3) := by decide +kernel
theorem dn_Scanner_digitOf_4 : decode bn_Scanner_digitOf 4 = .ok (.ifCond .eq 8, 3) := by decide +kernel
theorem dn_Scanner_digitOf_7 : decode bn_Scanner_digitOf 7 = .ok (.iload_n 0, 1) := by decide +kernel
theorem dn_Scanner_digitOf_8 : decode bn_Scanner_digitOf 8 = .ok (.bipush 48, 2) := by decide +kernel
theorem dn_Scanner_digitOf_10 : decode bn_Scanner_digitOf 10 = .ok (.isub, 1) := by decide +kernel
theorem dn_Scanner_digitOf_11 : decode bn_Scanner_digitOf 11 = .ok (.ireturn, 1) := by decide +kernel
theorem dn_Scanner_digitOf_12 : decode bn_Scanner_digitOf 12 = .ok (.iload_n 0, 1) := by decide +kernel
theorem dn_Scanner_digitOf_13 : decode bn_Scanner_digitOf 13 = .ok (.bipush 97, 2) := by decide +kernel
theorem dn_Scanner_digitOf_15 : decode bn_Scanner_digitOf 15 = .ok (.if_icmp .lt 17, 3) := by decide +kernel
theorem dn_Scanner_digitOf_18 : decode bn_Scanner_digitOf 18 = .ok (.iload_n 0, 1) := by decide +kernel
theorem dn_Scanner_digitOf_19 : decode bn_Scanner_digitOf 19 = .ok (.bipush 102, 2) := by decide +kernel
theorem dn_Scanner_digitOf_21 : decode bn_Scanner_digitOf 21 = .ok (.if_icmp .gt 11, 3) := by decide +kernel
theorem dn_Scanner_digitOf_24 : decode bn_Scanner_digitOf 24 = .ok (.iload_n 0, 1) := by decide +kernel
theorem dn_Scanner_digitOf_25 : decode bn_Scanner_digitOf 25 = .ok (.bipush 97, 2) := by decide +kernel
theorem dn_Scanner_digitOf_27 : decode bn_Scanner_digitOf 27 = .ok (.isub, 1) := by decide +kernel
theorem dn_Scanner_digitOf_28 : decode bn_Scanner_digitOf 28 = .ok (.bipush 10, 2) := by decide +kernel
theorem dn_Scanner_digitOf_30 : decode bn_Scanner_digitOf 30 = .ok (.iadd, 1) := by decide +kernel
theorem dn_Scanner_digitOf_31 : decode bn_Scanner_digitOf 31 = .ok (.ireturn, 1) := by decide +kernel
theorem dn_Scanner_digitOf_32 : decode bn_Scanner_digitOf 32 = .ok (.iload_n 0, 1) := by decide +kernel
theorem dn_Scanner_digitOf_33 : decode bn_Scanner_digitOf 33 = .ok (.bipush 65, 2) := by decide +kernel
theorem dn_Scanner_digitOf_35 : decode bn_Scanner_digitOf 35 = .ok (.if_icmp .lt 17, 3) := by decide +kernel
theorem dn_Scanner_digitOf_38 : decode bn_Scanner_digitOf 38 = .ok (.iload_n 0, 1) := by decide +kernel
theorem dn_Scanner_digitOf_39 : decode bn_Scanner_digitOf 39 = .ok (.bipush 70, 2) := by decide +kernel
theorem dn_Scanner_digitOf_41 : decode bn_Scanner_digitOf 41 = .ok (.if_icmp .gt 11, 3) := by decide +kernel
theorem dn_Scanner_digitOf_44 : decode bn_Scanner_digitOf 44 = .ok (.iload_n 0, 1) := by decide +kernel
theorem dn_Scanner_digitOf_45 : decode bn_Scanner_digitOf 45 = .ok (.bipush 65, 2) := by decide +kernel
theorem dn_Scanner_digitOf_47 : decode bn_Scanner_digitOf 47 = .ok (.isub, 1) := by decide +kernel
theorem dn_Scanner_digitOf_48 : decode bn_Scanner_digitOf 48 = .ok (.bipush 10, 2) := by decide +kernel
theorem dn_Scanner_digitOf_50 : decode bn_Scanner_digitOf 50 = .ok (.iadd, 1) := by decide +kernel
theorem dn_Scanner_digitOf_51 : decode bn_Scanner_digitOf 51 = .ok (.ireturn, 1) := by decide +kernel
theorem dn_Scanner_digitOf_52 : decode bn_Scanner_digitOf 52 = .ok (.bipush 99, 2) := by decide +kernel
theorem dn_Scanner_digitOf_54 : decode bn_Scanner_digitOf 54 = .ok (.ireturn, 1) := by decide +kernel
theorem dn_Scanner_kindOf_0 : decode bn_Scanner_kindOf 0 = .ok (.sipush 128, 3) := by decide +kernel
theorem dn_Scanner_kindOf_3 : decode bn_Scanner_kindOf 3 = .ok (.istore_n 3, 1) := by decide +kernel
theorem dn_Scanner_kindOf_4 : decode bn_Scanner_kindOf 4 = .ok (.iconst 0, 1) := by decide +kernel
theorem dn_Scanner_kindOf_5 : decode bn_Scanner_kindOf 5 = .ok (.istore 4, 2) := by decide +kernel
theorem dn_Scanner_kindOf_7 : decode bn_Scanner_kindOf 7 = .ok (.iconst 0, 1) := by decide +kernel
theorem dn_Scanner_kindOf_8 : decode bn_Scanner_kindOf 8 = .ok (.istore 5, 2) := by decide +kernel
theorem dn_Scanner_kindOf_10 : decode bn_Scanner_kindOf 10 = .ok (.iload 5, 2) := by decide +kernel
theorem dn_Scanner_kindOf_12 : decode bn_Scanner_kindOf 12 = .ok (.ldc 119, 2) := by decide +kernel
theorem dn_Scanner_known_0 : decode bn_Scanner_known 0 = .ok (.aload_n 0, 1) := by decide +kernel
theorem dn_Scanner_known_1 : decode bn_Scanner_known 1 = .ok (.getfield 15, 3) := by decide +kernel
theorem dn_Scanner_known_4 : decode bn_Scanner_known 4 = .ok (.iload_n 1, 1) := by decide +kernel
theorem dn_Scanner_known_5 : decode bn_Scanner_known 5 = .ok (.iaload, 1) := by decide +kernel
theorem dn_Scanner_known_6 : decode bn_Scanner_known 6 = .ok (.istore 4, 2) := by decide +kernel
theorem dn_Scanner_known_8 : decode bn_Scanner_known 8 = .ok (.iconst 0, 1) := by decide +kernel
theorem dn_Scanner_known_9 : decode bn_Scanner_known 9 = .ok (.istore 5, 2) := by decide +kernel
theorem dn_Scanner_known_11 : decode bn_Scanner_known 11 = .ok (.iload 5, 2) := by decide +kernel
theorem dn_Scanner_known_13 : decode bn_Scanner_known 13 = .ok (.aload_n 0, 1) := by decide +kernel
theorem dn_Scanner_known_14 : decode bn_Scanner_known 14 = .ok (.getfield 62, 3) := by decide +kernel
theorem dn_Scanner_known_17 : decode bn_Scanner_known 17 = .ok (.if_icmp .ge 51, 3) := by decide +kernel
theorem dn_Scanner_known_20 : decode bn_Scanner_known 20 = .ok (.iload 4, 2) := by decide +kernel
theorem dn_Scanner_known_22 : decode bn_Scanner_known 22 = .ok (.ifCond .lt 46, 3) := by decide +kernel
theorem dn_Scanner_known_25 : decode bn_Scanner_known 25 = .ok (.iload 4, 2) := by decide +kernel
theorem dn_Scanner_known_27 : decode bn_Scanner_known 27 = .ok (.aload_n 0, 1) := by decide +kernel
theorem dn_Scanner_known_28 : decode bn_Scanner_known 28 = .ok (.getfield 62, 3) := by decide +kernel
theorem dn_Scanner_known_31 : decode bn_Scanner_known 31 = .ok (.if_icmp .ge 37, 3) := by decide +kernel
theorem dn_Scanner_known_34 : decode bn_Scanner_known 34 = .ok (.aload_n 0, 1) := by decide +kernel
theorem dn_Scanner_known_35 : decode bn_Scanner_known 35 = .ok (.aload_n 0, 1) := by decide +kernel
theorem dn_Scanner_known_36 : decode bn_Scanner_known 36 = .ok (.getfield 22, 3) := by decide +kernel
theorem dn_Scanner_known_39 : decode bn_Scanner_known 39 = .ok (.iload 4, 2) := by decide +kernel
theorem dn_Scanner_known_41 : decode bn_Scanner_known 41 = .ok (.iaload, 1) := by decide +kernel
theorem dn_Scanner_known_42 : decode bn_Scanner_known 42 = .ok (.iload_n 2, 1) := by decide +kernel
theorem dn_Scanner_known_43 : decode bn_Scanner_known 43 = .ok (.iload_n 3, 1) := by decide +kernel
theorem dn_Scanner_known_44 : decode bn_Scanner_known 44 = .ok (.invokevirtual 112, 3) := by decide +kernel
theorem dn_Scanner_known_47 : decode bn_Scanner_known 47 = .ok (.ifCond .eq 6, 3) := by decide +kernel
theorem dn_Scanner_known_50 : decode bn_Scanner_known 50 = .ok (.iload 4, 2) := by decide +kernel
theorem dn_Scanner_known_52 : decode bn_Scanner_known 52 = .ok (.ireturn, 1) := by decide +kernel
theorem dn_Scanner_known_53 : decode bn_Scanner_known 53 = .ok (.aload_n 0, 1) := by decide +kernel
theorem dn_Scanner_known_54 : decode bn_Scanner_known 54 = .ok (.getfield 19, 3) := by decide +kernel
theorem dn_Scanner_known_57 : decode bn_Scanner_known 57 = .ok (.iload 4, 2) := by decide +kernel
theorem dn_Scanner_known_59 : decode bn_Scanner_known 59 = .ok (.iaload, 1) := by decide +kernel
theorem dn_Scanner_known_60 : decode bn_Scanner_known 60 = .ok (.istore 4, 2) := by decide +kernel
theorem dn_Scanner_known_62 : decode bn_Scanner_known 62 = .ok (.iinc 5 1, 3) := by decide +kernel
theorem dn_Scanner_known_65 : decode bn_Scanner_known 65 = .ok (.goto (-54), 3) := by decide +kernel
theorem dn_Scanner_known_68 : decode bn_Scanner_known 68 = .ok (.iconst (-1), 1) := by decide +kernel
theorem dn_Scanner_known_69 : decode bn_Scanner_known 69 = .ok (.ireturn, 1) := by decide +kernel
theorem dn_Scanner_number_0 : decode bn_Scanner_number 0 = .ok (.iconst (-1), 1) := by decide +kernel
theorem dn_Scanner_number_1 : decode bn_Scanner_number 1 = .ok (.istore_n 2, 1) := by decide +kernel
theorem dn_Scanner_number_2 : decode bn_Scanner_number 2 = .ok (.iload_n 1, 1) := by decide +kernel
theorem dn_Scanner_number_3 : decode bn_Scanner_number 3 = .ok (.istore_n 3, 1) := by decide +kernel
theorem dn_Scanner_number_4 : decode bn_Scanner_number 4 = .ok (.iload_n 3, 1) := by decide +kernel
theorem dn_Scanner_number_5 : decode bn_Scanner_number 5 = .ok (.aload_n 0, 1) := by decide +kernel
theorem dn_Scanner_number_6 : decode bn_Scanner_number 6 = .ok (.getfield 45, 3) := by decide +kernel
theorem dn_Scanner_number_9 : decode bn_Scanner_number 9 = .ok (.if_icmp .ge 50, 3) := by decide +kernel
theorem dn_Scanner_number_12 : decode bn_Scanner_number 12 = .ok (.aload_n 0, 1) := by decide +kernel
theorem dn_Scanner_number_13 : decode bn_Scanner_number 13 = .ok (.getfield 9, 3) := by decide +kernel
theorem dn_Scanner_number_16 : decode bn_Scanner_number 16 = .ok (.iload_n 3, 1) := by decide +kernel
theorem dn_Scanner_number_17 : decode bn_Scanner_number 17 = .ok (.baload, 1) := by decide +kernel
theorem dn_Scanner_number_18 : decode bn_Scanner_number 18 = .ok (.invokestatic 102, 3) := by decide +kernel
theorem dn_Scanner_number_21 : decode bn_Scanner_number 21 = .ok (.ifCond .ne 19, 3) := by decide +kernel
theorem dn_Scanner_number_24 : decode bn_Scanner_number 24 = .ok (.aload_n 0, 1) := by decide +kernel
theorem dn_Scanner_number_25 : decode bn_Scanner_number 25 = .ok (.getfield 9, 3) := by decide +kernel
theorem dn_Scanner_number_28 : decode bn_Scanner_number 28 = .ok (.iload_n 3, 1) := by decide +kernel
theorem dn_Scanner_number_29 : decode bn_Scanner_number 29 = .ok (.baload, 1) := by decide +kernel
theorem dn_Scanner_number_30 : decode bn_Scanner_number 30 = .ok (.bipush 39, 2) := by decide +kernel
theorem dn_Scanner_number_32 : decode bn_Scanner_number 32 = .ok (.if_icmp .ne 27, 3) := by decide +kernel
theorem dn_Scanner_number_35 : decode bn_Scanner_number 35 = .ok (.iload_n 2, 1) := by decide +kernel
theorem dn_Scanner_number_36 : decode bn_Scanner_number 36 = .ok (.iconst (-1), 1) := by decide +kernel
theorem dn_Scanner_number_37 : decode bn_Scanner_number 37 = .ok (.if_icmp .ne 22, 3) := by decide +kernel
theorem dn_Scanner_number_40 : decode bn_Scanner_number 40 = .ok (.aload_n 0, 1) := by decide +kernel
theorem dn_Scanner_number_41 : decode bn_Scanner_number 41 = .ok (.getfield 9, 3) := by decide +kernel
theorem dn_Scanner_number_44 : decode bn_Scanner_number 44 = .ok (.iload_n 3, 1) := by decide +kernel
theorem dn_Scanner_number_45 : decode bn_Scanner_number 45 = .ok (.baload, 1) := by decide +kernel
theorem dn_Scanner_number_46 : decode bn_Scanner_number 46 = .ok (.bipush 39, 2) := by decide +kernel
theorem dn_Scanner_number_48 : decode bn_Scanner_number 48 = .ok (.if_icmp .ne 5, 3) := by decide +kernel
theorem dn_Scanner_number_51 : decode bn_Scanner_number 51 = .ok (.iload_n 3, 1) := by decide +kernel
theorem dn_Scanner_number_52 : decode bn_Scanner_number 52 = .ok (.istore_n 2, 1) := by decide +kernel
theorem dn_Scanner_number_53 : decode bn_Scanner_number 53 = .ok (.iinc 3 1, 3) := by decide +kernel
theorem dn_Scanner_number_56 : decode bn_Scanner_number 56 = .ok (.goto (-52), 3) := by decide +kernel
theorem dn_Scanner_number_59 : decode bn_Scanner_number 59 = .ok (.iload_n 2, 1) := by decide +kernel
theorem dn_Scanner_number_60 : decode bn_Scanner_number 60 = .ok (.iconst (-1), 1) := by decide +kernel
theorem dn_Scanner_number_61 : decode bn_Scanner_number 61 = .ok (.if_icmp .eq 19, 3) := by decide +kernel
theorem dn_Scanner_number_64 : decode bn_Scanner_number 64 = .ok (.aload_n 0, 1) := by decide +kernel
theorem dn_Scanner_number_65 : decode bn_Scanner_number 65 = .ok (.iload_n 1, 1) := by decide +kernel
theorem dn_Scanner_number_66 : decode bn_Scanner_number 66 = .ok (.iload_n 2, 1) := by decide +kernel
theorem dn_Scanner_number_67 : decode bn_Scanner_number 67 = .ok (.iload_n 3, 1) := by decide +kernel
theorem dn_Scanner_number_68 : decode bn_Scanner_number 68 = .ok (.invokevirtual 131, 3) := by decide +kernel
theorem dn_Scanner_number_71 : decode bn_Scanner_number 71 = .ok (.ifCond .eq 7, 3) := by decide +kernel
theorem dn_Scanner_number_74 : decode bn_Scanner_number 74 = .ok (.iload_n 3, 1) := by decide +kernel
theorem dn_Scanner_number_75 : decode bn_Scanner_number 75 = .ok (.goto 4, 3) := by decide +kernel
theorem dn_Scanner_number_78 : decode bn_Scanner_number 78 = .ok (.iconst (-1), 1) := by decide +kernel
theorem dn_Scanner_number_79 : decode bn_Scanner_number 79 = .ok (.ireturn, 1) := by decide +kernel
theorem dn_Scanner_number_80 : decode bn_Scanner_number 80 = .ok (.aload_n 0, 1) := by decide +kernel
theorem dn_Scanner_number_81 : decode bn_Scanner_number 81 = .ok (.iload_n 1, 1) := by decide +kernel
theorem dn_Scanner_number_82 : decode bn_Scanner_number 82 = .ok (.iload_n 3, 1) := by decide +kernel
theorem dn_Scanner_number_83 : decode bn_Scanner_number 83 = .ok (.ldc 134, 2) := by decide +kernel
theorem dn_Scanner_number_85 : decode bn_Scanner_number 85 = .ok (.invokevirtual 135, 3) := by decide +kernel
theorem dn_Scanner_number_88 : decode bn_Scanner_number 88 = .ok (.istore 4, 2) := by decide +kernel
theorem dn_Scanner_number_90 : decode bn_Scanner_number 90 = .ok (.iload 4, 2) := by decide +kernel
theorem dn_Scanner_number_92 : decode bn_Scanner_number 92 = .ok (.iconst (-1), 1) := by decide +kernel
theorem dn_Scanner_number_93 : decode bn_Scanner_number 93 = .ok (.if_icmp .ne 5, 3) := by decide +kernel
theorem dn_Scanner_number_96 : decode bn_Scanner_number 96 = .ok (.iconst (-1), 1) := by decide +kernel
theorem dn_Scanner_number_97 : decode bn_Scanner_number 97 = .ok (.ireturn, 1) := by decide +kernel
theorem dn_Scanner_number_98 : decode bn_Scanner_number 98 = .ok (.aload_n 0, 1) := by decide +kernel
theorem dn_Scanner_number_99 : decode bn_Scanner_number 99 = .ok (.getfield 28, 3) := by decide +kernel
theorem dn_Scanner_number_102 : decode bn_Scanner_number 102 = .ok (.iconst 3, 1) := by decide +kernel
theorem dn_Scanner_number_103 : decode bn_Scanner_number 103 = .ok (.iload_n 1, 1) := by decide +kernel
theorem dn_Scanner_number_104 : decode bn_Scanner_number 104 = .ok (.iload 4, 2) := by decide +kernel
theorem dn_Scanner_number_106 : decode bn_Scanner_number 106 = .ok (.invokevirtual 72, 3) := by decide +kernel
theorem dn_Scanner_number_109 : decode bn_Scanner_number 109 = .ok (.iload_n 3, 1) := by decide +kernel
theorem dn_Scanner_number_110 : decode bn_Scanner_number 110 = .ok (.ireturn, 1) := by decide +kernel
theorem dn_Scanner_pair_0 : decode bn_Scanner_pair 0 = .ok (.iload_n 1, 1) := by decide +kernel
theorem dn_Scanner_pair_1 : decode bn_Scanner_pair 1 = .ok (.bipush 61, 2) := by decide +kernel
theorem dn_Scanner_pair_3 : decode bn_Scanner_pair 3 = .ok (.if_icmp .ne 59, 3) := by decide +kernel
theorem dn_Scanner_pair_6 : decode bn_Scanner_pair 6 = .ok (.iload_n 0, 1) := by decide +kernel
theorem dn_Scanner_pair_7 : decode bn_Scanner_pair 7 = .ok (.lookupswitch 53 #[(33, 44), (60, 47), (61, 41), (62, 50)], 41) := by decide +kernel
theorem dn_Scanner_pair_48 : decode bn_Scanner_pair 48 = .ok (.bipush 7, 2) := by decide +kernel
theorem dn_Scanner_pair_50 : decode bn_Scanner_pair 50 = .ok (.ireturn, 1) := by decide +kernel
theorem dn_Scanner_pair_51 : decode bn_Scanner_pair 51 = .ok (.bipush 8, 2) := by decide +kernel
theorem dn_Scanner_pair_53 : decode bn_Scanner_pair 53 = .ok (.ireturn, 1) := by decide +kernel
theorem dn_Scanner_pair_54 : decode bn_Scanner_pair 54 = .ok (.bipush 9, 2) := by decide +kernel
theorem dn_Scanner_pair_56 : decode bn_Scanner_pair 56 = .ok (.ireturn, 1) := by decide +kernel
theorem dn_Scanner_pair_57 : decode bn_Scanner_pair 57 = .ok (.bipush 10, 2) := by decide +kernel
theorem dn_Scanner_pair_59 : decode bn_Scanner_pair 59 = .ok (.ireturn, 1) := by decide +kernel
theorem dn_Scanner_pair_60 : decode bn_Scanner_pair 60 = .ok (.iconst (-1), 1) := by decide +kernel
theorem dn_Scanner_pair_61 : decode bn_Scanner_pair 61 = .ok (.ireturn, 1) := by decide +kernel
theorem dn_Scanner_pair_62 : decode bn_Scanner_pair 62 = .ok (.iload_n 0, 1) := by decide +kernel
theorem dn_Scanner_pair_63 : decode bn_Scanner_pair 63 = .ok (.iload_n 1, 1) := by decide +kernel
theorem dn_Scanner_pair_64 : decode bn_Scanner_pair 64 = .ok (.if_icmp .eq 5, 3) := by decide +kernel
theorem dn_Scanner_pair_67 : decode bn_Scanner_pair 67 = .ok (.iconst (-1), 1) := by decide +kernel
theorem dn_Scanner_pair_68 : decode bn_Scanner_pair 68 = .ok (.ireturn, 1) := by decide +kernel
theorem dn_Scanner_pair_69 : decode bn_Scanner_pair 69 = .ok (.iload_n 0, 1) := by decide +kernel
theorem dn_Scanner_pair_70 : decode bn_Scanner_pair 70 = .ok (.lookupswitch 53 #[(38, 42), (60, 47), (62, 50), (124, 44)], 42) := by decide +kernel
theorem dn_Scanner_pair_112 : decode bn_Scanner_pair 112 = .ok (.iconst 5, 1) := by decide +kernel
theorem dn_Scanner_pair_113 : decode bn_Scanner_pair 113 = .ok (.ireturn, 1) := by decide +kernel
theorem dn_Scanner_pair_114 : decode bn_Scanner_pair 114 = .ok (.bipush 6, 2) := by decide +kernel
theorem dn_Scanner_pair_116 : decode bn_Scanner_pair 116 = .ok (.ireturn, 1) := by decide +kernel
theorem dn_Scanner_pair_117 : decode bn_Scanner_pair 117 = .ok (.bipush 11, 2) := by decide +kernel
theorem dn_Scanner_pair_119 : decode bn_Scanner_pair 119 = .ok (.ireturn, 1) := by decide +kernel
theorem dn_Scanner_pair_120 : decode bn_Scanner_pair 120 = .ok (.bipush 12, 2) := by decide +kernel
theorem dn_Scanner_pair_122 : decode bn_Scanner_pair 122 = .ok (.ireturn, 1) := by decide +kernel
theorem dn_Scanner_pair_123 : decode bn_Scanner_pair 123 = .ok (.iconst (-1), 1) := by decide +kernel
theorem dn_Scanner_pair_124 : decode bn_Scanner_pair 124 = .ok (.ireturn, 1) := by decide +kernel
theorem dn_Scanner_repeats_0 : decode bn_Scanner_repeats 0 = .ok (.iload_n 2, 1) := by decide +kernel
theorem dn_Scanner_repeats_1 : decode bn_Scanner_repeats 1 = .ok (.istore 4, 2) := by decide +kernel
theorem dn_Scanner_repeats_3 : decode bn_Scanner_repeats 3 = .ok (.iload 4, 2) := by decide +kernel
theorem dn_Scanner_repeats_5 : decode bn_Scanner_repeats 5 = .ok (.iload_n 3, 1) := by decide +kernel
theorem dn_Scanner_repeats_6 : decode bn_Scanner_repeats 6 = .ok (.if_icmp .ge 30, 3) := by decide +kernel
theorem dn_Scanner_repeats_9 : decode bn_Scanner_repeats 9 = .ok (.aload_n 0, 1) := by decide +kernel
theorem dn_Scanner_repeats_10 : decode bn_Scanner_repeats 10 = .ok (.iload_n 1, 1) := by decide +kernel
theorem dn_Scanner_repeats_11 : decode bn_Scanner_repeats 11 = .ok (.iload 4, 2) := by decide +kernel
theorem dn_Scanner_repeats_13 : decode bn_Scanner_repeats 13 = .ok (.iadd, 1) := by decide +kernel
theorem dn_Scanner_repeats_14 : decode bn_Scanner_repeats 14 = .ok (.iload_n 2, 1) := by decide +kernel
theorem dn_Scanner_repeats_15 : decode bn_Scanner_repeats 15 = .ok (.isub, 1) := by decide +kernel
theorem dn_Scanner_repeats_16 : decode bn_Scanner_repeats 16 = .ok (.invokevirtual 76, 3) := by decide +kernel
theorem dn_Scanner_repeats_19 : decode bn_Scanner_repeats 19 = .ok (.aload_n 0, 1) := by decide +kernel
theorem dn_Scanner_repeats_20 : decode bn_Scanner_repeats 20 = .ok (.iload 4, 2) := by decide +kernel
theorem dn_Scanner_repeats_22 : decode bn_Scanner_repeats 22 = .ok (.invokevirtual 76, 3) := by decide +kernel
theorem dn_Scanner_repeats_25 : decode bn_Scanner_repeats 25 = .ok (.if_icmp .eq 5, 3) := by decide +kernel
theorem dn_Scanner_repeats_28 : decode bn_Scanner_repeats 28 = .ok (.iconst 0, 1) := by decide +kernel
theorem dn_Scanner_repeats_29 : decode bn_Scanner_repeats 29 = .ok (.ireturn, 1) := by decide +kernel
theorem dn_Scanner_repeats_30 : decode bn_Scanner_repeats 30 = .ok (.iinc 4 1, 3) := by decide +kernel
theorem dn_Scanner_repeats_33 : decode bn_Scanner_repeats 33 = .ok (.goto (-30), 3) := by decide +kernel
theorem dn_Scanner_repeats_36 : decode bn_Scanner_repeats 36 = .ok (.aload_n 0, 1) := by decide +kernel
theorem dn_Scanner_repeats_37 : decode bn_Scanner_repeats 37 = .ok (.iload_n 1, 1) := by decide +kernel
theorem dn_Scanner_repeats_38 : decode bn_Scanner_repeats 38 = .ok (.iload_n 3, 1) := by decide +kernel
theorem dn_Scanner_repeats_39 : decode bn_Scanner_repeats 39 = .ok (.iadd, 1) := by decide +kernel
theorem dn_Scanner_repeats_40 : decode bn_Scanner_repeats 40 = .ok (.iload_n 2, 1) := by decide +kernel
theorem dn_Scanner_repeats_41 : decode bn_Scanner_repeats 41 = .ok (.isub, 1) := by decide +kernel
theorem dn_Scanner_repeats_42 : decode bn_Scanner_repeats 42 = .ok (.invokevirtual 76, 3) := by decide +kernel
theorem dn_Scanner_repeats_45 : decode bn_Scanner_repeats 45 = .ok (.invokestatic 102, 3) := by decide +kernel
theorem dn_Scanner_repeats_48 : decode bn_Scanner_repeats 48 = .ok (.ifCond .ne 7, 3) := by decide +kernel
theorem dn_Scanner_repeats_51 : decode bn_Scanner_repeats 51 = .ok (.iconst 1, 1) := by decide +kernel
theorem dn_Scanner_repeats_52 : decode bn_Scanner_repeats 52 = .ok (.goto 4, 3) := by decide +kernel
theorem dn_Scanner_repeats_55 : decode bn_Scanner_repeats 55 = .ok (.iconst 0, 1) := by decide +kernel
theorem dn_Scanner_repeats_56 : decode bn_Scanner_repeats 56 = .ok (.ireturn, 1) := by decide +kernel
theorem dn_Scanner_scan_0 : decode bn_Scanner_scan 0 = .ok (.aload_n 0, 1) := by decide +kernel
theorem dn_Scanner_scan_1 : decode bn_Scanner_scan 1 = .ok (.aload_n 1, 1) := by decide +kernel
theorem dn_Scanner_scan_2 : decode bn_Scanner_scan 2 = .ok (.getfield 32, 3) := by decide +kernel
theorem dn_Scanner_scan_5 : decode bn_Scanner_scan 5 = .ok (.putfield 9, 3) := by decide +kernel
theorem dn_Scanner_scan_8 : decode bn_Scanner_scan 8 = .ok (.aload_n 0, 1) := by decide +kernel
theorem dn_Scanner_scan_9 : decode bn_Scanner_scan 9 = .ok (.aload_n 1, 1) := by decide +kernel
theorem dn_Scanner_scan_10 : decode bn_Scanner_scan 10 = .ok (.getfield 35, 3) := by decide +kernel
theorem dn_Scanner_scan_13 : decode bn_Scanner_scan 13 = .ok (.aload_n 0, 1) := by decide +kernel
theorem dn_Scanner_scan_14 : decode bn_Scanner_scan 14 = .ok (.getfield 9, 3) := by decide +kernel
theorem dn_Scanner_scan_17 : decode bn_Scanner_scan 17 = .ok (.arraylength, 1) := by decide +kernel
theorem dn_Scanner_scan_18 : decode bn_Scanner_scan 18 = .ok (.invokestatic 39, 3) := by decide +kernel
theorem dn_Scanner_scan_21 : decode bn_Scanner_scan 21 = .ok (.putfield 45, 3) := by decide +kernel
theorem dn_Scanner_scan_24 : decode bn_Scanner_scan 24 = .ok (.aload_n 0, 1) := by decide +kernel
theorem dn_Scanner_scan_25 : decode bn_Scanner_scan 25 = .ok (.aload_n 1, 1) := by decide +kernel
theorem dn_Scanner_scan_26 : decode bn_Scanner_scan 26 = .ok (.getfield 46, 3) := by decide +kernel
theorem dn_Scanner_scan_29 : decode bn_Scanner_scan 29 = .ok (.putfield 50, 3) := by decide +kernel
theorem dn_Scanner_scan_32 : decode bn_Scanner_scan 32 = .ok (.aload_n 0, 1) := by decide +kernel
theorem dn_Scanner_scan_33 : decode bn_Scanner_scan 33 = .ok (.getfield 28, 3) := by decide +kernel
theorem dn_Scanner_scan_36 : decode bn_Scanner_scan 36 = .ok (.invokevirtual 51, 3) := by decide +kernel
theorem dn_Scanner_scan_39 : decode bn_Scanner_scan 39 = .ok (.aload_n 0, 1) := by decide +kernel
theorem dn_Scanner_scan_40 : decode bn_Scanner_scan 40 = .ok (.getfield 15, 3) := by decide +kernel
theorem dn_Scanner_scan_43 : decode bn_Scanner_scan 43 = .ok (.iconst (-1), 1) := by decide +kernel
theorem dn_Scanner_scan_44 : decode bn_Scanner_scan 44 = .ok (.invokestatic 56, 3) := by decide +kernel
theorem dn_Scanner_shiftOf_0 : decode bn_Scanner_shiftOf 0 = .ok (.iload_n 0, 1) := by decide +kernel
theorem dn_Scanner_shiftOf_1 : decode bn_Scanner_shiftOf 1 = .ok (.lookupswitch 51 #[(98, 43), (100, 47), (104, 49), (111, 45)], 43) := by decide +kernel
theorem dn_Scanner_shiftOf_44 : decode bn_Scanner_shiftOf 44 = .ok (.iconst 1, 1) := by decide +kernel
theorem dn_Scanner_shiftOf_45 : decode bn_Scanner_shiftOf 45 = .ok (.ireturn, 1) := by decide +kernel
theorem dn_Scanner_shiftOf_46 : decode bn_Scanner_shiftOf 46 = .ok (.iconst 3, 1) := by decide +kernel
theorem dn_Scanner_shiftOf_47 : decode bn_Scanner_shiftOf 47 = .ok (.ireturn, 1) := by decide +kernel
theorem dn_Scanner_shiftOf_48 : decode bn_Scanner_shiftOf 48 = .ok (.iconst 0, 1) := by decide +kernel
theorem dn_Scanner_shiftOf_49 : decode bn_Scanner_shiftOf 49 = .ok (.ireturn, 1) := by decide +kernel
theorem dn_Scanner_shiftOf_50 : decode bn_Scanner_shiftOf 50 = .ok (.iconst 4, 1) := by decide +kernel
theorem dn_Scanner_shiftOf_51 : decode bn_Scanner_shiftOf 51 = .ok (.ireturn, 1) := by decide +kernel
theorem dn_Scanner_shiftOf_52 : decode bn_Scanner_shiftOf 52 = .ok (.iconst (-1), 1) := by decide +kernel
theorem dn_Scanner_shiftOf_53 : decode bn_Scanner_shiftOf 53 = .ok (.ireturn, 1) := by decide +kernel
theorem dn_Scanner_sized_0 : decode bn_Scanner_sized 0 = .ok (.aload_n 0, 1) := by decide +kernel
theorem dn_Scanner_sized_1 : decode bn_Scanner_sized 1 = .ok (.iload_n 1, 1) := by decide +kernel
theorem dn_Scanner_sized_2 : decode bn_Scanner_sized 2 = .ok (.iload_n 2, 1) := by decide +kernel
theorem dn_Scanner_sized_3 : decode bn_Scanner_sized 3 = .ok (.bipush 64, 2) := by decide +kernel
theorem dn_Scanner_sized_5 : decode bn_Scanner_sized 5 = .ok (.invokevirtual 135, 3) := by decide +kernel
theorem dn_Scanner_sized_8 : decode bn_Scanner_sized 8 = .ok (.istore 4, 2) := by decide +kernel
theorem dn_Scanner_sized_10 : decode bn_Scanner_sized 10 = .ok (.aload_n 0, 1) := by decide +kernel
theorem dn_Scanner_sized_11 : decode bn_Scanner_sized 11 = .ok (.iload_n 2, 1) := by decide +kernel
theorem dn_Scanner_sized_12 : decode bn_Scanner_sized 12 = .ok (.iconst 1, 1) := by decide +kernel
theorem dn_Scanner_sized_13 : decode bn_Scanner_sized 13 = .ok (.iadd, 1) := by decide +kernel
theorem dn_Scanner_sized_14 : decode bn_Scanner_sized 14 = .ok (.invokevirtual 76, 3) := by decide +kernel
theorem dn_Scanner_sized_17 : decode bn_Scanner_sized 17 = .ok (.invokestatic 141, 3) := by decide +kernel
theorem dn_Scanner_sized_20 : decode bn_Scanner_sized 20 = .ok (.istore 5, 2) := by decide +kernel
theorem dn_Scanner_sized_22 : decode bn_Scanner_sized 22 = .ok (.iload 4, 2) := by decide +kernel
theorem dn_Scanner_sized_24 : decode bn_Scanner_sized 24 = .ok (.iconst 1, 1) := by decide +kernel
theorem dn_Scanner_sized_25 : decode bn_Scanner_sized 25 = .ok (.if_icmp .lt 16, 3) := by decide +kernel
theorem dn_Scanner_sized_28 : decode bn_Scanner_sized 28 = .ok (.iload 5, 2) := by decide +kernel
theorem dn_Scanner_sized_30 : decode bn_Scanner_sized 30 = .ok (.iconst (-1), 1) := by decide +kernel
theorem dn_Scanner_sized_31 : decode bn_Scanner_sized 31 = .ok (.if_icmp .eq 10, 3) := by decide +kernel
theorem dn_Scanner_sized_34 : decode bn_Scanner_sized 34 = .ok (.iload_n 2, 1) := by decide +kernel
theorem dn_Scanner_sized_35 : decode bn_Scanner_sized 35 = .ok (.iconst 2, 1) := by decide +kernel
theorem dn_Scanner_sized_36 : decode bn_Scanner_sized 36 = .ok (.iadd, 1) := by decide +kernel
theorem dn_Scanner_sized_37 : decode bn_Scanner_sized 37 = .ok (.iload_n 3, 1) := by decide +kernel
theorem dn_Scanner_sized_38 : decode bn_Scanner_sized 38 = .ok (.if_icmp .lt 5, 3) := by decide +kernel
theorem dn_Scanner_sized_41 : decode bn_Scanner_sized 41 = .ok (.iconst 0, 1) := by decide +kernel
theorem dn_Scanner_sized_42 : decode bn_Scanner_sized 42 = .ok (.ireturn, 1) := by decide +kernel
theorem dn_Scanner_sized_43 : decode bn_Scanner_sized 43 = .ok (.iload 5, 2) := by decide +kernel
theorem dn_Scanner_sized_45 : decode bn_Scanner_sized 45 = .ok (.ifCond .ne 8, 3) := by decide +kernel
theorem dn_Scanner_sized_48 : decode bn_Scanner_sized 48 = .ok (.bipush 10, 2) := by decide +kernel
theorem dn_Scanner_sized_50 : decode bn_Scanner_sized 50 = .ok (.goto 7, 3) := by decide +kernel
theorem dn_Scanner_sized_53 : decode bn_Scanner_sized 53 = .ok (.iconst 1, 1) := by decide +kernel
theorem dn_Scanner_sized_54 : decode bn_Scanner_sized 54 = .ok (.iload 5, 2) := by decide +kernel
theorem dn_Scanner_sized_56 : decode bn_Scanner_sized 56 = .ok (.ishl, 1) := by decide +kernel
theorem dn_Scanner_sized_57 : decode bn_Scanner_sized 57 = .ok (.istore 6, 2) := by decide +kernel
theorem dn_Scanner_sized_59 : decode bn_Scanner_sized 59 = .ok (.iload 5, 2) := by decide +kernel
theorem dn_Scanner_sized_61 : decode bn_Scanner_sized 61 = .ok (.ifCond .ne 9, 3) := by decide +kernel
theorem dn_Scanner_sized_64 : decode bn_Scanner_sized 64 = .ok (.ldc2_w 144, 3) := by decide +kernel
theorem dn_Scanner_sized_67 : decode bn_Scanner_sized 67 = .ok (.goto 9, 3) := by decide +kernel
theorem dn_Scanner_sized_70 : decode bn_Scanner_sized 70 = .ok (.ldc2_w 146, 3) := by decide +kernel
theorem dn_Scanner_sized_73 : decode bn_Scanner_sized 73 = .ok (.iload 5, 2) := by decide +kernel
theorem dn_Scanner_sized_75 : decode bn_Scanner_sized 75 = .ok (.lushr, 1) := by decide +kernel
theorem dn_Scanner_sized_76 : decode bn_Scanner_sized 76 = .ok (.lstore 7, 2) := by decide +kernel
theorem dn_Scanner_sized_78 : decode bn_Scanner_sized 78 = .ok (.lconst 0, 1) := by decide +kernel
theorem dn_Scanner_sized_79 : decode bn_Scanner_sized 79 = .ok (.lstore 9, 2) := by decide +kernel
theorem dn_Scanner_sized_81 : decode bn_Scanner_sized 81 = .ok (.iload_n 2, 1) := by decide +kernel
theorem dn_Scanner_sized_82 : decode bn_Scanner_sized 82 = .ok (.iconst 2, 1) := by decide +kernel
theorem dn_Scanner_sized_83 : decode bn_Scanner_sized 83 = .ok (.iadd, 1) := by decide +kernel
theorem dn_Scanner_sized_84 : decode bn_Scanner_sized 84 = .ok (.istore 11, 2) := by decide +kernel
theorem dn_Scanner_sized_86 : decode bn_Scanner_sized 86 = .ok (.iload 11, 2) := by decide +kernel
theorem dn_Scanner_sized_88 : decode bn_Scanner_sized 88 = .ok (.iload_n 3, 1) := by decide +kernel
theorem dn_Scanner_sized_89 : decode bn_Scanner_sized 89 = .ok (.if_icmp .ge 77, 3) := by decide +kernel
theorem dn_Scanner_sized_92 : decode bn_Scanner_sized 92 = .ok (.aload_n 0, 1) := by decide +kernel
theorem dn_Scanner_sized_93 : decode bn_Scanner_sized 93 = .ok (.iload 11, 2) := by decide +kernel
theorem dn_Scanner_sized_95 : decode bn_Scanner_sized 95 = .ok (.invokevirtual 76, 3) := by decide +kernel
theorem dn_Scanner_sized_98 : decode bn_Scanner_sized 98 = .ok (.invokestatic 138, 3) := by decide +kernel
theorem dn_Scanner_sized_101 : decode bn_Scanner_sized 101 = .ok (.istore 12, 2) := by decide +kernel
theorem dn_Scanner_sized_103 : decode bn_Scanner_sized 103 = .ok (.iload 12, 2) := by decide +kernel
theorem dn_Scanner_sized_105 : decode bn_Scanner_sized 105 = .ok (.iload 6, 2) := by decide +kernel
theorem dn_Scanner_sized_107 : decode bn_Scanner_sized 107 = .ok (.if_icmp .ge 18, 3) := by decide +kernel
theorem dn_Scanner_sized_110 : decode bn_Scanner_sized 110 = .ok (.lload 9, 2) := by decide +kernel
theorem dn_Scanner_sized_112 : decode bn_Scanner_sized 112 = .ok (.lconst 0, 1) := by decide +kernel
theorem dn_Scanner_sized_113 : decode bn_Scanner_sized 113 = .ok (.lcmp, 1) := by decide +kernel
theorem dn_Scanner_sized_114 : decode bn_Scanner_sized 114 = .ok (.ifCond .lt 11, 3) := by decide +kernel
theorem dn_Scanner_sized_117 : decode bn_Scanner_sized 117 = .ok (.lload 9, 2) := by decide +kernel
theorem dn_Scanner_sized_119 : decode bn_Scanner_sized 119 = .ok (.lload 7, 2) := by decide +kernel
theorem dn_Scanner_sized_121 : decode bn_Scanner_sized 121 = .ok (.lcmp, 1) := by decide +kernel
theorem dn_Scanner_sized_122 : decode bn_Scanner_sized 122 = .ok (.ifCond .le 5, 3) := by decide +kernel
theorem dn_Scanner_sized_125 : decode bn_Scanner_sized 125 = .ok (.iconst 0, 1) := by decide +kernel
theorem dn_Scanner_sized_126 : decode bn_Scanner_sized 126 = .ok (.ireturn, 1) := by decide +kernel
theorem dn_Scanner_sized_127 : decode bn_Scanner_sized 127 = .ok (.iload 5, 2) := by decide +kernel
theorem dn_Scanner_sized_129 : decode bn_Scanner_sized 129 = .ok (.ifCond .ne 19, 3) := by decide +kernel
theorem dn_Scanner_sized_132 : decode bn_Scanner_sized 132 = .ok (.lload 9, 2) := by decide +kernel
theorem dn_Scanner_sized_134 : decode bn_Scanner_sized 134 = .ok (.lload 7, 2) := by decide +kernel
theorem dn_Scanner_sized_136 : decode bn_Scanner_sized 136 = .ok (.lcmp, 1) := by decide +kernel
theorem dn_Scanner_sized_137 : decode bn_Scanner_sized 137 = .ok (.ifCond .ne 11, 3) := by decide +kernel
theorem dn_Scanner_sized_140 : decode bn_Scanner_sized 140 = .ok (.iload 12, 2) := by decide +kernel
theorem dn_Scanner_sized_142 : decode bn_Scanner_sized 142 = .ok (.iconst 5, 1) := by decide +kernel
theorem dn_Scanner_sized_143 : decode bn_Scanner_sized 143 = .ok (.if_icmp .le 5, 3) := by decide +kernel
theorem dn_Scanner_sized_146 : decode bn_Scanner_sized 146 = .ok (.iconst 0, 1) := by decide +kernel
theorem dn_Scanner_sized_147 : decode bn_Scanner_sized 147 = .ok (.ireturn, 1) := by decide +kernel
theorem dn_Scanner_sized_148 : decode bn_Scanner_sized 148 = .ok (.lload 9, 2) := by decide +kernel
theorem dn_Scanner_sized_150 : decode bn_Scanner_sized 150 = .ok (.iload 6, 2) := by decide +kernel
theorem dn_Scanner_sized_152 : decode bn_Scanner_sized 152 = .ok (.i2l, 1) := by decide +kernel
theorem dn_Scanner_sized_153 : decode bn_Scanner_sized 153 = .ok (.lmul, 1) := by decide +kernel
theorem dn_Scanner_sized_154 : decode bn_Scanner_sized 154 = .ok (.iload 12, 2) := by decide +kernel
theorem dn_Scanner_sized_156 : decode bn_Scanner_sized 156 = .ok (.i2l, 1) := by decide +kernel
theorem dn_Scanner_sized_157 : decode bn_Scanner_sized 157 = .ok (.ladd, 1) := by decide +kernel
theorem dn_Scanner_sized_158 : decode bn_Scanner_sized 158 = .ok (.lstore 9, 2) := by decide +kernel
theorem dn_Scanner_sized_160 : decode bn_Scanner_sized 160 = .ok (.iinc 11 1, 3) := by decide +kernel
theorem dn_Scanner_sized_163 : decode bn_Scanner_sized 163 = .ok (.goto (-77), 3) := by decide +kernel
theorem dn_Scanner_sized_166 : decode bn_Scanner_sized 166 = .ok (.lload 9, 2) := by decide +kernel
theorem dn_Scanner_sized_168 : decode bn_Scanner_sized 168 = .ok (.iload 4, 2) := by decide +kernel
theorem dn_Scanner_sized_170 : decode bn_Scanner_sized 170 = .ok (.invokestatic 148, 3) := by decide +kernel
theorem dn_Scanner_sized_173 : decode bn_Scanner_sized 173 = .ok (.ldc2_w 146, 3) := by decide +kernel
theorem dn_Scanner_sized_176 : decode bn_Scanner_sized 176 = .ok (.lxor, 1) := by decide +kernel
theorem dn_Scanner_sized_177 : decode bn_Scanner_sized 177 = .ok (.land, 1) := by decide +kernel
theorem dn_Scanner_sized_178 : decode bn_Scanner_sized 178 = .ok (.lconst 0, 1) := by decide +kernel
theorem dn_Scanner_sized_179 : decode bn_Scanner_sized 179 = .ok (.lcmp, 1) := by decide +kernel
theorem dn_Scanner_sized_180 : decode bn_Scanner_sized 180 = .ok (.ifCond .eq 5, 3) := by decide +kernel
theorem dn_Scanner_sized_183 : decode bn_Scanner_sized 183 = .ok (.iconst 0, 1) := by decide +kernel
theorem dn_Scanner_sized_184 : decode bn_Scanner_sized 184 = .ok (.ireturn, 1) := by decide +kernel
theorem dn_Scanner_sized_185 : decode bn_Scanner_sized 185 = .ok (.aload_n 0, 1) := by decide +kernel
theorem dn_Scanner_sized_186 : decode bn_Scanner_sized 186 = .ok (.getfield 28, 3) := by decide +kernel
theorem dn_Scanner_sized_189 : decode bn_Scanner_sized 189 = .ok (.iconst 4, 1) := by decide +kernel
theorem dn_Scanner_sized_190 : decode bn_Scanner_sized 190 = .ok (.iload_n 1, 1) := by decide +kernel
theorem dn_Scanner_sized_191 : decode bn_Scanner_sized 191 = .ok (.aload_n 0, 1) := by decide +kernel
theorem dn_Scanner_sized_192 : decode bn_Scanner_sized 192 = .ok (.getfield 50, 3) := by decide +kernel
theorem dn_Scanner_sized_195 : decode bn_Scanner_sized 195 = .ok (.iload 4, 2) := by decide +kernel
theorem dn_Scanner_sized_197 : decode bn_Scanner_sized 197 = .ok (.lload 9, 2) := by decide +kernel
theorem dn_Scanner_sized_199 : decode bn_Scanner_sized 199 = .ok (.invokevirtual 152, 3) := by decide +kernel
theorem dn_Scanner_sized_202 : decode bn_Scanner_sized 202 = .ok (.invokevirtual 72, 3) := by decide +kernel
theorem dn_Scanner_sized_205 : decode bn_Scanner_sized 205 = .ok (.iconst 1, 1) := by decide +kernel
theorem dn_Scanner_sized_206 : decode bn_Scanner_sized 206 = .ok (.ireturn, 1) := by decide +kernel
theorem dn_Scanner_skipped_0 : decode bn_Scanner_skipped 0 = .ok (.aload_n 0, 1) := by decide +kernel
theorem dn_Scanner_skipped_1 : decode bn_Scanner_skipped 1 = .ok (.iload_n 1, 1) := by decide +kernel
theorem dn_Scanner_skipped_2 : decode bn_Scanner_skipped 2 = .ok (.invokevirtual 76, 3) := by decide +kernel
theorem dn_Scanner_skipped_5 : decode bn_Scanner_skipped 5 = .ok (.istore_n 2, 1) := by decide +kernel
theorem dn_Scanner_skipped_6 : decode bn_Scanner_skipped 6 = .ok (.iload_n 2, 1) := by decide +kernel
theorem dn_Scanner_skipped_7 : decode bn_Scanner_skipped 7 = .ok (.bipush 9, 2) := by decide +kernel
theorem dn_Scanner_skipped_9 : decode bn_Scanner_skipped 9 = .ok (.if_icmp .eq 21, 3) := by decide +kernel
theorem dn_Scanner_skipped_12 : decode bn_Scanner_skipped 12 = .ok (.iload_n 2, 1) := by decide +kernel
theorem dn_Scanner_skipped_13 : decode bn_Scanner_skipped 13 = .ok (.bipush 10, 2) := by decide +kernel
theorem dn_Scanner_skipped_15 : decode bn_Scanner_skipped 15 = .ok (.if_icmp .eq 15, 3) := by decide +kernel
theorem dn_Scanner_skipped_18 : decode bn_Scanner_skipped 18 = .ok (.iload_n 2, 1) := by decide +kernel
theorem dn_Scanner_skipped_19 : decode bn_Scanner_skipped 19 = .ok (.bipush 13, 2) := by decide +kernel
theorem dn_Scanner_skipped_21 : decode bn_Scanner_skipped 21 = .ok (.if_icmp .eq 9, 3) := by decide +kernel
theorem dn_Scanner_skipped_24 : decode bn_Scanner_skipped 24 = .ok (.iload_n 2, 1) := by decide +kernel
theorem dn_Scanner_skipped_25 : decode bn_Scanner_skipped 25 = .ok (.bipush 32, 2) := by decide +kernel
theorem dn_Scanner_skipped_27 : decode bn_Scanner_skipped 27 = .ok (.if_icmp .ne 7, 3) := by decide +kernel
theorem dn_Scanner_skipped_30 : decode bn_Scanner_skipped 30 = .ok (.iload_n 1, 1) := by decide +kernel
theorem dn_Scanner_skipped_31 : decode bn_Scanner_skipped 31 = .ok (.iconst 1, 1) := by decide +kernel
theorem dn_Scanner_skipped_32 : decode bn_Scanner_skipped 32 = .ok (.iadd, 1) := by decide +kernel
theorem dn_Scanner_skipped_33 : decode bn_Scanner_skipped 33 = .ok (.ireturn, 1) := by decide +kernel
theorem dn_Scanner_skipped_34 : decode bn_Scanner_skipped 34 = .ok (.iload_n 2, 1) := by decide +kernel
theorem dn_Scanner_skipped_35 : decode bn_Scanner_skipped 35 = .ok (.bipush 47, 2) := by decide +kernel
theorem dn_Scanner_skipped_37 : decode bn_Scanner_skipped 37 = .ok (.if_icmp .eq 5, 3) := by decide +kernel
theorem dn_Scanner_skipped_40 : decode bn_Scanner_skipped 40 = .ok (.iload_n 1, 1) := by decide +kernel
theorem dn_Scanner_skipped_41 : decode bn_Scanner_skipped 41 = .ok (.ireturn, 1) := by decide +kernel
theorem dn_Scanner_skipped_42 : decode bn_Scanner_skipped 42 = .ok (.aload_n 0, 1) := by decide +kernel
theorem dn_Scanner_skipped_43 : decode bn_Scanner_skipped 43 = .ok (.iload_n 1, 1) := by decide +kernel
theorem dn_Scanner_skipped_44 : decode bn_Scanner_skipped 44 = .ok (.iconst 1, 1) := by decide +kernel
theorem dn_Scanner_skipped_45 : decode bn_Scanner_skipped 45 = .ok (.iadd, 1) := by decide +kernel
theorem dn_Scanner_skipped_46 : decode bn_Scanner_skipped 46 = .ok (.invokevirtual 76, 3) := by decide +kernel
theorem dn_Scanner_skipped_49 : decode bn_Scanner_skipped 49 = .ok (.bipush 47, 2) := by decide +kernel
theorem dn_Scanner_skipped_51 : decode bn_Scanner_skipped 51 = .ok (.if_icmp .ne 34, 3) := by decide +kernel
theorem dn_Scanner_skipped_54 : decode bn_Scanner_skipped 54 = .ok (.iload_n 1, 1) := by decide +kernel
theorem dn_Scanner_skipped_55 : decode bn_Scanner_skipped 55 = .ok (.iconst 2, 1) := by decide +kernel
theorem dn_Scanner_skipped_56 : decode bn_Scanner_skipped 56 = .ok (.iadd, 1) := by decide +kernel
theorem dn_Scanner_skipped_57 : decode bn_Scanner_skipped 57 = .ok (.istore_n 3, 1) := by decide +kernel
theorem dn_Scanner_skipped_58 : decode bn_Scanner_skipped 58 = .ok (.iload_n 3, 1) := by decide +kernel
theorem dn_Scanner_skipped_59 : decode bn_Scanner_skipped 59 = .ok (.aload_n 0, 1) := by decide +kernel
theorem dn_Scanner_skipped_60 : decode bn_Scanner_skipped 60 = .ok (.getfield 45, 3) := by decide +kernel
theorem dn_Scanner_skipped_63 : decode bn_Scanner_skipped 63 = .ok (.if_icmp .ge 20, 3) := by decide +kernel
theorem dn_Scanner_skipped_66 : decode bn_Scanner_skipped 66 = .ok (.aload_n 0, 1) := by decide +kernel
theorem dn_Scanner_skipped_67 : decode bn_Scanner_skipped 67 = .ok (.getfield 9, 3) := by decide +kernel
theorem dn_Scanner_skipped_70 : decode bn_Scanner_skipped 70 = .ok (.iload_n 3, 1) := by decide +kernel
theorem dn_Scanner_skipped_71 : decode bn_Scanner_skipped 71 = .ok (.baload, 1) := by decide +kernel
theorem dn_Scanner_skipped_72 : decode bn_Scanner_skipped 72 = .ok (.bipush 10, 2) := by decide +kernel
theorem dn_Scanner_skipped_74 : decode bn_Scanner_skipped 74 = .ok (.if_icmp .eq 9, 3) := by decide +kernel
theorem dn_Scanner_skipped_77 : decode bn_Scanner_skipped 77 = .ok (.iinc 3 1, 3) := by decide +kernel
theorem dn_Scanner_skipped_80 : decode bn_Scanner_skipped 80 = .ok (.goto (-22), 3) := by decide +kernel
theorem dn_Scanner_skipped_83 : decode bn_Scanner_skipped 83 = .ok (.iload_n 3, 1) := by decide +kernel
theorem dn_Scanner_skipped_84 : decode bn_Scanner_skipped 84 = .ok (.ireturn, 1) := by decide +kernel
theorem dn_Scanner_skipped_85 : decode bn_Scanner_skipped 85 = .ok (.aload_n 0, 1) := by decide +kernel
theorem dn_Scanner_skipped_86 : decode bn_Scanner_skipped 86 = .ok (.iload_n 1, 1) := by decide +kernel
theorem dn_Scanner_skipped_87 : decode bn_Scanner_skipped 87 = .ok (.iconst 1, 1) := by decide +kernel
theorem dn_Scanner_skipped_88 : decode bn_Scanner_skipped 88 = .ok (.iadd, 1) := by decide +kernel
theorem dn_Scanner_skipped_89 : decode bn_Scanner_skipped 89 = .ok (.invokevirtual 76, 3) := by decide +kernel
theorem dn_Scanner_skipped_92 : decode bn_Scanner_skipped 92 = .ok (.bipush 42, 2) := by decide +kernel
theorem dn_Scanner_skipped_94 : decode bn_Scanner_skipped 94 = .ok (.if_icmp .eq 5, 3) := by decide +kernel
theorem dn_Scanner_skipped_97 : decode bn_Scanner_skipped 97 = .ok (.iload_n 1, 1) := by decide +kernel
theorem dn_Scanner_skipped_98 : decode bn_Scanner_skipped 98 = .ok (.ireturn, 1) := by decide +kernel
theorem dn_Scanner_skipped_99 : decode bn_Scanner_skipped 99 = .ok (.iload_n 1, 1) := by decide +kernel
theorem dn_Scanner_skipped_100 : decode bn_Scanner_skipped 100 = .ok (.iconst 2, 1) := by decide +kernel
theorem dn_Scanner_skipped_101 : decode bn_Scanner_skipped 101 = .ok (.iadd, 1) := by decide +kernel
theorem dn_Scanner_skipped_102 : decode bn_Scanner_skipped 102 = .ok (.istore_n 3, 1) := by decide +kernel
theorem dn_Scanner_skipped_103 : decode bn_Scanner_skipped 103 = .ok (.iload_n 3, 1) := by decide +kernel
theorem dn_Scanner_skipped_104 : decode bn_Scanner_skipped 104 = .ok (.iconst 1, 1) := by decide +kernel
theorem dn_Scanner_skipped_105 : decode bn_Scanner_skipped 105 = .ok (.iadd, 1) := by decide +kernel
theorem dn_Scanner_skipped_106 : decode bn_Scanner_skipped 106 = .ok (.aload_n 0, 1) := by decide +kernel
theorem dn_Scanner_skipped_107 : decode bn_Scanner_skipped 107 = .ok (.getfield 45, 3) := by decide +kernel
theorem dn_Scanner_skipped_110 : decode bn_Scanner_skipped 110 = .ok (.if_icmp .ge 37, 3) := by decide +kernel
theorem dn_Scanner_skipped_113 : decode bn_Scanner_skipped 113 = .ok (.aload_n 0, 1) := by decide +kernel
theorem dn_Scanner_skipped_114 : decode bn_Scanner_skipped 114 = .ok (.getfield 9, 3) := by decide +kernel
theorem dn_Scanner_skipped_117 : decode bn_Scanner_skipped 117 = .ok (.iload_n 3, 1) := by decide +kernel
theorem dn_Scanner_skipped_118 : decode bn_Scanner_skipped 118 = .ok (.baload, 1) := by decide +kernel
theorem dn_Scanner_skipped_119 : decode bn_Scanner_skipped 119 = .ok (.bipush 42, 2) := by decide +kernel
theorem dn_Scanner_skipped_121 : decode bn_Scanner_skipped 121 = .ok (.if_icmp .ne 20, 3) := by decide +kernel
theorem dn_Scanner_skipped_124 : decode bn_Scanner_skipped 124 = .ok (.aload_n 0, 1) := by decide +kernel
theorem dn_Scanner_skipped_125 : decode bn_Scanner_skipped 125 = .ok (.getfield 9, 3) := by decide +kernel
theorem dn_Scanner_skipped_128 : decode bn_Scanner_skipped 128 = .ok (.iload_n 3, 1) := by decide +kernel
theorem dn_Scanner_skipped_129 : decode bn_Scanner_skipped 129 = .ok (.iconst 1, 1) := by decide +kernel
theorem dn_Scanner_skipped_130 : decode bn_Scanner_skipped 130 = .ok (.iadd, 1) := by decide +kernel
theorem dn_Scanner_skipped_131 : decode bn_Scanner_skipped 131 = .ok (.baload, 1) := by decide +kernel
theorem dn_Scanner_skipped_132 : decode bn_Scanner_skipped 132 = .ok (.bipush 47, 2) := by decide +kernel
theorem dn_Scanner_skipped_134 : decode bn_Scanner_skipped 134 = .ok (.if_icmp .ne 7, 3) := by decide +kernel
theorem dn_Scanner_skipped_137 : decode bn_Scanner_skipped 137 = .ok (.iload_n 3, 1) := by decide +kernel
theorem dn_Scanner_skipped_138 : decode bn_Scanner_skipped 138 = .ok (.iconst 2, 1) := by decide +kernel
theorem dn_Scanner_skipped_139 : decode bn_Scanner_skipped 139 = .ok (.iadd, 1) := by decide +kernel
theorem dn_Scanner_skipped_140 : decode bn_Scanner_skipped 140 = .ok (.ireturn, 1) := by decide +kernel
theorem dn_Scanner_skipped_141 : decode bn_Scanner_skipped 141 = .ok (.iinc 3 1, 3) := by decide +kernel
theorem dn_Scanner_skipped_144 : decode bn_Scanner_skipped 144 = .ok (.goto (-41), 3) := by decide +kernel
theorem dn_Scanner_skipped_147 : decode bn_Scanner_skipped 147 = .ok (.iconst (-1), 1) := by decide +kernel
theorem dn_Scanner_skipped_148 : decode bn_Scanner_skipped 148 = .ok (.ireturn, 1) := by decide +kernel
theorem dn_Scanner_spells_0 : decode bn_Scanner_spells 0 = .ok (.iload_n 2, 1) := by decide +kernel
theorem dn_Scanner_spells_1 : decode bn_Scanner_spells 1 = .ok (.istore 4, 2) := by decide +kernel
theorem dn_Scanner_spells_3 : decode bn_Scanner_spells 3 = .ok (.iload 4, 2) := by decide +kernel
theorem dn_Scanner_spells_5 : decode bn_Scanner_spells 5 = .ok (.iload_n 3, 1) := by decide +kernel
theorem dn_Scanner_spells_6 : decode bn_Scanner_spells 6 = .ok (.if_icmp .ge 31, 3) := by decide +kernel
theorem dn_Scanner_spells_9 : decode bn_Scanner_spells 9 = .ok (.ldc 119, 2) := by decide +kernel
theorem dn_Scanner_spells_37 : decode bn_Scanner_spells 37 = .ok (.iconst 1, 1) := by decide +kernel
theorem dn_Scanner_spells_38 : decode bn_Scanner_spells 38 = .ok (.ireturn, 1) := by decide +kernel
theorem dn_Scanner_token_0 : decode bn_Scanner_token 0 = .ok (.aload_n 0, 1) := by decide +kernel
theorem dn_Scanner_token_1 : decode bn_Scanner_token 1 = .ok (.iload_n 1, 1) := by decide +kernel
theorem dn_Scanner_token_2 : decode bn_Scanner_token 2 = .ok (.invokevirtual 76, 3) := by decide +kernel
theorem dn_Scanner_token_5 : decode bn_Scanner_token 5 = .ok (.istore_n 2, 1) := by decide +kernel
theorem dn_Scanner_token_6 : decode bn_Scanner_token 6 = .ok (.iload_n 2, 1) := by decide +kernel
theorem dn_Scanner_token_7 : decode bn_Scanner_token 7 = .ok (.invokestatic 79, 3) := by decide +kernel
theorem dn_Scanner_token_10 : decode bn_Scanner_token 10 = .ok (.ifCond .eq 9, 3) := by decide +kernel
theorem dn_Scanner_token_19 : decode bn_Scanner_token 19 = .ok (.iload_n 2, 1) := by decide +kernel
theorem dn_Scanner_token_20 : decode bn_Scanner_token 20 = .ok (.invokestatic 86, 3) := by decide +kernel
theorem dn_Scanner_token_23 : decode bn_Scanner_token 23 = .ok (.ifCond .eq 9, 3) := by decide +kernel
theorem dn_Scanner_token_32 : decode bn_Scanner_token 32 = .ok (.iload_n 2, 1) := by decide +kernel
theorem dn_Scanner_token_33 : decode bn_Scanner_token 33 = .ok (.aload_n 0, 1) := by decide +kernel
theorem dn_Scanner_token_34 : decode bn_Scanner_token 34 = .ok (.iload_n 1, 1) := by decide +kernel
theorem dn_Scanner_token_35 : decode bn_Scanner_token 35 = .ok (.iconst 1, 1) := by decide +kernel
theorem dn_Scanner_token_36 : decode bn_Scanner_token 36 = .ok (.iadd, 1) := by decide +kernel
theorem dn_Scanner_token_37 : decode bn_Scanner_token 37 = .ok (.invokevirtual 76, 3) := by decide +kernel
theorem dn_Scanner_token_40 : decode bn_Scanner_token 40 = .ok (.invokestatic 92, 3) := by decide +kernel
theorem dn_Scanner_token_43 : decode bn_Scanner_token 43 = .ok (.istore_n 3, 1) := by decide +kernel
theorem dn_Scanner_token_44 : decode bn_Scanner_token 44 = .ok (.iload_n 3, 1) := by decide +kernel
theorem dn_Scanner_token_45 : decode bn_Scanner_token 45 = .ok (.iconst (-1), 1) := by decide +kernel
theorem dn_Scanner_token_46 : decode bn_Scanner_token 46 = .ok (.if_icmp .eq 17, 3) := by decide +kernel
theorem dn_Scanner_token_63 : decode bn_Scanner_token 63 = .ok (.iload_n 2, 1) := by decide +kernel
theorem dn_Scanner_token_64 : decode bn_Scanner_token 64 = .ok (.ifCond .le 13, 3) := by decide +kernel
theorem dn_Scanner_token_67 : decode bn_Scanner_token 67 = .ok (.ldc 95, 2) := by decide +kernel
theorem dn_Scanner_token_77 : decode bn_Scanner_token 77 = .ok (.iconst (-1), 1) := by decide +kernel
theorem dn_Scanner_token_78 : decode bn_Scanner_token 78 = .ok (.ireturn, 1) := by decide +kernel
theorem dn_Scanner_word_0 : decode bn_Scanner_word 0 = .ok (.iload_n 1, 1) := by decide +kernel
theorem dn_Scanner_word_1 : decode bn_Scanner_word 1 = .ok (.istore_n 2, 1) := by decide +kernel
theorem dn_Scanner_word_2 : decode bn_Scanner_word 2 = .ok (.iconst 0, 1) := by decide +kernel
theorem dn_Scanner_word_3 : decode bn_Scanner_word 3 = .ok (.istore_n 3, 1) := by decide +kernel
theorem dn_Scanner_word_4 : decode bn_Scanner_word 4 = .ok (.iload_n 2, 1) := by decide +kernel
theorem dn_Scanner_word_5 : decode bn_Scanner_word 5 = .ok (.aload_n 0, 1) := by decide +kernel
theorem dn_Scanner_word_6 : decode bn_Scanner_word 6 = .ok (.getfield 45, 3) := by decide +kernel
theorem dn_Scanner_word_9 : decode bn_Scanner_word 9 = .ok (.if_icmp .ge 33, 3) := by decide +kernel
theorem dn_Scanner_word_12 : decode bn_Scanner_word 12 = .ok (.aload_n 0, 1) := by decide +kernel
theorem dn_Scanner_word_13 : decode bn_Scanner_word 13 = .ok (.getfield 9, 3) := by decide +kernel
theorem dn_Scanner_word_16 : decode bn_Scanner_word 16 = .ok (.iload_n 2, 1) := by decide +kernel
theorem dn_Scanner_word_17 : decode bn_Scanner_word 17 = .ok (.baload, 1) := by decide +kernel
theorem dn_Scanner_word_18 : decode bn_Scanner_word 18 = .ok (.invokestatic 102, 3) := by decide +kernel
theorem dn_Scanner_word_21 : decode bn_Scanner_word 21 = .ok (.ifCond .eq 21, 3) := by decide +kernel
theorem dn_Scanner_word_24 : decode bn_Scanner_word 24 = .ok (.bipush 31, 2) := by decide +kernel
theorem dn_Scanner_word_26 : decode bn_Scanner_word 26 = .ok (.iload_n 3, 1) := by decide +kernel
theorem dn_Scanner_word_27 : decode bn_Scanner_word 27 = .ok (.imul, 1) := by decide +kernel
theorem dn_Scanner_word_28 : decode bn_Scanner_word 28 = .ok (.aload_n 0, 1) := by decide +kernel
theorem dn_Scanner_word_29 : decode bn_Scanner_word 29 = .ok (.getfield 9, 3) := by decide +kernel
theorem dn_Scanner_word_32 : decode bn_Scanner_word 32 = .ok (.iload_n 2, 1) := by decide +kernel
theorem dn_Scanner_word_33 : decode bn_Scanner_word 33 = .ok (.baload, 1) := by decide +kernel
theorem dn_Scanner_word_34 : decode bn_Scanner_word 34 = .ok (.iadd, 1) := by decide +kernel
theorem dn_Scanner_word_35 : decode bn_Scanner_word 35 = .ok (.istore_n 3, 1) := by decide +kernel
theorem dn_Scanner_word_36 : decode bn_Scanner_word 36 = .ok (.iinc 2 1, 3) := by decide +kernel
theorem dn_Scanner_word_39 : decode bn_Scanner_word 39 = .ok (.goto (-35), 3) := by decide +kernel
theorem dn_Scanner_word_42 : decode bn_Scanner_word 42 = .ok (.iload_n 3, 1) := by decide +kernel
theorem dn_Scanner_word_43 : decode bn_Scanner_word 43 = .ok (.iload_n 3, 1) := by decide +kernel
theorem dn_Scanner_word_44 : decode bn_Scanner_word 44 = .ok (.bipush 8, 2) := by decide +kernel
theorem dn_Scanner_word_46 : decode bn_Scanner_word 46 = .ok (.iushr, 1) := by decide +kernel
theorem dn_Scanner_word_47 : decode bn_Scanner_word 47 = .ok (.ixor, 1) := by decide +kernel
theorem dn_Scanner_word_48 : decode bn_Scanner_word 48 = .ok (.sipush 255, 3) := by decide +kernel
theorem dn_Scanner_word_51 : decode bn_Scanner_word 51 = .ok (.iand, 1) := by decide +kernel
theorem dn_Scanner_word_52 : decode bn_Scanner_word 52 = .ok (.istore 4, 2) := by decide +kernel
theorem dn_Scanner_word_54 : decode bn_Scanner_word 54 = .ok (.aload_n 0, 1) := by decide +kernel
theorem dn_Scanner_word_55 : decode bn_Scanner_word 55 = .ok (.iload 4, 2) := by decide +kernel
theorem dn_Scanner_word_57 : decode bn_Scanner_word 57 = .ok (.iload_n 1, 1) := by decide +kernel
theorem dn_Scanner_word_58 : decode bn_Scanner_word 58 = .ok (.iload_n 2, 1) := by decide +kernel
theorem dn_Scanner_word_59 : decode bn_Scanner_word 59 = .ok (.invokevirtual 105, 3) := by decide +kernel
theorem dn_Scanner_word_62 : decode bn_Scanner_word 62 = .ok (.istore 5, 2) := by decide +kernel
theorem dn_Scanner_word_64 : decode bn_Scanner_word 64 = .ok (.iload 5, 2) := by decide +kernel
theorem dn_Scanner_word_66 : decode bn_Scanner_word 66 = .ok (.iconst (-1), 1) := by decide +kernel
theorem dn_Scanner_word_67 : decode bn_Scanner_word 67 = .ok (.if_icmp .ne 13, 3) := by decide +kernel
theorem dn_Scanner_word_70 : decode bn_Scanner_word 70 = .ok (.aload_n 0, 1) := by decide +kernel
theorem dn_Scanner_word_71 : decode bn_Scanner_word 71 = .ok (.iload 4, 2) := by decide +kernel
theorem dn_Scanner_word_73 : decode bn_Scanner_word 73 = .ok (.iload_n 1, 1) := by decide +kernel
theorem dn_Scanner_word_74 : decode bn_Scanner_word 74 = .ok (.iload_n 2, 1) := by decide +kernel
theorem dn_Scanner_word_75 : decode bn_Scanner_word 75 = .ok (.invokevirtual 109, 3) := by decide +kernel
theorem dn_Tokens_add_0 : decode bn_Tokens_add 0 = .ok (.aload_n 0, 1) := by decide +kernel
theorem dn_Tokens_add_1 : decode bn_Tokens_add 1 = .ok (.getfield 16, 3) := by decide +kernel
theorem dn_Tokens_add_4 : decode bn_Tokens_add 4 = .ok (.aload_n 0, 1) := by decide +kernel
theorem dn_Tokens_add_5 : decode bn_Tokens_add 5 = .ok (.getfield 10, 3) := by decide +kernel
theorem dn_Tokens_add_8 : decode bn_Tokens_add 8 = .ok (.arraylength, 1) := by decide +kernel
theorem dn_Tokens_add_9 : decode bn_Tokens_add 9 = .ok (.if_icmp .lt 4, 3) := by decide +kernel
theorem dn_Tokens_add_12 : decode bn_Tokens_add 12 = .ok (.return_, 1) := by decide +kernel
theorem dn_Tokens_add_13 : decode bn_Tokens_add 13 = .ok (.aload_n 0, 1) := by decide +kernel
theorem dn_Tokens_add_14 : decode bn_Tokens_add 14 = .ok (.getfield 10, 3) := by decide +kernel
theorem dn_Tokens_add_17 : decode bn_Tokens_add 17 = .ok (.aload_n 0, 1) := by decide +kernel
theorem dn_Tokens_add_18 : decode bn_Tokens_add 18 = .ok (.getfield 16, 3) := by decide +kernel
theorem dn_Tokens_add_21 : decode bn_Tokens_add 21 = .ok (.iload_n 1, 1) := by decide +kernel
theorem dn_Tokens_add_22 : decode bn_Tokens_add 22 = .ok (.i2l, 1) := by decide +kernel
theorem dn_Tokens_add_23 : decode bn_Tokens_add 23 = .ok (.bipush 40, 2) := by decide +kernel
theorem dn_Tokens_add_25 : decode bn_Tokens_add 25 = .ok (.lshl, 1) := by decide +kernel
theorem dn_Tokens_add_26 : decode bn_Tokens_add 26 = .ok (.iload_n 2, 1) := by decide +kernel
theorem dn_Tokens_add_27 : decode bn_Tokens_add 27 = .ok (.i2l, 1) := by decide +kernel
theorem dn_Tokens_add_28 : decode bn_Tokens_add 28 = .ok (.bipush 20, 2) := by decide +kernel
theorem dn_Tokens_add_30 : decode bn_Tokens_add 30 = .ok (.lshl, 1) := by decide +kernel
theorem dn_Tokens_add_31 : decode bn_Tokens_add 31 = .ok (.lor, 1) := by decide +kernel
theorem dn_Tokens_add_32 : decode bn_Tokens_add 32 = .ok (.iload_n 3, 1) := by decide +kernel
theorem dn_Tokens_add_33 : decode bn_Tokens_add 33 = .ok (.iconst 1, 1) := by decide +kernel
theorem dn_Tokens_add_34 : decode bn_Tokens_add 34 = .ok (.iadd, 1) := by decide +kernel
theorem dn_Tokens_add_35 : decode bn_Tokens_add 35 = .ok (.i2l, 1) := by decide +kernel
theorem dn_Tokens_add_36 : decode bn_Tokens_add 36 = .ok (.lor, 1) := by decide +kernel
theorem dn_Tokens_add_37 : decode bn_Tokens_add 37 = .ok (.lastore, 1) := by decide +kernel
theorem dn_Tokens_add_38 : decode bn_Tokens_add 38 = .ok (.aload_n 0, 1) := by decide +kernel
theorem dn_Tokens_add_39 : decode bn_Tokens_add 39 = .ok (.dup, 1) := by decide +kernel
theorem dn_Tokens_add_40 : decode bn_Tokens_add 40 = .ok (.getfield 16, 3) := by decide +kernel
theorem dn_Tokens_add_43 : decode bn_Tokens_add 43 = .ok (.iconst 1, 1) := by decide +kernel
theorem dn_Tokens_add_44 : decode bn_Tokens_add 44 = .ok (.iadd, 1) := by decide +kernel
theorem dn_Tokens_add_45 : decode bn_Tokens_add 45 = .ok (.putfield 16, 3) := by decide +kernel
theorem dn_Tokens_add_48 : decode bn_Tokens_add 48 = .ok (.return_, 1) := by decide +kernel
theorem dn_Tokens_clear_0 : decode bn_Tokens_clear 0 = .ok (.aload_n 0, 1) := by decide +kernel
theorem dn_Tokens_clear_1 : decode bn_Tokens_clear 1 = .ok (.iconst 0, 1) := by decide +kernel
theorem dn_Tokens_clear_2 : decode bn_Tokens_clear 2 = .ok (.putfield 16, 3) := by decide +kernel
theorem dn_Tokens_clear_5 : decode bn_Tokens_clear 5 = .ok (.return_, 1) := by decide +kernel
theorem dn_Tokens_due_0 : decode bn_Tokens_due 0 = .ok (.aload_n 0, 1) := by decide +kernel
theorem dn_Tokens_due_1 : decode bn_Tokens_due 1 = .ok (.getfield 39, 3) := by decide +kernel
theorem dn_Tokens_due_4 : decode bn_Tokens_due 4 = .ok (.iload_n 1, 1) := by decide +kernel
theorem dn_Tokens_due_5 : decode bn_Tokens_due 5 = .ok (.if_icmp .ne 5, 3) := by decide +kernel
theorem dn_Tokens_due_8 : decode bn_Tokens_due 8 = .ok (.iconst 1, 1) := by decide +kernel
theorem dn_Tokens_due_9 : decode bn_Tokens_due 9 = .ok (.ireturn, 1) := by decide +kernel
theorem dn_Tokens_due_10 : decode bn_Tokens_due 10 = .ok (.aload_n 0, 1) := by decide +kernel
theorem dn_Tokens_due_11 : decode bn_Tokens_due 11 = .ok (.aload_n 0, 1) := by decide +kernel
theorem dn_Tokens_due_12 : decode bn_Tokens_due 12 = .ok (.invokevirtual 52, 3) := by decide +kernel
theorem dn_Tokens_due_15 : decode bn_Tokens_due 15 = .ok (.invokevirtual 56, 3) := by decide +kernel
theorem dn_Tokens_due_18 : decode bn_Tokens_due 18 = .ok (.iconst 0, 1) := by decide +kernel
theorem dn_Tokens_due_19 : decode bn_Tokens_due 19 = .ok (.ireturn, 1) := by decide +kernel
theorem dn_Tokens_extraAt_0 : decode bn_Tokens_extraAt 0 = .ok (.iload_n 1, 1) := by decide +kernel
theorem dn_Tokens_extraAt_1 : decode bn_Tokens_extraAt 1 = .ok (.ifCond .lt 26, 3) := by decide +kernel
theorem dn_Tokens_extraAt_4 : decode bn_Tokens_extraAt 4 = .ok (.iload_n 1, 1) := by decide +kernel
theorem dn_Tokens_extraAt_5 : decode bn_Tokens_extraAt 5 = .ok (.aload_n 0, 1) := by decide +kernel
theorem dn_Tokens_extraAt_6 : decode bn_Tokens_extraAt 6 = .ok (.getfield 16, 3) := by decide +kernel
theorem dn_Tokens_extraAt_9 : decode bn_Tokens_extraAt 9 = .ok (.if_icmp .ge 18, 3) := by decide +kernel
theorem dn_Tokens_extraAt_12 : decode bn_Tokens_extraAt 12 = .ok (.aload_n 0, 1) := by decide +kernel
theorem dn_Tokens_extraAt_13 : decode bn_Tokens_extraAt 13 = .ok (.getfield 10, 3) := by decide +kernel
theorem dn_Tokens_extraAt_16 : decode bn_Tokens_extraAt 16 = .ok (.iload_n 1, 1) := by decide +kernel
theorem dn_Tokens_extraAt_17 : decode bn_Tokens_extraAt 17 = .ok (.laload, 1) := by decide +kernel
theorem dn_Tokens_extraAt_18 : decode bn_Tokens_extraAt 18 = .ok (.l2i, 1) := by decide +kernel
theorem dn_Tokens_extraAt_19 : decode bn_Tokens_extraAt 19 = .ok (.ldc 42, 2) := by decide +kernel
theorem dn_Tokens_extraAt_21 : decode bn_Tokens_extraAt 21 = .ok (.iand, 1) := by decide +kernel
theorem dn_Tokens_extraAt_22 : decode bn_Tokens_extraAt 22 = .ok (.iconst 1, 1) := by decide +kernel
theorem dn_Tokens_extraAt_23 : decode bn_Tokens_extraAt 23 = .ok (.isub, 1) := by decide +kernel
theorem dn_Tokens_extraAt_24 : decode bn_Tokens_extraAt 24 = .ok (.goto 4, 3) := by decide +kernel
theorem dn_Tokens_extraAt_27 : decode bn_Tokens_extraAt 27 = .ok (.iconst (-1), 1) := by decide +kernel
theorem dn_Tokens_extraAt_28 : decode bn_Tokens_extraAt 28 = .ok (.ireturn, 1) := by decide +kernel
theorem dn_Tokens_kindAt_0 : decode bn_Tokens_kindAt 0 = .ok (.iload_n 1, 1) := by decide +kernel
theorem dn_Tokens_kindAt_1 : decode bn_Tokens_kindAt 1 = .ok (.ifCond .lt 24, 3) := by decide +kernel
theorem dn_Tokens_kindAt_4 : decode bn_Tokens_kindAt 4 = .ok (.iload_n 1, 1) := by decide +kernel
theorem dn_Tokens_kindAt_5 : decode bn_Tokens_kindAt 5 = .ok (.aload_n 0, 1) := by decide +kernel
theorem dn_Tokens_kindAt_6 : decode bn_Tokens_kindAt 6 = .ok (.getfield 16, 3) := by decide +kernel
theorem dn_Tokens_kindAt_9 : decode bn_Tokens_kindAt 9 = .ok (.if_icmp .ge 16, 3) := by decide +kernel
theorem dn_Tokens_kindAt_12 : decode bn_Tokens_kindAt 12 = .ok (.aload_n 0, 1) := by decide +kernel
theorem dn_Tokens_kindAt_13 : decode bn_Tokens_kindAt 13 = .ok (.getfield 10, 3) := by decide +kernel
theorem dn_Tokens_kindAt_16 : decode bn_Tokens_kindAt 16 = .ok (.iload_n 1, 1) := by decide +kernel
theorem dn_Tokens_kindAt_17 : decode bn_Tokens_kindAt 17 = .ok (.laload, 1) := by decide +kernel
theorem dn_Tokens_kindAt_18 : decode bn_Tokens_kindAt 18 = .ok (.bipush 40, 2) := by decide +kernel
theorem dn_Tokens_kindAt_20 : decode bn_Tokens_kindAt 20 = .ok (.lushr, 1) := by decide +kernel
theorem dn_Tokens_kindAt_21 : decode bn_Tokens_kindAt 21 = .ok (.l2i, 1) := by decide +kernel
theorem dn_Tokens_kindAt_22 : decode bn_Tokens_kindAt 22 = .ok (.goto 4, 3) := by decide +kernel
theorem dn_Tokens_kindAt_25 : decode bn_Tokens_kindAt 25 = .ok (.iconst (-1), 1) := by decide +kernel
theorem dn_Tokens_kindAt_26 : decode bn_Tokens_kindAt 26 = .ok (.ireturn, 1) := by decide +kernel
theorem dn_Tokens_misfit_0 : decode bn_Tokens_misfit 0 = .ok (.aload_n 0, 1) := by decide +kernel
theorem dn_Tokens_misfit_1 : decode bn_Tokens_misfit 1 = .ok (.getfield 39, 3) := by decide +kernel
theorem dn_Tokens_misfit_4 : decode bn_Tokens_misfit 4 = .ok (.iconst 1, 1) := by decide +kernel
theorem dn_Tokens_misfit_5 : decode bn_Tokens_misfit 5 = .ok (.if_icmp .ne 7, 3) := by decide +kernel
theorem dn_Tokens_misfit_8 : decode bn_Tokens_misfit 8 = .ok (.iconst 1, 1) := by decide +kernel
theorem dn_Tokens_misfit_9 : decode bn_Tokens_misfit 9 = .ok (.goto 4, 3) := by decide +kernel
theorem dn_Tokens_misfit_12 : decode bn_Tokens_misfit 12 = .ok (.iconst 2, 1) := by decide +kernel
theorem dn_Tokens_misfit_13 : decode bn_Tokens_misfit 13 = .ok (.ireturn, 1) := by decide +kernel
theorem dn_Tokens_need_0 : decode bn_Tokens_need 0 = .ok (.aload_n 0, 1) := by decide +kernel
theorem dn_Tokens_need_1 : decode bn_Tokens_need 1 = .ok (.getfield 39, 3) := by decide +kernel
theorem dn_Tokens_need_4 : decode bn_Tokens_need 4 = .ok (.iload_n 1, 1) := by decide +kernel
theorem dn_Tokens_need_5 : decode bn_Tokens_need 5 = .ok (.if_icmp .ne 10, 3) := by decide +kernel
theorem dn_Tokens_need_8 : decode bn_Tokens_need 8 = .ok (.aload_n 0, 1) := by decide +kernel
theorem dn_Tokens_need_9 : decode bn_Tokens_need 9 = .ok (.invokevirtual 32, 3) := by decide +kernel
theorem dn_Tokens_need_12 : decode bn_Tokens_need 12 = .ok (.goto 11, 3) := by decide +kernel
theorem dn_Tokens_need_15 : decode bn_Tokens_need 15 = .ok (.aload_n 0, 1) := by decide +kernel
theorem dn_Tokens_need_16 : decode bn_Tokens_need 16 = .ok (.aload_n 0, 1) := by decide +kernel
theorem dn_Tokens_need_17 : decode bn_Tokens_need 17 = .ok (.invokevirtual 52, 3) := by decide +kernel
theorem dn_Tokens_need_20 : decode bn_Tokens_need 20 = .ok (.invokevirtual 56, 3) := by decide +kernel
theorem dn_Tokens_need_23 : decode bn_Tokens_need 23 = .ok (.return_, 1) := by decide +kernel
theorem dn_Tokens_open_0 : decode bn_Tokens_open 0 = .ok (.aload_n 0, 1) := by decide +kernel
theorem dn_Tokens_open_1 : decode bn_Tokens_open 1 = .ok (.getfield 39, 3) := by decide +kernel
theorem dn_Tokens_open_4 : decode bn_Tokens_open 4 = .ok (.iload_n 1, 1) := by decide +kernel
theorem dn_Tokens_open_5 : decode bn_Tokens_open 5 = .ok (.if_icmp .eq 14, 3) := by decide +kernel
theorem dn_Tokens_open_8 : decode bn_Tokens_open 8 = .ok (.aload_n 0, 1) := by decide +kernel
theorem dn_Tokens_open_9 : decode bn_Tokens_open 9 = .ok (.aload_n 0, 1) := by decide +kernel
theorem dn_Tokens_open_10 : decode bn_Tokens_open 10 = .ok (.invokevirtual 52, 3) := by decide +kernel
theorem dn_Tokens_open_13 : decode bn_Tokens_open 13 = .ok (.invokevirtual 56, 3) := by decide +kernel
theorem dn_Tokens_open_16 : decode bn_Tokens_open 16 = .ok (.goto 34, 3) := by decide +kernel
theorem dn_Tokens_open_19 : decode bn_Tokens_open 19 = .ok (.aload_n 0, 1) := by decide +kernel
theorem dn_Tokens_open_20 : decode bn_Tokens_open 20 = .ok (.getfield 23, 3) := by decide +kernel
theorem dn_Tokens_open_23 : decode bn_Tokens_open 23 = .ok (.bipush 60, 2) := by decide +kernel
theorem dn_Tokens_open_25 : decode bn_Tokens_open 25 = .ok (.if_icmp .lt 11, 3) := by decide +kernel
theorem dn_Tokens_open_28 : decode bn_Tokens_open 28 = .ok (.aload_n 0, 1) := by decide +kernel
theorem dn_Tokens_open_29 : decode bn_Tokens_open 29 = .ok (.iconst 3, 1) := by decide +kernel
theorem dn_Tokens_open_30 : decode bn_Tokens_open 30 = .ok (.invokevirtual 56, 3) := by decide +kernel
theorem dn_Tokens_open_33 : decode bn_Tokens_open 33 = .ok (.goto 17, 3) := by decide +kernel
theorem dn_Tokens_open_36 : decode bn_Tokens_open 36 = .ok (.aload_n 0, 1) := by decide +kernel
theorem dn_Tokens_open_37 : decode bn_Tokens_open 37 = .ok (.dup, 1) := by decide +kernel
theorem dn_Tokens_open_38 : decode bn_Tokens_open 38 = .ok (.getfield 23, 3) := by decide +kernel
theorem dn_Tokens_open_41 : decode bn_Tokens_open 41 = .ok (.iconst 1, 1) := by decide +kernel
theorem dn_Tokens_open_42 : decode bn_Tokens_open 42 = .ok (.iadd, 1) := by decide +kernel
theorem dn_Tokens_open_43 : decode bn_Tokens_open 43 = .ok (.putfield 23, 3) := by decide +kernel
theorem dn_Tokens_open_46 : decode bn_Tokens_open 46 = .ok (.aload_n 0, 1) := by decide +kernel
theorem dn_Tokens_open_47 : decode bn_Tokens_open 47 = .ok (.invokevirtual 32, 3) := by decide +kernel
theorem dn_Tokens_open_50 : decode bn_Tokens_open 50 = .ok (.return_, 1) := by decide +kernel
theorem dn_Tokens_refuse_0 : decode bn_Tokens_refuse 0 = .ok (.aload_n 0, 1) := by decide +kernel
theorem dn_Tokens_refuse_1 : decode bn_Tokens_refuse 1 = .ok (.aload_n 0, 1) := by decide +kernel
theorem dn_Tokens_refuse_2 : decode bn_Tokens_refuse 2 = .ok (.invokevirtual 52, 3) := by decide +kernel
theorem dn_Tokens_refuse_5 : decode bn_Tokens_refuse 5 = .ok (.invokevirtual 56, 3) := by decide +kernel
theorem dn_Tokens_refuse_8 : decode bn_Tokens_refuse 8 = .ok (.return_, 1) := by decide +kernel
theorem dn_Tokens_shut_0 : decode bn_Tokens_shut 0 = .ok (.aload_n 0, 1) := by decide +kernel
theorem dn_Tokens_shut_1 : decode bn_Tokens_shut 1 = .ok (.getfield 39, 3) := by decide +kernel
theorem dn_Tokens_shut_4 : decode bn_Tokens_shut 4 = .ok (.iload_n 1, 1) := by decide +kernel
theorem dn_Tokens_shut_5 : decode bn_Tokens_shut 5 = .ok (.if_icmp .ne 10, 3) := by decide +kernel
theorem dn_Tokens_shut_8 : decode bn_Tokens_shut 8 = .ok (.aload_n 0, 1) := by decide +kernel
theorem dn_Tokens_shut_9 : decode bn_Tokens_shut 9 = .ok (.invokevirtual 32, 3) := by decide +kernel
theorem dn_Tokens_shut_12 : decode bn_Tokens_shut 12 = .ok (.goto 11, 3) := by decide +kernel
theorem dn_Tokens_shut_15 : decode bn_Tokens_shut 15 = .ok (.aload_n 0, 1) := by decide +kernel
theorem dn_Tokens_shut_16 : decode bn_Tokens_shut 16 = .ok (.aload_n 0, 1) := by decide +kernel
theorem dn_Tokens_shut_17 : decode bn_Tokens_shut 17 = .ok (.invokevirtual 52, 3) := by decide +kernel
theorem dn_Tokens_shut_20 : decode bn_Tokens_shut 20 = .ok (.invokevirtual 56, 3) := by decide +kernel
theorem dn_Tokens_shut_23 : decode bn_Tokens_shut 23 = .ok (.aload_n 0, 1) := by decide +kernel
theorem dn_Tokens_shut_24 : decode bn_Tokens_shut 24 = .ok (.dup, 1) := by decide +kernel
theorem dn_Tokens_shut_25 : decode bn_Tokens_shut 25 = .ok (.getfield 23, 3) := by decide +kernel
theorem dn_Tokens_shut_28 : decode bn_Tokens_shut 28 = .ok (.iconst 1, 1) := by decide +kernel
theorem dn_Tokens_shut_29 : decode bn_Tokens_shut 29 = .ok (.isub, 1) := by decide +kernel
theorem dn_Tokens_shut_30 : decode bn_Tokens_shut 30 = .ok (.putfield 23, 3) := by decide +kernel
theorem dn_Tokens_shut_33 : decode bn_Tokens_shut 33 = .ok (.return_, 1) := by decide +kernel
theorem dn_Tokens_shutQuietly_0 : decode bn_Tokens_shutQuietly 0 = .ok (.aload_n 0, 1) := by decide +kernel
theorem dn_Tokens_shutQuietly_1 : decode bn_Tokens_shutQuietly 1 = .ok (.dup, 1) := by decide +kernel
theorem dn_Tokens_shutQuietly_2 : decode bn_Tokens_shutQuietly 2 = .ok (.getfield 23, 3) := by decide +kernel
theorem dn_Tokens_shutQuietly_5 : decode bn_Tokens_shutQuietly 5 = .ok (.iconst 1, 1) := by decide +kernel
theorem dn_Tokens_shutQuietly_6 : decode bn_Tokens_shutQuietly 6 = .ok (.isub, 1) := by decide +kernel
theorem dn_Tokens_shutQuietly_7 : decode bn_Tokens_shutQuietly 7 = .ok (.putfield 23, 3) := by decide +kernel
theorem dn_Tokens_shutQuietly_10 : decode bn_Tokens_shutQuietly 10 = .ok (.return_, 1) := by decide +kernel
theorem dn_Tokens_start_0 : decode bn_Tokens_start 0 = .ok (.aload_n 0, 1) := by decide +kernel
theorem dn_Tokens_start_1 : decode bn_Tokens_start 1 = .ok (.iconst (-1), 1) := by decide +kernel
theorem dn_Tokens_start_2 : decode bn_Tokens_start 2 = .ok (.putfield 20, 3) := by decide +kernel
theorem dn_Tokens_start_5 : decode bn_Tokens_start 5 = .ok (.aload_n 0, 1) := by decide +kernel
theorem dn_Tokens_start_6 : decode bn_Tokens_start 6 = .ok (.iconst 0, 1) := by decide +kernel
theorem dn_Tokens_start_7 : decode bn_Tokens_start 7 = .ok (.putfield 23, 3) := by decide +kernel
theorem dn_Tokens_start_10 : decode bn_Tokens_start 10 = .ok (.aload_n 0, 1) := by decide +kernel
theorem dn_Tokens_start_11 : decode bn_Tokens_start 11 = .ok (.iconst 0, 1) := by decide +kernel
theorem dn_Tokens_start_12 : decode bn_Tokens_start 12 = .ok (.putfield 26, 3) := by decide +kernel
theorem dn_Tokens_start_15 : decode bn_Tokens_start 15 = .ok (.aload_n 0, 1) := by decide +kernel
theorem dn_Tokens_start_16 : decode bn_Tokens_start 16 = .ok (.iconst (-1), 1) := by decide +kernel
theorem dn_Tokens_start_17 : decode bn_Tokens_start 17 = .ok (.putfield 29, 3) := by decide +kernel
theorem dn_Tokens_start_20 : decode bn_Tokens_start 20 = .ok (.aload_n 0, 1) := by decide +kernel
theorem dn_Tokens_start_21 : decode bn_Tokens_start 21 = .ok (.invokevirtual 32, 3) := by decide +kernel
theorem dn_Tokens_start_24 : decode bn_Tokens_start 24 = .ok (.return_, 1) := by decide +kernel
theorem dn_Tokens_stop_0 : decode bn_Tokens_stop 0 = .ok (.aload_n 0, 1) := by decide +kernel
theorem dn_Tokens_stop_1 : decode bn_Tokens_stop 1 = .ok (.getfield 26, 3) := by decide +kernel
theorem dn_Tokens_stop_4 : decode bn_Tokens_stop 4 = .ok (.ifCond .eq 4, 3) := by decide +kernel
theorem dn_Tokens_stop_7 : decode bn_Tokens_stop 7 = .ok (.return_, 1) := by decide +kernel
theorem dn_Tokens_stop_8 : decode bn_Tokens_stop 8 = .ok (.aload_n 0, 1) := by decide +kernel
theorem dn_Tokens_stop_9 : decode bn_Tokens_stop 9 = .ok (.iload_n 1, 1) := by decide +kernel
theorem dn_Tokens_stop_10 : decode bn_Tokens_stop 10 = .ok (.putfield 26, 3) := by decide +kernel
theorem dn_Tokens_stop_13 : decode bn_Tokens_stop 13 = .ok (.aload_n 0, 1) := by decide +kernel
theorem dn_Tokens_stop_14 : decode bn_Tokens_stop 14 = .ok (.aload_n 0, 1) := by decide +kernel
theorem dn_Tokens_stop_15 : decode bn_Tokens_stop 15 = .ok (.getfield 43, 3) := by decide +kernel
theorem dn_Tokens_stop_18 : decode bn_Tokens_stop 18 = .ok (.putfield 29, 3) := by decide +kernel
theorem dn_Tokens_stop_21 : decode bn_Tokens_stop 21 = .ok (.aload_n 0, 1) := by decide +kernel
theorem dn_Tokens_stop_22 : decode bn_Tokens_stop 22 = .ok (.iconst (-1), 1) := by decide +kernel
theorem dn_Tokens_stop_23 : decode bn_Tokens_stop 23 = .ok (.putfield 39, 3) := by decide +kernel
theorem dn_Tokens_stop_26 : decode bn_Tokens_stop 26 = .ok (.return_, 1) := by decide +kernel
theorem dn_Tokens_take_0 : decode bn_Tokens_take 0 = .ok (.aload_n 0, 1) := by decide +kernel
theorem dn_Tokens_take_1 : decode bn_Tokens_take 1 = .ok (.getfield 26, 3) := by decide +kernel
theorem dn_Tokens_take_4 : decode bn_Tokens_take 4 = .ok (.ifCond .ne 16, 3) := by decide +kernel
theorem dn_Tokens_take_7 : decode bn_Tokens_take 7 = .ok (.aload_n 0, 1) := by decide +kernel
theorem dn_Tokens_take_8 : decode bn_Tokens_take 8 = .ok (.getfield 20, 3) := by decide +kernel
theorem dn_Tokens_take_11 : decode bn_Tokens_take 11 = .ok (.iconst 1, 1) := by decide +kernel
theorem dn_Tokens_take_12 : decode bn_Tokens_take 12 = .ok (.iadd, 1) := by decide +kernel
theorem dn_Tokens_take_13 : decode bn_Tokens_take 13 = .ok (.aload_n 0, 1) := by decide +kernel
theorem dn_Tokens_take_14 : decode bn_Tokens_take 14 = .ok (.getfield 16, 3) := by decide +kernel
theorem dn_Tokens_take_17 : decode bn_Tokens_take 17 = .ok (.if_icmp .lt 4, 3) := by decide +kernel
theorem dn_Tokens_take_20 : decode bn_Tokens_take 20 = .ok (.return_, 1) := by decide +kernel
theorem dn_Tokens_take_21 : decode bn_Tokens_take 21 = .ok (.aload_n 0, 1) := by decide +kernel
theorem dn_Tokens_take_22 : decode bn_Tokens_take 22 = .ok (.dup, 1) := by decide +kernel
theorem dn_Tokens_take_23 : decode bn_Tokens_take 23 = .ok (.getfield 20, 3) := by decide +kernel
theorem dn_Tokens_take_26 : decode bn_Tokens_take 26 = .ok (.iconst 1, 1) := by decide +kernel
theorem dn_Tokens_take_27 : decode bn_Tokens_take 27 = .ok (.iadd, 1) := by decide +kernel
theorem dn_Tokens_take_28 : decode bn_Tokens_take 28 = .ok (.putfield 20, 3) := by decide +kernel
theorem dn_Tokens_take_31 : decode bn_Tokens_take 31 = .ok (.aload_n 0, 1) := by decide +kernel
theorem dn_Tokens_take_32 : decode bn_Tokens_take 32 = .ok (.aload_n 0, 1) := by decide +kernel
theorem dn_Tokens_take_33 : decode bn_Tokens_take 33 = .ok (.aload_n 0, 1) := by decide +kernel
theorem dn_Tokens_take_34 : decode bn_Tokens_take 34 = .ok (.getfield 20, 3) := by decide +kernel
theorem dn_Tokens_take_37 : decode bn_Tokens_take 37 = .ok (.invokevirtual 35, 3) := by decide +kernel
theorem dn_Tokens_take_40 : decode bn_Tokens_take 40 = .ok (.putfield 39, 3) := by decide +kernel
theorem dn_Tokens_take_43 : decode bn_Tokens_take 43 = .ok (.aload_n 0, 1) := by decide +kernel
theorem dn_Tokens_take_44 : decode bn_Tokens_take 44 = .ok (.aload_n 0, 1) := by decide +kernel
theorem dn_Tokens_take_45 : decode bn_Tokens_take 45 = .ok (.getfield 10, 3) := by decide +kernel
theorem dn_Tokens_take_48 : decode bn_Tokens_take 48 = .ok (.aload_n 0, 1) := by decide +kernel
theorem dn_Tokens_take_49 : decode bn_Tokens_take 49 = .ok (.getfield 20, 3) := by decide +kernel
theorem dn_Tokens_take_52 : decode bn_Tokens_take 52 = .ok (.laload, 1) := by decide +kernel
theorem dn_Tokens_take_53 : decode bn_Tokens_take 53 = .ok (.bipush 20, 2) := by decide +kernel
theorem dn_Tokens_take_55 : decode bn_Tokens_take 55 = .ok (.lushr, 1) := by decide +kernel
theorem dn_Tokens_take_56 : decode bn_Tokens_take 56 = .ok (.l2i, 1) := by decide +kernel
theorem dn_Tokens_take_57 : decode bn_Tokens_take 57 = .ok (.ldc 42, 2) := by decide +kernel
theorem dn_Tokens_take_59 : decode bn_Tokens_take 59 = .ok (.iand, 1) := by decide +kernel
theorem dn_Tokens_take_60 : decode bn_Tokens_take 60 = .ok (.putfield 43, 3) := by decide +kernel
theorem dn_Tokens_take_63 : decode bn_Tokens_take 63 = .ok (.aload_n 0, 1) := by decide +kernel
theorem dn_Tokens_take_64 : decode bn_Tokens_take 64 = .ok (.aload_n 0, 1) := by decide +kernel
theorem dn_Tokens_take_65 : decode bn_Tokens_take 65 = .ok (.aload_n 0, 1) := by decide +kernel
theorem dn_Tokens_take_66 : decode bn_Tokens_take 66 = .ok (.getfield 20, 3) := by decide +kernel
theorem dn_Tokens_take_69 : decode bn_Tokens_take 69 = .ok (.invokevirtual 46, 3) := by decide +kernel
theorem dn_Tokens_take_72 : decode bn_Tokens_take 72 = .ok (.putfield 49, 3) := by decide +kernel
theorem dn_Tokens_take_75 : decode bn_Tokens_take 75 = .ok (.return_, 1) := by decide +kernel
