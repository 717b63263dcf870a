/-! Names of the reference. -/
theorem wn_1_13 : (Jvm.Cond.initialized "CircuitCyclesModel") ∈ xw_G := xw_c1 (List.mem_of_getElem? (i := 13) rfl) rfl
theorem wn_1_82 : (Jvm.Cond.arrayClass Jvm.ClassFile.FieldType.long) ∈ xw_G := xw_c1 (List.mem_of_getElem? (i := 82) rfl) rfl
theorem wn_1_119 : (Jvm.Cond.arrayClass Jvm.ClassFile.FieldType.int) ∈ xw_G := xw_c1 (List.mem_of_getElem? (i := 119) rfl) rfl
theorem wn_8_73 : (Jvm.Cond.fieldLink "CircuitCyclesModel" (192 : Nat) "CircuitCyclesModel" "thrown" "I") ∈ xw_G := xw_c8 (List.mem_of_getElem? (i := 73) rfl) rfl
theorem wn_8_74 : (Jvm.Cond.fieldLink "CircuitCyclesModel" (8 : Nat) "CircuitCyclesModel" "tape" "[B") ∈ xw_G := xw_c8 (List.mem_of_getElem? (i := 74) rfl) rfl
theorem wn_8_75 : (Jvm.Cond.fieldLink "CircuitCyclesModel" (196 : Nat) "CircuitCyclesModel" "size" "I") ∈ xw_G := xw_c8 (List.mem_of_getElem? (i := 75) rfl) rfl
theorem wn_8_76 : (Jvm.Cond.fieldLink "CircuitCyclesModel" (542 : Nat) "CircuitCyclesModel" "fault" "I") ∈ xw_G := xw_c8 (List.mem_of_getElem? (i := 76) rfl) rfl
theorem wn_8_77 : (Jvm.Cond.fieldLink "CircuitCyclesModel" (15 : Nat) "CircuitCyclesModel" "kinds" "[I") ∈ xw_G := xw_c8 (List.mem_of_getElem? (i := 77) rfl) rfl
theorem wn_8_78 : (Jvm.Cond.fieldLink "CircuitCyclesModel" (19 : Nat) "CircuitCyclesModel" "begins" "[I") ∈ xw_G := xw_c8 (List.mem_of_getElem? (i := 78) rfl) rfl
theorem wn_8_79 : (Jvm.Cond.fieldLink "CircuitCyclesModel" (22 : Nat) "CircuitCyclesModel" "ends" "[I") ∈ xw_G := xw_c8 (List.mem_of_getElem? (i := 79) rfl) rfl
theorem wn_8_80 : (Jvm.Cond.fieldLink "CircuitCyclesModel" (231 : Nat) "CircuitCyclesModel" "tokens" "I") ∈ xw_G := xw_c8 (List.mem_of_getElem? (i := 80) rfl) rfl
theorem wn_8_81 : (Jvm.Cond.fieldLink "CircuitCyclesModel" (263 : Nat) "CircuitCyclesModel" "t" "I") ∈ xw_G := xw_c8 (List.mem_of_getElem? (i := 81) rfl) rfl
theorem wn_8_82 : (Jvm.Cond.fieldLink "CircuitCyclesModel" (257 : Nat) "CircuitCyclesModel" "wrong" "I") ∈ xw_G := xw_c8 (List.mem_of_getElem? (i := 82) rfl) rfl
theorem wn_8_83 : (Jvm.Cond.fieldLink "CircuitCyclesModel" (260 : Nat) "CircuitCyclesModel" "wrongAt" "I") ∈ xw_G := xw_c8 (List.mem_of_getElem? (i := 83) rfl) rfl
theorem wn_8_84 : (Jvm.Cond.fieldLink "CircuitCyclesModel" (276 : Nat) "CircuitCyclesModel" "deep" "I") ∈ xw_G := xw_c8 (List.mem_of_getElem? (i := 84) rfl) rfl
theorem wn_8_85 : (Jvm.Cond.fieldLink "CircuitCyclesModel" (336 : Nat) "CircuitCyclesModel" "modules" "I") ∈ xw_G := xw_c8 (List.mem_of_getElem? (i := 85) rfl) rfl
theorem wn_8_86 : (Jvm.Cond.fieldLink "CircuitCyclesModel" (25 : Nat) "CircuitCyclesModel" "moduleName" "[I") ∈ xw_G := xw_c8 (List.mem_of_getElem? (i := 86) rfl) rfl
theorem wn_8_87 : (Jvm.Cond.fieldLink "CircuitCyclesModel" (28 : Nat) "CircuitCyclesModel" "firstSignal" "[I") ∈ xw_G := xw_c8 (List.mem_of_getElem? (i := 87) rfl) rfl
theorem wn_8_88 : (Jvm.Cond.fieldLink "CircuitCyclesModel" (31 : Nat) "CircuitCyclesModel" "firstInstance" "[I") ∈ xw_G := xw_c8 (List.mem_of_getElem? (i := 88) rfl) rfl
theorem wn_8_89 : (Jvm.Cond.fieldLink "CircuitCyclesModel" (34 : Nat) "CircuitCyclesModel" "firstAssert" "[I") ∈ xw_G := xw_c8 (List.mem_of_getElem? (i := 89) rfl) rfl
theorem wn_8_90 : (Jvm.Cond.fieldLink "CircuitCyclesModel" (37 : Nat) "CircuitCyclesModel" "firstAlways" "[I") ∈ xw_G := xw_c8 (List.mem_of_getElem? (i := 90) rfl) rfl
theorem wn_8_91 : (Jvm.Cond.fieldLink "CircuitCyclesModel" (339 : Nat) "CircuitCyclesModel" "locals" "I") ∈ xw_G := xw_c8 (List.mem_of_getElem? (i := 91) rfl) rfl
theorem wn_8_92 : (Jvm.Cond.fieldLink "CircuitCyclesModel" (40 : Nat) "CircuitCyclesModel" "localName" "[I") ∈ xw_G := xw_c8 (List.mem_of_getElem? (i := 92) rfl) rfl
theorem wn_8_93 : (Jvm.Cond.fieldLink "CircuitCyclesModel" (43 : Nat) "CircuitCyclesModel" "localWidth" "[I") ∈ xw_G := xw_c8 (List.mem_of_getElem? (i := 93) rfl) rfl
theorem wn_8_94 : (Jvm.Cond.fieldLink "CircuitCyclesModel" (46 : Nat) "CircuitCyclesModel" "localKind" "[I") ∈ xw_G := xw_c8 (List.mem_of_getElem? (i := 94) rfl) rfl
theorem wn_8_95 : (Jvm.Cond.fieldLink "CircuitCyclesModel" (49 : Nat) "CircuitCyclesModel" "localFirst" "[J") ∈ xw_G := xw_c8 (List.mem_of_getElem? (i := 95) rfl) rfl
theorem wn_8_96 : (Jvm.Cond.fieldLink "CircuitCyclesModel" (53 : Nat) "CircuitCyclesModel" "driverKind" "[I") ∈ xw_G := xw_c8 (List.mem_of_getElem? (i := 96) rfl) rfl
theorem wn_8_97 : (Jvm.Cond.fieldLink "CircuitCyclesModel" (56 : Nat) "CircuitCyclesModel" "driverFrom" "[I") ∈ xw_G := xw_c8 (List.mem_of_getElem? (i := 97) rfl) rfl
theorem wn_8_98 : (Jvm.Cond.fieldLink "CircuitCyclesModel" (59 : Nat) "CircuitCyclesModel" "driverTo" "[I") ∈ xw_G := xw_c8 (List.mem_of_getElem? (i := 98) rfl) rfl
theorem wn_8_99 : (Jvm.Cond.fieldLink "CircuitCyclesModel" (62 : Nat) "CircuitCyclesModel" "setIn" "[I") ∈ xw_G := xw_c8 (List.mem_of_getElem? (i := 99) rfl) rfl
theorem wn_8_100 : (Jvm.Cond.fieldLink "CircuitCyclesModel" (346 : Nat) "CircuitCyclesModel" "items" "I") ∈ xw_G := xw_c8 (List.mem_of_getElem? (i := 100) rfl) rfl
theorem wn_8_101 : (Jvm.Cond.fieldLink "CircuitCyclesModel" (65 : Nat) "CircuitCyclesModel" "itemModule" "[I") ∈ xw_G := xw_c8 (List.mem_of_getElem? (i := 101) rfl) rfl
theorem wn_8_102 : (Jvm.Cond.fieldLink "CircuitCyclesModel" (68 : Nat) "CircuitCyclesModel" "itemName" "[I") ∈ xw_G := xw_c8 (List.mem_of_getElem? (i := 102) rfl) rfl
theorem wn_8_103 : (Jvm.Cond.fieldLink "CircuitCyclesModel" (71 : Nat) "CircuitCyclesModel" "firstLink" "[I") ∈ xw_G := xw_c8 (List.mem_of_getElem? (i := 103) rfl) rfl
theorem wn_8_104 : (Jvm.Cond.fieldLink "CircuitCyclesModel" (441 : Nat) "CircuitCyclesModel" "links" "I") ∈ xw_G := xw_c8 (List.mem_of_getElem? (i := 104) rfl) rfl
theorem wn_8_105 : (Jvm.Cond.fieldLink "CircuitCyclesModel" (74 : Nat) "CircuitCyclesModel" "linkPort" "[I") ∈ xw_G := xw_c8 (List.mem_of_getElem? (i := 105) rfl) rfl
theorem wn_8_106 : (Jvm.Cond.fieldLink "CircuitCyclesModel" (77 : Nat) "CircuitCyclesModel" "linkFrom" "[I") ∈ xw_G := xw_c8 (List.mem_of_getElem? (i := 106) rfl) rfl
theorem wn_8_107 : (Jvm.Cond.fieldLink "CircuitCyclesModel" (80 : Nat) "CircuitCyclesModel" "linkTo" "[I") ∈ xw_G := xw_c8 (List.mem_of_getElem? (i := 107) rfl) rfl
theorem wn_8_108 : (Jvm.Cond.fieldLink "CircuitCyclesModel" (453 : Nat) "CircuitCyclesModel" "asserts" "I") ∈ xw_G := xw_c8 (List.mem_of_getElem? (i := 108) rfl) rfl
theorem wn_8_109 : (Jvm.Cond.fieldLink "CircuitCyclesModel" (83 : Nat) "CircuitCyclesModel" "assertFrom" "[I") ∈ xw_G := xw_c8 (List.mem_of_getElem? (i := 109) rfl) rfl
theorem wn_8_110 : (Jvm.Cond.fieldLink "CircuitCyclesModel" (86 : Nat) "CircuitCyclesModel" "assertTo" "[I") ∈ xw_G := xw_c8 (List.mem_of_getElem? (i := 110) rfl) rfl
theorem wn_8_111 : (Jvm.Cond.fieldLink "CircuitCyclesModel" (435 : Nat) "CircuitCyclesModel" "always" "I") ∈ xw_G := xw_c8 (List.mem_of_getElem? (i := 111) rfl) rfl
theorem wn_8_112 : (Jvm.Cond.fieldLink "CircuitCyclesModel" (89 : Nat) "CircuitCyclesModel" "alwaysFrom" "[I") ∈ xw_G := xw_c8 (List.mem_of_getElem? (i := 112) rfl) rfl
theorem wn_8_113 : (Jvm.Cond.fieldLink "CircuitCyclesModel" (92 : Nat) "CircuitCyclesModel" "alwaysTo" "[I") ∈ xw_G := xw_c8 (List.mem_of_getElem? (i := 113) rfl) rfl
theorem wn_8_114 : (Jvm.Cond.fieldLink "CircuitCyclesModel" (95 : Nat) "CircuitCyclesModel" "code" "[I") ∈ xw_G := xw_c8 (List.mem_of_getElem? (i := 114) rfl) rfl
theorem wn_8_115 : (Jvm.Cond.fieldLink "CircuitCyclesModel" (349 : Nat) "CircuitCyclesModel" "laid" "I") ∈ xw_G := xw_c8 (List.mem_of_getElem? (i := 115) rfl) rfl
theorem wn_8_116 : (Jvm.Cond.fieldLink "CircuitCyclesModel" (98 : Nat) "CircuitCyclesModel" "numbers" "[J") ∈ xw_G := xw_c8 (List.mem_of_getElem? (i := 116) rfl) rfl
theorem wn_8_117 : (Jvm.Cond.fieldLink "CircuitCyclesModel" (352 : Nat) "CircuitCyclesModel" "numberCount" "I") ∈ xw_G := xw_c8 (List.mem_of_getElem? (i := 117) rfl) rfl
theorem wn_8_118 : (Jvm.Cond.fieldLink "CircuitCyclesModel" (101 : Nat) "CircuitCyclesModel" "moduleCost" "[J") ∈ xw_G := xw_c8 (List.mem_of_getElem? (i := 118) rfl) rfl
theorem wn_8_119 : (Jvm.Cond.fieldLink "CircuitCyclesModel" (104 : Nat) "CircuitCyclesModel" "moduleInstances" "[J") ∈ xw_G := xw_c8 (List.mem_of_getElem? (i := 119) rfl) rfl
theorem wn_8_120 : (Jvm.Cond.fieldLink "CircuitCyclesModel" (107 : Nat) "CircuitCyclesModel" "moduleSignals" "[J") ∈ xw_G := xw_c8 (List.mem_of_getElem? (i := 120) rfl) rfl
theorem wn_8_121 : (Jvm.Cond.fieldLink "CircuitCyclesModel" (110 : Nat) "CircuitCyclesModel" "moduleBits" "[J") ∈ xw_G := xw_c8 (List.mem_of_getElem? (i := 121) rfl) rfl
theorem wn_8_122 : (Jvm.Cond.fieldLink "CircuitCyclesModel" (113 : Nat) "CircuitCyclesModel" "waitOp" "[I") ∈ xw_G := xw_c8 (List.mem_of_getElem? (i := 122) rfl) rfl
theorem wn_8_123 : (Jvm.Cond.fieldLink "CircuitCyclesModel" (116 : Nat) "CircuitCyclesModel" "waitAt" "[I") ∈ xw_G := xw_c8 (List.mem_of_getElem? (i := 123) rfl) rfl
theorem wn_8_124 : (Jvm.Cond.fieldLink "CircuitCyclesModel" (368 : Nat) "CircuitCyclesModel" "waits" "I") ∈ xw_G := xw_c8 (List.mem_of_getElem? (i := 124) rfl) rfl
theorem wn_8_125 : (Jvm.Cond.fieldLink "CircuitCyclesModel" (119 : Nat) "CircuitCyclesModel" "widths" "[I") ∈ xw_G := xw_c8 (List.mem_of_getElem? (i := 125) rfl) rfl
theorem wn_8_126 : (Jvm.Cond.fieldLink "CircuitCyclesModel" (380 : Nat) "CircuitCyclesModel" "widthCount" "I") ∈ xw_G := xw_c8 (List.mem_of_getElem? (i := 126) rfl) rfl
theorem wn_8_127 : (Jvm.Cond.fieldLink "CircuitCyclesModel" (545 : Nat) "CircuitCyclesModel" "there" "Z") ∈ xw_G := xw_c8 (List.mem_of_getElem? (i := 127) rfl) rfl
theorem wn_8_128 : (Jvm.Cond.fieldLink "CircuitCyclesModel" (122 : Nat) "CircuitCyclesModel" "text" "[B") ∈ xw_G := xw_c8 (List.mem_of_getElem? (i := 128) rfl) rfl
theorem wn_8_129 : (Jvm.Cond.fieldLink "CircuitCyclesModel" (494 : Nat) "CircuitCyclesModel" "instances" "I") ∈ xw_G := xw_c8 (List.mem_of_getElem? (i := 129) rfl) rfl
theorem wn_8_130 : (Jvm.Cond.fieldLink "CircuitCyclesModel" (125 : Nat) "CircuitCyclesModel" "instanceModule" "[I") ∈ xw_G := xw_c8 (List.mem_of_getElem? (i := 130) rfl) rfl
theorem wn_8_131 : (Jvm.Cond.fieldLink "CircuitCyclesModel" (128 : Nat) "CircuitCyclesModel" "instanceBase" "[I") ∈ xw_G := xw_c8 (List.mem_of_getElem? (i := 131) rfl) rfl
theorem wn_8_132 : (Jvm.Cond.fieldLink "CircuitCyclesModel" (131 : Nat) "CircuitCyclesModel" "instanceUp" "[I") ∈ xw_G := xw_c8 (List.mem_of_getElem? (i := 132) rfl) rfl
theorem wn_8_133 : (Jvm.Cond.fieldLink "CircuitCyclesModel" (134 : Nat) "CircuitCyclesModel" "instanceItem" "[I") ∈ xw_G := xw_c8 (List.mem_of_getElem? (i := 133) rfl) rfl
theorem wn_8_134 : (Jvm.Cond.fieldLink "CircuitCyclesModel" (137 : Nat) "CircuitCyclesModel" "stack" "[I") ∈ xw_G := xw_c8 (List.mem_of_getElem? (i := 134) rfl) rfl
theorem wn_8_135 : (Jvm.Cond.fieldLink "CircuitCyclesModel" (140 : Nat) "CircuitCyclesModel" "stackNext" "[I") ∈ xw_G := xw_c8 (List.mem_of_getElem? (i := 135) rfl) rfl
theorem wn_8_136 : (Jvm.Cond.fieldLink "CircuitCyclesModel" (497 : Nat) "CircuitCyclesModel" "signals" "I") ∈ xw_G := xw_c8 (List.mem_of_getElem? (i := 136) rfl) rfl
theorem wn_8_137 : (Jvm.Cond.fieldLink "CircuitCyclesModel" (143 : Nat) "CircuitCyclesModel" "signalLocal" "[I") ∈ xw_G := xw_c8 (List.mem_of_getElem? (i := 137) rfl) rfl
theorem wn_8_138 : (Jvm.Cond.fieldLink "CircuitCyclesModel" (146 : Nat) "CircuitCyclesModel" "signalInstance" "[I") ∈ xw_G := xw_c8 (List.mem_of_getElem? (i := 138) rfl) rfl
theorem wn_8_139 : (Jvm.Cond.fieldLink "CircuitCyclesModel" (149 : Nat) "CircuitCyclesModel" "ruleKind" "[I") ∈ xw_G := xw_c8 (List.mem_of_getElem? (i := 139) rfl) rfl
theorem wn_8_140 : (Jvm.Cond.fieldLink "CircuitCyclesModel" (152 : Nat) "CircuitCyclesModel" "ruleFrom" "[I") ∈ xw_G := xw_c8 (List.mem_of_getElem? (i := 140) rfl) rfl
theorem wn_8_141 : (Jvm.Cond.fieldLink "CircuitCyclesModel" (155 : Nat) "CircuitCyclesModel" "ruleTo" "[I") ∈ xw_G := xw_c8 (List.mem_of_getElem? (i := 141) rfl) rfl
theorem wn_8_142 : (Jvm.Cond.fieldLink "CircuitCyclesModel" (158 : Nat) "CircuitCyclesModel" "ruleFor" "[I") ∈ xw_G := xw_c8 (List.mem_of_getElem? (i := 142) rfl) rfl
theorem wn_8_143 : (Jvm.Cond.fieldLink "CircuitCyclesModel" (161 : Nat) "CircuitCyclesModel" "order" "[I") ∈ xw_G := xw_c8 (List.mem_of_getElem? (i := 143) rfl) rfl
theorem wn_8_144 : (Jvm.Cond.fieldLink "CircuitCyclesModel" (509 : Nat) "CircuitCyclesModel" "ordered" "I") ∈ xw_G := xw_c8 (List.mem_of_getElem? (i := 144) rfl) rfl
theorem wn_8_145 : (Jvm.Cond.fieldLink "CircuitCyclesModel" (164 : Nat) "CircuitCyclesModel" "ready" "[Z") ∈ xw_G := xw_c8 (List.mem_of_getElem? (i := 145) rfl) rfl
theorem wn_8_146 : (Jvm.Cond.fieldLink "CircuitCyclesModel" (168 : Nat) "CircuitCyclesModel" "met" "[Z") ∈ xw_G := xw_c8 (List.mem_of_getElem? (i := 146) rfl) rfl
theorem wn_8_147 : (Jvm.Cond.fieldLink "CircuitCyclesModel" (171 : Nat) "CircuitCyclesModel" "queue" "[I") ∈ xw_G := xw_c8 (List.mem_of_getElem? (i := 147) rfl) rfl
theorem wn_8_148 : (Jvm.Cond.fieldLink "CircuitCyclesModel" (557 : Nat) "CircuitCyclesModel" "modulesThere" "I") ∈ xw_G := xw_c8 (List.mem_of_getElem? (i := 148) rfl) rfl
theorem wn_8_149 : (Jvm.Cond.fieldLink "CircuitCyclesModel" (560 : Nat) "CircuitCyclesModel" "registerBits" "I") ∈ xw_G := xw_c8 (List.mem_of_getElem? (i := 149) rfl) rfl
theorem wn_8_150 : (Jvm.Cond.fieldLink "CircuitCyclesModel" (567 : Nat) "CircuitCyclesModel" "inputBits" "I") ∈ xw_G := xw_c8 (List.mem_of_getElem? (i := 150) rfl) rfl
theorem wn_8_151 : (Jvm.Cond.fieldLink "CircuitCyclesModel" (570 : Nat) "CircuitCyclesModel" "assertsThere" "I") ∈ xw_G := xw_c8 (List.mem_of_getElem? (i := 151) rfl) rfl
theorem wn_8_152 : (Jvm.Cond.fieldLink "CircuitCyclesModel" (563 : Nat) "CircuitCyclesModel" "costThere" "J") ∈ xw_G := xw_c8 (List.mem_of_getElem? (i := 152) rfl) rfl
theorem wn_8_153 : (Jvm.Cond.fieldLink "CircuitCyclesModel" (174 : Nat) "CircuitCyclesModel" "values" "[J") ∈ xw_G := xw_c8 (List.mem_of_getElem? (i := 153) rfl) rfl
theorem wn_8_154 : (Jvm.Cond.fieldLink "CircuitCyclesModel" (177 : Nat) "CircuitCyclesModel" "nexts" "[J") ∈ xw_G := xw_c8 (List.mem_of_getElem? (i := 154) rfl) rfl
theorem wn_8_155 : (Jvm.Cond.fieldLink "CircuitCyclesModel" (180 : Nat) "CircuitCyclesModel" "registers" "[J") ∈ xw_G := xw_c8 (List.mem_of_getElem? (i := 155) rfl) rfl
theorem wn_8_156 : (Jvm.Cond.fieldLink "CircuitCyclesModel" (183 : Nat) "CircuitCyclesModel" "inputs" "[J") ∈ xw_G := xw_c8 (List.mem_of_getElem? (i := 156) rfl) rfl
theorem wn_8_157 : (Jvm.Cond.fieldLink "CircuitCyclesModel" (186 : Nat) "CircuitCyclesModel" "pile" "[J") ∈ xw_G := xw_c8 (List.mem_of_getElem? (i := 157) rfl) rfl
theorem wn_8_158 : (Jvm.Cond.fieldLink "CircuitCyclesModel" (584 : Nat) "CircuitCyclesModel" "high" "I") ∈ xw_G := xw_c8 (List.mem_of_getElem? (i := 158) rfl) rfl
theorem wn_8_159 : (Jvm.Cond.fieldLink "CircuitCyclesModel" (605 : Nat) "CircuitCyclesModel" "cycle" "I") ∈ xw_G := xw_c8 (List.mem_of_getElem? (i := 159) rfl) rfl
theorem wn_8_160 : (Jvm.Cond.fieldLink "CircuitCyclesModel" (218 : Nat) "CircuitCyclesModel" "valueFits" "Z") ∈ xw_G := xw_c8 (List.mem_of_getElem? (i := 160) rfl) rfl
theorem wn_8_161 : (Jvm.Cond.fieldLink "CircuitCyclesModel" (536 : Nat) "CircuitCyclesModel" "tapeSize" "I") ∈ xw_G := xw_c8 (List.mem_of_getElem? (i := 161) rfl) rfl
theorem wn_8_162 : (Jvm.Cond.fieldLink "CircuitCyclesModel" (548 : Nat) "CircuitCyclesModel" "textSize" "I") ∈ xw_G := xw_c8 (List.mem_of_getElem? (i := 162) rfl) rfl
theorem wn_8_163 : (Jvm.Cond.fieldLink "CircuitCyclesModel" (189 : Nat) "CircuitCyclesModel" "src" "[B") ∈ xw_G := xw_c8 (List.mem_of_getElem? (i := 163) rfl) rfl
theorem wn_9_116 : (Jvm.Cond.methodLink "CircuitCyclesModel" (539 : Nat) ({ cls := "CircuitCyclesModel", name := "readSource", desc := "()V" } : Jvm.MethodName)) ∈ xw_G := xw_c9 (List.mem_of_getElem? (i := 116) rfl) rfl
theorem wn_9_118 : (Jvm.Cond.instanceMethod ({ cls := "CircuitCyclesModel", name := "readSource", desc := "()V" } : Jvm.MethodName)) ∈ xw_G := xw_c9 (List.mem_of_getElem? (i := 118) rfl) rfl
theorem wn_9_119 : (Jvm.Cond.code ({ cls := "CircuitCyclesModel", name := "readSource", desc := "()V" } : Jvm.MethodName) prog_14_method_82_code (1 : Nat) (Option.none : Option Jvm.ClassFile.FieldType)) ∈ xw_G := xw_c9 (List.mem_of_getElem? (i := 119) rfl) rfl
theorem wn_9_120 : (Jvm.Cond.methodLink "CircuitCyclesModel" (518 : Nat) ({ cls := "CircuitCyclesModel", name := "cutTokens", desc := "()V" } : Jvm.MethodName)) ∈ xw_G := xw_c9 (List.mem_of_getElem? (i := 120) rfl) rfl
theorem wn_9_122 : (Jvm.Cond.instanceMethod ({ cls := "CircuitCyclesModel", name := "cutTokens", desc := "()V" } : Jvm.MethodName)) ∈ xw_G := xw_c9 (List.mem_of_getElem? (i := 122) rfl) rfl
theorem wn_9_123 : (Jvm.Cond.code ({ cls := "CircuitCyclesModel", name := "cutTokens", desc := "()V" } : Jvm.MethodName) prog_14_method_16_code (4 : Nat) (Option.none : Option Jvm.ClassFile.FieldType)) ∈ xw_G := xw_c9 (List.mem_of_getElem? (i := 123) rfl) rfl
theorem wn_9_124 : (Jvm.Cond.methodLink "CircuitCyclesModel" (234 : Nat) ({ cls := "CircuitCyclesModel", name := "skip", desc := "(I)I" } : Jvm.MethodName)) ∈ xw_G := xw_c9 (List.mem_of_getElem? (i := 124) rfl) rfl
theorem wn_9_126 : (Jvm.Cond.instanceMethod ({ cls := "CircuitCyclesModel", name := "skip", desc := "(I)I" } : Jvm.MethodName)) ∈ xw_G := xw_c9 (List.mem_of_getElem? (i := 126) rfl) rfl
theorem wn_9_127 : (Jvm.Cond.code ({ cls := "CircuitCyclesModel", name := "skip", desc := "(I)I" } : Jvm.MethodName) prog_14_method_7_code (5 : Nat) (Option.some Jvm.ClassFile.FieldType.int)) ∈ xw_G := xw_c9 (List.mem_of_getElem? (i := 127) rfl) rfl
theorem wn_9_128 : (Jvm.Cond.methodLink "CircuitCyclesModel" (206 : Nat) ({ cls := "CircuitCyclesModel", name := "at", desc := "(I)I" } : Jvm.MethodName)) ∈ xw_G := xw_c9 (List.mem_of_getElem? (i := 128) rfl) rfl
theorem wn_9_130 : (Jvm.Cond.instanceMethod ({ cls := "CircuitCyclesModel", name := "at", desc := "(I)I" } : Jvm.MethodName)) ∈ xw_G := xw_c9 (List.mem_of_getElem? (i := 130) rfl) rfl
theorem wn_9_131 : (Jvm.Cond.code ({ cls := "CircuitCyclesModel", name := "at", desc := "(I)I" } : Jvm.MethodName) prog_14_method_3_code (2 : Nat) (Option.some Jvm.ClassFile.FieldType.int)) ∈ xw_G := xw_c9 (List.mem_of_getElem? (i := 131) rfl) rfl
theorem wn_9_132 : (Jvm.Cond.methodLink "CircuitCyclesModel" (237 : Nat) ({ cls := "CircuitCyclesModel", name := "token", desc := "(III)V" } : Jvm.MethodName)) ∈ xw_G := xw_c9 (List.mem_of_getElem? (i := 132) rfl) rfl
theorem wn_9_134 : (Jvm.Cond.instanceMethod ({ cls := "CircuitCyclesModel", name := "token", desc := "(III)V" } : Jvm.MethodName)) ∈ xw_G := xw_c9 (List.mem_of_getElem? (i := 134) rfl) rfl
theorem wn_9_135 : (Jvm.Cond.code ({ cls := "CircuitCyclesModel", name := "token", desc := "(III)V" } : Jvm.MethodName) prog_14_method_15_code (4 : Nat) (Option.none : Option Jvm.ClassFile.FieldType)) ∈ xw_G := xw_c9 (List.mem_of_getElem? (i := 135) rfl) rfl
theorem wn_9_136 : (Jvm.Cond.methodLink "CircuitCyclesModel" (199 : Nat) ({ cls := "CircuitCyclesModel", name := "isLetter", desc := "(I)Z" } : Jvm.MethodName)) ∈ xw_G := xw_c9 (List.mem_of_getElem? (i := 136) rfl) rfl
theorem wn_9_137 : (Jvm.Cond.static ({ cls := "CircuitCyclesModel", name := "isLetter", desc := "(I)Z" } : Jvm.MethodName)) ∈ xw_G := xw_c9 (List.mem_of_getElem? (i := 137) rfl) rfl
theorem wn_9_138 : (Jvm.Cond.code ({ cls := "CircuitCyclesModel", name := "isLetter", desc := "(I)Z" } : Jvm.MethodName) prog_14_method_5_code (1 : Nat) (Option.some Jvm.ClassFile.FieldType.boolean)) ∈ xw_G := xw_c9 (List.mem_of_getElem? (i := 138) rfl) rfl
theorem wn_9_139 : (Jvm.Cond.methodLink "CircuitCyclesModel" (228 : Nat) ({ cls := "CircuitCyclesModel", name := "isIn", desc := "(I)Z" } : Jvm.MethodName)) ∈ xw_G := xw_c9 (List.mem_of_getElem? (i := 139) rfl) rfl
theorem wn_9_140 : (Jvm.Cond.static ({ cls := "CircuitCyclesModel", name := "isIn", desc := "(I)Z" } : Jvm.MethodName)) ∈ xw_G := xw_c9 (List.mem_of_getElem? (i := 140) rfl) rfl
theorem wn_9_141 : (Jvm.Cond.code ({ cls := "CircuitCyclesModel", name := "isIn", desc := "(I)Z" } : Jvm.MethodName) prog_14_method_6_code (1 : Nat) (Option.some Jvm.ClassFile.FieldType.boolean)) ∈ xw_G := xw_c9 (List.mem_of_getElem? (i := 141) rfl) rfl
theorem wn_9_142 : (Jvm.Cond.methodLink "CircuitCyclesModel" (203 : Nat) ({ cls := "CircuitCyclesModel", name := "isDigit", desc := "(I)Z" } : Jvm.MethodName)) ∈ xw_G := xw_c9 (List.mem_of_getElem? (i := 142) rfl) rfl
theorem wn_9_143 : (Jvm.Cond.static ({ cls := "CircuitCyclesModel", name := "isDigit", desc := "(I)Z" } : Jvm.MethodName)) ∈ xw_G := xw_c9 (List.mem_of_getElem? (i := 143) rfl) rfl
theorem wn_9_144 : (Jvm.Cond.code ({ cls := "CircuitCyclesModel", name := "isDigit", desc := "(I)Z" } : Jvm.MethodName) prog_14_method_4_code (1 : Nat) (Option.some Jvm.ClassFile.FieldType.boolean)) ∈ xw_G := xw_c9 (List.mem_of_getElem? (i := 144) rfl) rfl
theorem wn_9_145 : (Jvm.Cond.methodLink "CircuitCyclesModel" (241 : Nat) ({ cls := "CircuitCyclesModel", name := "wordKind", desc := "(II)I" } : Jvm.MethodName)) ∈ xw_G := xw_c9 (List.mem_of_getElem? (i := 145) rfl) rfl
theorem wn_9_147 : (Jvm.Cond.instanceMethod ({ cls := "CircuitCyclesModel", name := "wordKind", desc := "(II)I" } : Jvm.MethodName)) ∈ xw_G := xw_c9 (List.mem_of_getElem? (i := 147) rfl) rfl
theorem wn_9_148 : (Jvm.Cond.code ({ cls := "CircuitCyclesModel", name := "wordKind", desc := "(II)I" } : Jvm.MethodName) prog_14_method_8_code (7 : Nat) (Option.some Jvm.ClassFile.FieldType.int)) ∈ xw_G := xw_c9 (List.mem_of_getElem? (i := 148) rfl) rfl
theorem wn_9_149 : (Jvm.Cond.fieldLink "CircuitCyclesModel" (210 : Nat) "CircuitCyclesModel" "WORDS" "[B") ∈ xw_G := xw_c9 (List.mem_of_getElem? (i := 149) rfl) rfl
theorem wn_9_151 : (Jvm.Cond.methodLink "CircuitCyclesModel" (245 : Nat) ({ cls := "CircuitCyclesModel", name := "numberEnd", desc := "(I)I" } : Jvm.MethodName)) ∈ xw_G := xw_c9 (List.mem_of_getElem? (i := 151) rfl) rfl
theorem wn_9_153 : (Jvm.Cond.instanceMethod ({ cls := "CircuitCyclesModel", name := "numberEnd", desc := "(I)I" } : Jvm.MethodName)) ∈ xw_G := xw_c9 (List.mem_of_getElem? (i := 153) rfl) rfl
theorem wn_9_154 : (Jvm.Cond.code ({ cls := "CircuitCyclesModel", name := "numberEnd", desc := "(I)I" } : Jvm.MethodName) prog_14_method_12_code (3 : Nat) (Option.some Jvm.ClassFile.FieldType.int)) ∈ xw_G := xw_c9 (List.mem_of_getElem? (i := 154) rfl) rfl
theorem wn_9_155 : (Jvm.Cond.methodLink "CircuitCyclesModel" (248 : Nat) ({ cls := "CircuitCyclesModel", name := "numberKind", desc := "(II)I" } : Jvm.MethodName)) ∈ xw_G := xw_c9 (List.mem_of_getElem? (i := 155) rfl) rfl
theorem wn_9_157 : (Jvm.Cond.instanceMethod ({ cls := "CircuitCyclesModel", name := "numberKind", desc := "(II)I" } : Jvm.MethodName)) ∈ xw_G := xw_c9 (List.mem_of_getElem? (i := 157) rfl) rfl
theorem wn_9_158 : (Jvm.Cond.code ({ cls := "CircuitCyclesModel", name := "numberKind", desc := "(II)I" } : Jvm.MethodName) prog_14_method_11_code (11 : Nat) (Option.some Jvm.ClassFile.FieldType.int)) ∈ xw_G := xw_c9 (List.mem_of_getElem? (i := 158) rfl) rfl
theorem wn_9_159 : (Jvm.Cond.methodLink "CircuitCyclesModel" (222 : Nat) ({ cls := "CircuitCyclesModel", name := "read", desc := "(IIII)J" } : Jvm.MethodName)) ∈ xw_G := xw_c9 (List.mem_of_getElem? (i := 159) rfl) rfl
theorem wn_9_161 : (Jvm.Cond.instanceMethod ({ cls := "CircuitCyclesModel", name := "read", desc := "(IIII)J" } : Jvm.MethodName)) ∈ xw_G := xw_c9 (List.mem_of_getElem? (i := 161) rfl) rfl
theorem wn_9_162 : (Jvm.Cond.code ({ cls := "CircuitCyclesModel", name := "read", desc := "(IIII)J" } : Jvm.MethodName) prog_14_method_10_code (11 : Nat) (Option.some Jvm.ClassFile.FieldType.long)) ∈ xw_G := xw_c9 (List.mem_of_getElem? (i := 162) rfl) rfl
theorem wn_9_163 : (Jvm.Cond.methodLink "CircuitCyclesModel" (213 : Nat) ({ cls := "CircuitCyclesModel", name := "digit", desc := "(I)I" } : Jvm.MethodName)) ∈ xw_G := xw_c9 (List.mem_of_getElem? (i := 163) rfl) rfl
theorem wn_9_164 : (Jvm.Cond.static ({ cls := "CircuitCyclesModel", name := "digit", desc := "(I)I" } : Jvm.MethodName)) ∈ xw_G := xw_c9 (List.mem_of_getElem? (i := 164) rfl) rfl
theorem wn_9_165 : (Jvm.Cond.code ({ cls := "CircuitCyclesModel", name := "digit", desc := "(I)I" } : Jvm.MethodName) prog_14_method_9_code (1 : Nat) (Option.some Jvm.ClassFile.FieldType.int)) ∈ xw_G := xw_c9 (List.mem_of_getElem? (i := 165) rfl) rfl
theorem wn_9_166 : (Jvm.Cond.constantLong "CircuitCyclesModel" (216 : Nat) (4294967295 : Int64)) ∈ xw_G := xw_c9 (List.mem_of_getElem? (i := 166) rfl) rfl
theorem wn_9_167 : (Jvm.Cond.constantLong "CircuitCyclesModel" (226 : Nat) (64 : Int64)) ∈ xw_G := xw_c9 (List.mem_of_getElem? (i := 167) rfl) rfl
theorem wn_9_168 : (Jvm.Cond.methodLink "CircuitCyclesModel" (251 : Nat) ({ cls := "CircuitCyclesModel", name := "pair", desc := "(II)I" } : Jvm.MethodName)) ∈ xw_G := xw_c9 (List.mem_of_getElem? (i := 168) rfl) rfl
theorem wn_9_169 : (Jvm.Cond.static ({ cls := "CircuitCyclesModel", name := "pair", desc := "(II)I" } : Jvm.MethodName)) ∈ xw_G := xw_c9 (List.mem_of_getElem? (i := 169) rfl) rfl
theorem wn_9_170 : (Jvm.Cond.code ({ cls := "CircuitCyclesModel", name := "pair", desc := "(II)I" } : Jvm.MethodName) prog_14_method_13_code (2 : Nat) (Option.some Jvm.ClassFile.FieldType.int)) ∈ xw_G := xw_c9 (List.mem_of_getElem? (i := 170) rfl) rfl
theorem wn_9_171 : (Jvm.Cond.methodLink "CircuitCyclesModel" (254 : Nat) ({ cls := "CircuitCyclesModel", name := "isSign", desc := "(I)Z" } : Jvm.MethodName)) ∈ xw_G := xw_c9 (List.mem_of_getElem? (i := 171) rfl) rfl
theorem wn_9_172 : (Jvm.Cond.static ({ cls := "CircuitCyclesModel", name := "isSign", desc := "(I)Z" } : Jvm.MethodName)) ∈ xw_G := xw_c9 (List.mem_of_getElem? (i := 172) rfl) rfl
theorem wn_9_173 : (Jvm.Cond.code ({ cls := "CircuitCyclesModel", name := "isSign", desc := "(I)Z" } : Jvm.MethodName) prog_14_method_14_code (1 : Nat) (Option.some Jvm.ClassFile.FieldType.boolean)) ∈ xw_G := xw_c9 (List.mem_of_getElem? (i := 173) rfl) rfl
theorem wn_9_174 : (Jvm.Cond.methodLink "CircuitCyclesModel" (521 : Nat) ({ cls := "CircuitCyclesModel", name := "designGrammar", desc := "()V" } : Jvm.MethodName)) ∈ xw_G := xw_c9 (List.mem_of_getElem? (i := 174) rfl) rfl
theorem wn_9_176 : (Jvm.Cond.instanceMethod ({ cls := "CircuitCyclesModel", name := "designGrammar", desc := "()V" } : Jvm.MethodName)) ∈ xw_G := xw_c9 (List.mem_of_getElem? (i := 176) rfl) rfl
theorem wn_9_177 : (Jvm.Cond.code ({ cls := "CircuitCyclesModel", name := "designGrammar", desc := "()V" } : Jvm.MethodName) prog_14_method_39_code (2 : Nat) (Option.none : Option Jvm.ClassFile.FieldType)) ∈ xw_G := xw_c9 (List.mem_of_getElem? (i := 177) rfl) rfl
theorem wn_9_178 : (Jvm.Cond.methodLink "CircuitCyclesModel" (279 : Nat) ({ cls := "CircuitCyclesModel", name := "take", desc := "(I)V" } : Jvm.MethodName)) ∈ xw_G := xw_c9 (List.mem_of_getElem? (i := 178) rfl) rfl
theorem wn_9_180 : (Jvm.Cond.instanceMethod ({ cls := "CircuitCyclesModel", name := "take", desc := "(I)V" } : Jvm.MethodName)) ∈ xw_G := xw_c9 (List.mem_of_getElem? (i := 180) rfl) rfl
theorem wn_9_181 : (Jvm.Cond.code ({ cls := "CircuitCyclesModel", name := "take", desc := "(I)V" } : Jvm.MethodName) prog_14_method_23_code (2 : Nat) (Option.none : Option Jvm.ClassFile.FieldType)) ∈ xw_G := xw_c9 (List.mem_of_getElem? (i := 181) rfl) rfl
theorem wn_9_182 : (Jvm.Cond.methodLink "CircuitCyclesModel" (270 : Nat) ({ cls := "CircuitCyclesModel", name := "no", desc := "()V" } : Jvm.MethodName)) ∈ xw_G := xw_c9 (List.mem_of_getElem? (i := 182) rfl) rfl
theorem wn_9_184 : (Jvm.Cond.instanceMethod ({ cls := "CircuitCyclesModel", name := "no", desc := "()V" } : Jvm.MethodName)) ∈ xw_G := xw_c9 (List.mem_of_getElem? (i := 184) rfl) rfl
theorem wn_9_185 : (Jvm.Cond.code ({ cls := "CircuitCyclesModel", name := "no", desc := "()V" } : Jvm.MethodName) prog_14_method_22_code (1 : Nat) (Option.none : Option Jvm.ClassFile.FieldType)) ∈ xw_G := xw_c9 (List.mem_of_getElem? (i := 185) rfl) rfl
theorem wn_9_186 : (Jvm.Cond.methodLink "CircuitCyclesModel" (266 : Nat) ({ cls := "CircuitCyclesModel", name := "fail", desc := "(II)V" } : Jvm.MethodName)) ∈ xw_G := xw_c9 (List.mem_of_getElem? (i := 186) rfl) rfl
theorem wn_9_188 : (Jvm.Cond.instanceMethod ({ cls := "CircuitCyclesModel", name := "fail", desc := "(II)V" } : Jvm.MethodName)) ∈ xw_G := xw_c9 (List.mem_of_getElem? (i := 188) rfl) rfl
theorem wn_9_189 : (Jvm.Cond.code ({ cls := "CircuitCyclesModel", name := "fail", desc := "(II)V" } : Jvm.MethodName) prog_14_method_19_code (3 : Nat) (Option.none : Option Jvm.ClassFile.FieldType)) ∈ xw_G := xw_c9 (List.mem_of_getElem? (i := 189) rfl) rfl
theorem wn_9_190 : (Jvm.Cond.methodLink "CircuitCyclesModel" (293 : Nat) ({ cls := "CircuitCyclesModel", name := "open", desc := "(I)V" } : Jvm.MethodName)) ∈ xw_G := xw_c9 (List.mem_of_getElem? (i := 190) rfl) rfl
theorem wn_9_192 : (Jvm.Cond.instanceMethod ({ cls := "CircuitCyclesModel", name := "open", desc := "(I)V" } : Jvm.MethodName)) ∈ xw_G := xw_c9 (List.mem_of_getElem? (i := 192) rfl) rfl
theorem wn_9_193 : (Jvm.Cond.code ({ cls := "CircuitCyclesModel", name := "open", desc := "(I)V" } : Jvm.MethodName) prog_14_method_24_code (2 : Nat) (Option.none : Option Jvm.ClassFile.FieldType)) ∈ xw_G := xw_c9 (List.mem_of_getElem? (i := 193) rfl) rfl
theorem wn_9_194 : (Jvm.Cond.methodLink "CircuitCyclesModel" (273 : Nat) ({ cls := "CircuitCyclesModel", name := "is", desc := "(I)Z" } : Jvm.MethodName)) ∈ xw_G := xw_c9 (List.mem_of_getElem? (i := 194) rfl) rfl
theorem wn_9_196 : (Jvm.Cond.instanceMethod ({ cls := "CircuitCyclesModel", name := "is", desc := "(I)Z" } : Jvm.MethodName)) ∈ xw_G := xw_c9 (List.mem_of_getElem? (i := 196) rfl) rfl
theorem wn_9_197 : (Jvm.Cond.code ({ cls := "CircuitCyclesModel", name := "is", desc := "(I)Z" } : Jvm.MethodName) prog_14_method_21_code (2 : Nat) (Option.some Jvm.ClassFile.FieldType.boolean)) ∈ xw_G := xw_c9 (List.mem_of_getElem? (i := 197) rfl) rfl
theorem wn_9_198 : (Jvm.Cond.methodLink "CircuitCyclesModel" (326 : Nat) ({ cls := "CircuitCyclesModel", name := "portGrammar", desc := "()V" } : Jvm.MethodName)) ∈ xw_G := xw_c9 (List.mem_of_getElem? (i := 198) rfl) rfl
theorem wn_9_200 : (Jvm.Cond.instanceMethod ({ cls := "CircuitCyclesModel", name := "portGrammar", desc := "()V" } : Jvm.MethodName)) ∈ xw_G := xw_c9 (List.mem_of_getElem? (i := 200) rfl) rfl
theorem wn_9_201 : (Jvm.Cond.code ({ cls := "CircuitCyclesModel", name := "portGrammar", desc := "()V" } : Jvm.MethodName) prog_14_method_34_code (1 : Nat) (Option.none : Option Jvm.ClassFile.FieldType)) ∈ xw_G := xw_c9 (List.mem_of_getElem? (i := 201) rfl) rfl
theorem wn_9_202 : (Jvm.Cond.methodLink "CircuitCyclesModel" (311 : Nat) ({ cls := "CircuitCyclesModel", name := "rangeGrammar", desc := "()V" } : Jvm.MethodName)) ∈ xw_G := xw_c9 (List.mem_of_getElem? (i := 202) rfl) rfl
theorem wn_9_204 : (Jvm.Cond.instanceMethod ({ cls := "CircuitCyclesModel", name := "rangeGrammar", desc := "()V" } : Jvm.MethodName)) ∈ xw_G := xw_c9 (List.mem_of_getElem? (i := 204) rfl) rfl
theorem wn_9_205 : (Jvm.Cond.code ({ cls := "CircuitCyclesModel", name := "rangeGrammar", desc := "()V" } : Jvm.MethodName) prog_14_method_32_code (1 : Nat) (Option.none : Option Jvm.ClassFile.FieldType)) ∈ xw_G := xw_c9 (List.mem_of_getElem? (i := 205) rfl) rfl
theorem wn_9_206 : (Jvm.Cond.methodLink "CircuitCyclesModel" (305 : Nat) ({ cls := "CircuitCyclesModel", name := "shut", desc := "(I)V" } : Jvm.MethodName)) ∈ xw_G := xw_c9 (List.mem_of_getElem? (i := 206) rfl) rfl
theorem wn_9_208 : (Jvm.Cond.instanceMethod ({ cls := "CircuitCyclesModel", name := "shut", desc := "(I)V" } : Jvm.MethodName)) ∈ xw_G := xw_c9 (List.mem_of_getElem? (i := 208) rfl) rfl
theorem wn_9_209 : (Jvm.Cond.code ({ cls := "CircuitCyclesModel", name := "shut", desc := "(I)V" } : Jvm.MethodName) prog_14_method_25_code (2 : Nat) (Option.none : Option Jvm.ClassFile.FieldType)) ∈ xw_G := xw_c9 (List.mem_of_getElem? (i := 209) rfl) rfl
theorem wn_9_210 : (Jvm.Cond.methodLink "CircuitCyclesModel" (314 : Nat) ({ cls := "CircuitCyclesModel", name := "beginGrammar", desc := "()V" } : Jvm.MethodName)) ∈ xw_G := xw_c9 (List.mem_of_getElem? (i := 210) rfl) rfl
theorem wn_9_212 : (Jvm.Cond.instanceMethod ({ cls := "CircuitCyclesModel", name := "beginGrammar", desc := "()V" } : Jvm.MethodName)) ∈ xw_G := xw_c9 (List.mem_of_getElem? (i := 212) rfl) rfl
theorem wn_9_213 : (Jvm.Cond.code ({ cls := "CircuitCyclesModel", name := "beginGrammar", desc := "()V" } : Jvm.MethodName) prog_14_method_33_code (1 : Nat) (Option.none : Option Jvm.ClassFile.FieldType)) ∈ xw_G := xw_c9 (List.mem_of_getElem? (i := 213) rfl) rfl
theorem wn_9_214 : (Jvm.Cond.methodLink "CircuitCyclesModel" (286 : Nat) ({ cls := "CircuitCyclesModel", name := "kind", desc := "()I" } : Jvm.MethodName)) ∈ xw_G := xw_c9 (List.mem_of_getElem? (i := 214) rfl) rfl
theorem wn_9_216 : (Jvm.Cond.instanceMethod ({ cls := "CircuitCyclesModel", name := "kind", desc := "()I" } : Jvm.MethodName)) ∈ xw_G := xw_c9 (List.mem_of_getElem? (i := 216) rfl) rfl
theorem wn_9_217 : (Jvm.Cond.code ({ cls := "CircuitCyclesModel", name := "kind", desc := "()I" } : Jvm.MethodName) prog_14_method_20_code (1 : Nat) (Option.some Jvm.ClassFile.FieldType.int)) ∈ xw_G := xw_c9 (List.mem_of_getElem? (i := 217) rfl) rfl
theorem wn_9_218 : (Jvm.Cond.methodLink "CircuitCyclesModel" (329 : Nat) ({ cls := "CircuitCyclesModel", name := "itemGrammar", desc := "()V" } : Jvm.MethodName)) ∈ xw_G := xw_c9 (List.mem_of_getElem? (i := 218) rfl) rfl
theorem wn_9_220 : (Jvm.Cond.instanceMethod ({ cls := "CircuitCyclesModel", name := "itemGrammar", desc := "()V" } : Jvm.MethodName)) ∈ xw_G := xw_c9 (List.mem_of_getElem? (i := 220) rfl) rfl
theorem wn_9_221 : (Jvm.Cond.code ({ cls := "CircuitCyclesModel", name := "itemGrammar", desc := "()V" } : Jvm.MethodName) prog_14_method_37_code (2 : Nat) (Option.none : Option Jvm.ClassFile.FieldType)) ∈ xw_G := xw_c9 (List.mem_of_getElem? (i := 221) rfl) rfl
theorem wn_9_222 : (Jvm.Cond.methodLink "CircuitCyclesModel" (296 : Nat) ({ cls := "CircuitCyclesModel", name := "expGrammar", desc := "()V" } : Jvm.MethodName)) ∈ xw_G := xw_c9 (List.mem_of_getElem? (i := 222) rfl) rfl
theorem wn_9_224 : (Jvm.Cond.instanceMethod ({ cls := "CircuitCyclesModel", name := "expGrammar", desc := "()V" } : Jvm.MethodName)) ∈ xw_G := xw_c9 (List.mem_of_getElem? (i := 224) rfl) rfl
theorem wn_9_225 : (Jvm.Cond.code ({ cls := "CircuitCyclesModel", name := "expGrammar", desc := "()V" } : Jvm.MethodName) prog_14_method_28_code (1 : Nat) (Option.none : Option Jvm.ClassFile.FieldType)) ∈ xw_G := xw_c9 (List.mem_of_getElem? (i := 225) rfl) rfl
theorem wn_9_226 : (Jvm.Cond.methodLink "CircuitCyclesModel" (283 : Nat) ({ cls := "CircuitCyclesModel", name := "operandGrammar", desc := "()V" } : Jvm.MethodName)) ∈ xw_G := xw_c9 (List.mem_of_getElem? (i := 226) rfl) rfl
theorem wn_9_228 : (Jvm.Cond.instanceMethod ({ cls := "CircuitCyclesModel", name := "operandGrammar", desc := "()V" } : Jvm.MethodName)) ∈ xw_G := xw_c9 (List.mem_of_getElem? (i := 228) rfl) rfl
theorem wn_9_229 : (Jvm.Cond.code ({ cls := "CircuitCyclesModel", name := "operandGrammar", desc := "()V" } : Jvm.MethodName) prog_14_method_29_code (1 : Nat) (Option.none : Option Jvm.ClassFile.FieldType)) ∈ xw_G := xw_c9 (List.mem_of_getElem? (i := 229) rfl) rfl
theorem wn_9_230 : (Jvm.Cond.methodLink "CircuitCyclesModel" (299 : Nat) ({ cls := "CircuitCyclesModel", name := "isUnary", desc := "(I)Z" } : Jvm.MethodName)) ∈ xw_G := xw_c9 (List.mem_of_getElem? (i := 230) rfl) rfl
theorem wn_9_231 : (Jvm.Cond.static ({ cls := "CircuitCyclesModel", name := "isUnary", desc := "(I)Z" } : Jvm.MethodName)) ∈ xw_G := xw_c9 (List.mem_of_getElem? (i := 231) rfl) rfl
theorem wn_9_232 : (Jvm.Cond.code ({ cls := "CircuitCyclesModel", name := "isUnary", desc := "(I)Z" } : Jvm.MethodName) prog_14_method_26_code (1 : Nat) (Option.some Jvm.ClassFile.FieldType.boolean)) ∈ xw_G := xw_c9 (List.mem_of_getElem? (i := 232) rfl) rfl
theorem wn_9_233 : (Jvm.Cond.methodLink "CircuitCyclesModel" (302 : Nat) ({ cls := "CircuitCyclesModel", name := "partGrammar", desc := "()V" } : Jvm.MethodName)) ∈ xw_G := xw_c9 (List.mem_of_getElem? (i := 233) rfl) rfl
theorem wn_9_235 : (Jvm.Cond.instanceMethod ({ cls := "CircuitCyclesModel", name := "partGrammar", desc := "()V" } : Jvm.MethodName)) ∈ xw_G := xw_c9 (List.mem_of_getElem? (i := 235) rfl) rfl
theorem wn_9_236 : (Jvm.Cond.code ({ cls := "CircuitCyclesModel", name := "partGrammar", desc := "()V" } : Jvm.MethodName) prog_14_method_30_code (1 : Nat) (Option.none : Option Jvm.ClassFile.FieldType)) ∈ xw_G := xw_c9 (List.mem_of_getElem? (i := 236) rfl) rfl
theorem wn_9_237 : (Jvm.Cond.methodLink "CircuitCyclesModel" (308 : Nat) ({ cls := "CircuitCyclesModel", name := "bracesGrammar", desc := "()V" } : Jvm.MethodName)) ∈ xw_G := xw_c9 (List.mem_of_getElem? (i := 237) rfl) rfl
theorem wn_9_239 : (Jvm.Cond.instanceMethod ({ cls := "CircuitCyclesModel", name := "bracesGrammar", desc := "()V" } : Jvm.MethodName)) ∈ xw_G := xw_c9 (List.mem_of_getElem? (i := 239) rfl) rfl
theorem wn_10_0 : (Jvm.Cond.code ({ cls := "CircuitCyclesModel", name := "bracesGrammar", desc := "()V" } : Jvm.MethodName) prog_14_method_31_code (1 : Nat) (Option.none : Option Jvm.ClassFile.FieldType)) ∈ xw_G := xw_c10 (List.mem_of_getElem? (i := 0) rfl) rfl
theorem wn_10_1 : (Jvm.Cond.methodLink "CircuitCyclesModel" (290 : Nat) ({ cls := "CircuitCyclesModel", name := "rank", desc := "(I)I" } : Jvm.MethodName)) ∈ xw_G := xw_c10 (List.mem_of_getElem? (i := 1) rfl) rfl
theorem wn_10_2 : (Jvm.Cond.static ({ cls := "CircuitCyclesModel", name := "rank", desc := "(I)I" } : Jvm.MethodName)) ∈ xw_G := xw_c10 (List.mem_of_getElem? (i := 2) rfl) rfl
theorem wn_10_3 : (Jvm.Cond.code ({ cls := "CircuitCyclesModel", name := "rank", desc := "(I)I" } : Jvm.MethodName) prog_14_method_27_code (1 : Nat) (Option.some Jvm.ClassFile.FieldType.int)) ∈ xw_G := xw_c10 (List.mem_of_getElem? (i := 3) rfl) rfl
theorem wn_10_4 : (Jvm.Cond.methodLink "CircuitCyclesModel" (317 : Nat) ({ cls := "CircuitCyclesModel", name := "statementGrammar", desc := "()V" } : Jvm.MethodName)) ∈ xw_G := xw_c10 (List.mem_of_getElem? (i := 4) rfl) rfl
theorem wn_10_6 : (Jvm.Cond.instanceMethod ({ cls := "CircuitCyclesModel", name := "statementGrammar", desc := "()V" } : Jvm.MethodName)) ∈ xw_G := xw_c10 (List.mem_of_getElem? (i := 6) rfl) rfl
theorem wn_10_7 : (Jvm.Cond.code ({ cls := "CircuitCyclesModel", name := "statementGrammar", desc := "()V" } : Jvm.MethodName) prog_14_method_35_code (1 : Nat) (Option.none : Option Jvm.ClassFile.FieldType)) ∈ xw_G := xw_c10 (List.mem_of_getElem? (i := 7) rfl) rfl
theorem wn_10_8 : (Jvm.Cond.methodLink "CircuitCyclesModel" (320 : Nat) ({ cls := "CircuitCyclesModel", name := "caseGrammar", desc := "()V" } : Jvm.MethodName)) ∈ xw_G := xw_c10 (List.mem_of_getElem? (i := 8) rfl) rfl
theorem wn_10_10 : (Jvm.Cond.instanceMethod ({ cls := "CircuitCyclesModel", name := "caseGrammar", desc := "()V" } : Jvm.MethodName)) ∈ xw_G := xw_c10 (List.mem_of_getElem? (i := 10) rfl) rfl
theorem wn_10_11 : (Jvm.Cond.code ({ cls := "CircuitCyclesModel", name := "caseGrammar", desc := "()V" } : Jvm.MethodName) prog_14_method_36_code (1 : Nat) (Option.none : Option Jvm.ClassFile.FieldType)) ∈ xw_G := xw_c10 (List.mem_of_getElem? (i := 11) rfl) rfl
theorem wn_10_12 : (Jvm.Cond.methodLink "CircuitCyclesModel" (323 : Nat) ({ cls := "CircuitCyclesModel", name := "linkGrammar", desc := "()V" } : Jvm.MethodName)) ∈ xw_G := xw_c10 (List.mem_of_getElem? (i := 12) rfl) rfl
theorem wn_10_14 : (Jvm.Cond.instanceMethod ({ cls := "CircuitCyclesModel", name := "linkGrammar", desc := "()V" } : Jvm.MethodName)) ∈ xw_G := xw_c10 (List.mem_of_getElem? (i := 14) rfl) rfl
theorem wn_10_15 : (Jvm.Cond.code ({ cls := "CircuitCyclesModel", name := "linkGrammar", desc := "()V" } : Jvm.MethodName) prog_14_method_38_code (1 : Nat) (Option.none : Option Jvm.ClassFile.FieldType)) ∈ xw_G := xw_c10 (List.mem_of_getElem? (i := 15) rfl) rfl
theorem wn_10_16 : (Jvm.Cond.methodLink "CircuitCyclesModel" (524 : Nat) ({ cls := "CircuitCyclesModel", name := "design", desc := "()V" } : Jvm.MethodName)) ∈ xw_G := xw_c10 (List.mem_of_getElem? (i := 16) rfl) rfl
theorem wn_10_18 : (Jvm.Cond.instanceMethod ({ cls := "CircuitCyclesModel", name := "design", desc := "()V" } : Jvm.MethodName)) ∈ xw_G := xw_c10 (List.mem_of_getElem? (i := 18) rfl) rfl
theorem wn_10_19 : (Jvm.Cond.code ({ cls := "CircuitCyclesModel", name := "design", desc := "()V" } : Jvm.MethodName) prog_14_method_72_code (1 : Nat) (Option.none : Option Jvm.ClassFile.FieldType)) ∈ xw_G := xw_c10 (List.mem_of_getElem? (i := 19) rfl) rfl
theorem wn_10_20 : (Jvm.Cond.methodLink "CircuitCyclesModel" (471 : Nat) ({ cls := "CircuitCyclesModel", name := "module", desc := "()V" } : Jvm.MethodName)) ∈ xw_G := xw_c10 (List.mem_of_getElem? (i := 20) rfl) rfl
theorem wn_10_22 : (Jvm.Cond.instanceMethod ({ cls := "CircuitCyclesModel", name := "module", desc := "()V" } : Jvm.MethodName)) ∈ xw_G := xw_c10 (List.mem_of_getElem? (i := 22) rfl) rfl
theorem wn_10_23 : (Jvm.Cond.code ({ cls := "CircuitCyclesModel", name := "module", desc := "()V" } : Jvm.MethodName) prog_14_method_71_code (11 : Nat) (Option.none : Option Jvm.ClassFile.FieldType)) ∈ xw_G := xw_c10 (List.mem_of_getElem? (i := 23) rfl) rfl
theorem wn_10_24 : (Jvm.Cond.methodLink "CircuitCyclesModel" (438 : Nat) ({ cls := "CircuitCyclesModel", name := "moduleNamed", desc := "(II)I" } : Jvm.MethodName)) ∈ xw_G := xw_c10 (List.mem_of_getElem? (i := 24) rfl) rfl
theorem wn_10_26 : (Jvm.Cond.instanceMethod ({ cls := "CircuitCyclesModel", name := "moduleNamed", desc := "(II)I" } : Jvm.MethodName)) ∈ xw_G := xw_c10 (List.mem_of_getElem? (i := 26) rfl) rfl
theorem wn_10_27 : (Jvm.Cond.code ({ cls := "CircuitCyclesModel", name := "moduleNamed", desc := "(II)I" } : Jvm.MethodName) prog_14_method_41_code (4 : Nat) (Option.some Jvm.ClassFile.FieldType.int)) ∈ xw_G := xw_c10 (List.mem_of_getElem? (i := 27) rfl) rfl
theorem wn_10_28 : (Jvm.Cond.methodLink "CircuitCyclesModel" (332 : Nat) ({ cls := "CircuitCyclesModel", name := "sameToken", desc := "(II)Z" } : Jvm.MethodName)) ∈ xw_G := xw_c10 (List.mem_of_getElem? (i := 28) rfl) rfl
theorem wn_10_30 : (Jvm.Cond.instanceMethod ({ cls := "CircuitCyclesModel", name := "sameToken", desc := "(II)Z" } : Jvm.MethodName)) ∈ xw_G := xw_c10 (List.mem_of_getElem? (i := 30) rfl) rfl
theorem wn_10_31 : (Jvm.Cond.code ({ cls := "CircuitCyclesModel", name := "sameToken", desc := "(II)Z" } : Jvm.MethodName) prog_14_method_40_code (5 : Nat) (Option.some Jvm.ClassFile.FieldType.boolean)) ∈ xw_G := xw_c10 (List.mem_of_getElem? (i := 31) rfl) rfl
theorem wn_10_32 : (Jvm.Cond.methodLink "CircuitCyclesModel" (461 : Nat) ({ cls := "CircuitCyclesModel", name := "port", desc := "()V" } : Jvm.MethodName)) ∈ xw_G := xw_c10 (List.mem_of_getElem? (i := 32) rfl) rfl
theorem wn_10_34 : (Jvm.Cond.instanceMethod ({ cls := "CircuitCyclesModel", name := "port", desc := "()V" } : Jvm.MethodName)) ∈ xw_G := xw_c10 (List.mem_of_getElem? (i := 34) rfl) rfl
theorem wn_10_35 : (Jvm.Cond.code ({ cls := "CircuitCyclesModel", name := "port", desc := "()V" } : Jvm.MethodName) prog_14_method_58_code (2 : Nat) (Option.none : Option Jvm.ClassFile.FieldType)) ∈ xw_G := xw_c10 (List.mem_of_getElem? (i := 35) rfl) rfl
theorem wn_10_36 : (Jvm.Cond.methodLink "CircuitCyclesModel" (411 : Nat) ({ cls := "CircuitCyclesModel", name := "range", desc := "()I" } : Jvm.MethodName)) ∈ xw_G := xw_c10 (List.mem_of_getElem? (i := 36) rfl) rfl
theorem wn_10_38 : (Jvm.Cond.instanceMethod ({ cls := "CircuitCyclesModel", name := "range", desc := "()I" } : Jvm.MethodName)) ∈ xw_G := xw_c10 (List.mem_of_getElem? (i := 38) rfl) rfl
theorem wn_10_39 : (Jvm.Cond.code ({ cls := "CircuitCyclesModel", name := "range", desc := "()I" } : Jvm.MethodName) prog_14_method_56_code (5 : Nat) (Option.some Jvm.ClassFile.FieldType.int)) ∈ xw_G := xw_c10 (List.mem_of_getElem? (i := 39) rfl) rfl
theorem wn_10_40 : (Jvm.Cond.methodLink "CircuitCyclesModel" (386 : Nat) ({ cls := "CircuitCyclesModel", name := "numberOf", desc := "(I)J" } : Jvm.MethodName)) ∈ xw_G := xw_c10 (List.mem_of_getElem? (i := 40) rfl) rfl
theorem wn_10_42 : (Jvm.Cond.instanceMethod ({ cls := "CircuitCyclesModel", name := "numberOf", desc := "(I)J" } : Jvm.MethodName)) ∈ xw_G := xw_c10 (List.mem_of_getElem? (i := 42) rfl) rfl
theorem wn_10_43 : (Jvm.Cond.code ({ cls := "CircuitCyclesModel", name := "numberOf", desc := "(I)J" } : Jvm.MethodName) prog_14_method_17_code (4 : Nat) (Option.some Jvm.ClassFile.FieldType.long)) ∈ xw_G := xw_c10 (List.mem_of_getElem? (i := 43) rfl) rfl
theorem wn_10_44 : (Jvm.Cond.constantLong "CircuitCyclesModel" (406 : Nat) (63 : Int64)) ∈ xw_G := xw_c10 (List.mem_of_getElem? (i := 44) rfl) rfl
theorem wn_10_45 : (Jvm.Cond.methodLink "CircuitCyclesModel" (414 : Nat) ({ cls := "CircuitCyclesModel", name := "declare", desc := "(II)V" } : Jvm.MethodName)) ∈ xw_G := xw_c10 (List.mem_of_getElem? (i := 45) rfl) rfl
theorem wn_10_47 : (Jvm.Cond.instanceMethod ({ cls := "CircuitCyclesModel", name := "declare", desc := "(II)V" } : Jvm.MethodName)) ∈ xw_G := xw_c10 (List.mem_of_getElem? (i := 47) rfl) rfl
theorem wn_10_48 : (Jvm.Cond.code ({ cls := "CircuitCyclesModel", name := "declare", desc := "(II)V" } : Jvm.MethodName) prog_14_method_57_code (3 : Nat) (Option.none : Option Jvm.ClassFile.FieldType)) ∈ xw_G := xw_c10 (List.mem_of_getElem? (i := 48) rfl) rfl
theorem wn_10_49 : (Jvm.Cond.methodLink "CircuitCyclesModel" (400 : Nat) ({ cls := "CircuitCyclesModel", name := "here", desc := "(I)I" } : Jvm.MethodName)) ∈ xw_G := xw_c10 (List.mem_of_getElem? (i := 49) rfl) rfl
theorem wn_10_51 : (Jvm.Cond.instanceMethod ({ cls := "CircuitCyclesModel", name := "here", desc := "(I)I" } : Jvm.MethodName)) ∈ xw_G := xw_c10 (List.mem_of_getElem? (i := 51) rfl) rfl
theorem wn_10_52 : (Jvm.Cond.code ({ cls := "CircuitCyclesModel", name := "here", desc := "(I)I" } : Jvm.MethodName) prog_14_method_43_code (2 : Nat) (Option.some Jvm.ClassFile.FieldType.int)) ∈ xw_G := xw_c10 (List.mem_of_getElem? (i := 52) rfl) rfl
theorem wn_10_53 : (Jvm.Cond.methodLink "CircuitCyclesModel" (342 : Nat) ({ cls := "CircuitCyclesModel", name := "signalNamed", desc := "(III)I" } : Jvm.MethodName)) ∈ xw_G := xw_c10 (List.mem_of_getElem? (i := 53) rfl) rfl
theorem wn_10_55 : (Jvm.Cond.instanceMethod ({ cls := "CircuitCyclesModel", name := "signalNamed", desc := "(III)I" } : Jvm.MethodName)) ∈ xw_G := xw_c10 (List.mem_of_getElem? (i := 55) rfl) rfl
theorem wn_10_56 : (Jvm.Cond.code ({ cls := "CircuitCyclesModel", name := "signalNamed", desc := "(III)I" } : Jvm.MethodName) prog_14_method_42_code (5 : Nat) (Option.some Jvm.ClassFile.FieldType.int)) ∈ xw_G := xw_c10 (List.mem_of_getElem? (i := 56) rfl) rfl
theorem wn_10_57 : (Jvm.Cond.methodLink "CircuitCyclesModel" (408 : Nat) ({ cls := "CircuitCyclesModel", name := "isInstanceName", desc := "(I)Z" } : Jvm.MethodName)) ∈ xw_G := xw_c10 (List.mem_of_getElem? (i := 57) rfl) rfl
theorem wn_10_59 : (Jvm.Cond.instanceMethod ({ cls := "CircuitCyclesModel", name := "isInstanceName", desc := "(I)Z" } : Jvm.MethodName)) ∈ xw_G := xw_c10 (List.mem_of_getElem? (i := 59) rfl) rfl
theorem wn_10_60 : (Jvm.Cond.code ({ cls := "CircuitCyclesModel", name := "isInstanceName", desc := "(I)Z" } : Jvm.MethodName) prog_14_method_44_code (4 : Nat) (Option.some Jvm.ClassFile.FieldType.boolean)) ∈ xw_G := xw_c10 (List.mem_of_getElem? (i := 60) rfl) rfl
theorem wn_10_61 : (Jvm.Cond.methodLink "CircuitCyclesModel" (394 : Nat) ({ cls := "CircuitCyclesModel", name := "widthOfNumber", desc := "(I)I" } : Jvm.MethodName)) ∈ xw_G := xw_c10 (List.mem_of_getElem? (i := 61) rfl) rfl
theorem wn_10_63 : (Jvm.Cond.instanceMethod ({ cls := "CircuitCyclesModel", name := "widthOfNumber", desc := "(I)I" } : Jvm.MethodName)) ∈ xw_G := xw_c10 (List.mem_of_getElem? (i := 63) rfl) rfl
theorem wn_10_64 : (Jvm.Cond.code ({ cls := "CircuitCyclesModel", name := "widthOfNumber", desc := "(I)I" } : Jvm.MethodName) prog_14_method_18_code (4 : Nat) (Option.some Jvm.ClassFile.FieldType.int)) ∈ xw_G := xw_c10 (List.mem_of_getElem? (i := 64) rfl) rfl
theorem wn_10_65 : (Jvm.Cond.methodLink "CircuitCyclesModel" (464 : Nat) ({ cls := "CircuitCyclesModel", name := "item", desc := "()V" } : Jvm.MethodName)) ∈ xw_G := xw_c10 (List.mem_of_getElem? (i := 65) rfl) rfl
theorem wn_10_67 : (Jvm.Cond.instanceMethod ({ cls := "CircuitCyclesModel", name := "item", desc := "()V" } : Jvm.MethodName)) ∈ xw_G := xw_c10 (List.mem_of_getElem? (i := 67) rfl) rfl
theorem wn_10_68 : (Jvm.Cond.code ({ cls := "CircuitCyclesModel", name := "item", desc := "()V" } : Jvm.MethodName) prog_14_method_69_code (2 : Nat) (Option.none : Option Jvm.ClassFile.FieldType)) ∈ xw_G := xw_c10 (List.mem_of_getElem? (i := 68) rfl) rfl
theorem wn_10_69 : (Jvm.Cond.methodLink "CircuitCyclesModel" (450 : Nat) ({ cls := "CircuitCyclesModel", name := "assign", desc := "()V" } : Jvm.MethodName)) ∈ xw_G := xw_c10 (List.mem_of_getElem? (i := 69) rfl) rfl
theorem wn_10_71 : (Jvm.Cond.instanceMethod ({ cls := "CircuitCyclesModel", name := "assign", desc := "()V" } : Jvm.MethodName)) ∈ xw_G := xw_c10 (List.mem_of_getElem? (i := 71) rfl) rfl
theorem wn_10_72 : (Jvm.Cond.code ({ cls := "CircuitCyclesModel", name := "assign", desc := "()V" } : Jvm.MethodName) prog_14_method_61_code (5 : Nat) (Option.none : Option Jvm.ClassFile.FieldType)) ∈ xw_G := xw_c10 (List.mem_of_getElem? (i := 72) rfl) rfl
theorem wn_10_73 : (Jvm.Cond.methodLink "CircuitCyclesModel" (417 : Nat) ({ cls := "CircuitCyclesModel", name := "isDriven", desc := "(I)Z" } : Jvm.MethodName)) ∈ xw_G := xw_c10 (List.mem_of_getElem? (i := 73) rfl) rfl
theorem wn_10_75 : (Jvm.Cond.instanceMethod ({ cls := "CircuitCyclesModel", name := "isDriven", desc := "(I)Z" } : Jvm.MethodName)) ∈ xw_G := xw_c10 (List.mem_of_getElem? (i := 75) rfl) rfl
theorem wn_10_76 : (Jvm.Cond.code ({ cls := "CircuitCyclesModel", name := "isDriven", desc := "(I)Z" } : Jvm.MethodName) prog_14_method_59_code (2 : Nat) (Option.some Jvm.ClassFile.FieldType.boolean)) ∈ xw_G := xw_c10 (List.mem_of_getElem? (i := 76) rfl) rfl
theorem wn_10_77 : (Jvm.Cond.methodLink "CircuitCyclesModel" (358 : Nat) ({ cls := "CircuitCyclesModel", name := "exp", desc := "()I" } : Jvm.MethodName)) ∈ xw_G := xw_c10 (List.mem_of_getElem? (i := 77) rfl) rfl
theorem wn_10_79 : (Jvm.Cond.instanceMethod ({ cls := "CircuitCyclesModel", name := "exp", desc := "()I" } : Jvm.MethodName)) ∈ xw_G := xw_c10 (List.mem_of_getElem? (i := 79) rfl) rfl
theorem wn_10_80 : (Jvm.Cond.code ({ cls := "CircuitCyclesModel", name := "exp", desc := "()I" } : Jvm.MethodName) prog_14_method_48_code (5 : Nat) (Option.some Jvm.ClassFile.FieldType.int)) ∈ xw_G := xw_c10 (List.mem_of_getElem? (i := 80) rfl) rfl
theorem wn_10_81 : (Jvm.Cond.methodLink "CircuitCyclesModel" (355 : Nat) ({ cls := "CircuitCyclesModel", name := "binary", desc := "()I" } : Jvm.MethodName)) ∈ xw_G := xw_c10 (List.mem_of_getElem? (i := 81) rfl) rfl
theorem wn_10_83 : (Jvm.Cond.instanceMethod ({ cls := "CircuitCyclesModel", name := "binary", desc := "()I" } : Jvm.MethodName)) ∈ xw_G := xw_c10 (List.mem_of_getElem? (i := 83) rfl) rfl
theorem wn_10_84 : (Jvm.Cond.code ({ cls := "CircuitCyclesModel", name := "binary", desc := "()I" } : Jvm.MethodName) prog_14_method_49_code (3 : Nat) (Option.some Jvm.ClassFile.FieldType.int)) ∈ xw_G := xw_c10 (List.mem_of_getElem? (i := 84) rfl) rfl
theorem wn_10_85 : (Jvm.Cond.methodLink "CircuitCyclesModel" (371 : Nat) ({ cls := "CircuitCyclesModel", name := "operand", desc := "()I" } : Jvm.MethodName)) ∈ xw_G := xw_c10 (List.mem_of_getElem? (i := 85) rfl) rfl
theorem wn_10_87 : (Jvm.Cond.instanceMethod ({ cls := "CircuitCyclesModel", name := "operand", desc := "()I" } : Jvm.MethodName)) ∈ xw_G := xw_c10 (List.mem_of_getElem? (i := 87) rfl) rfl
theorem wn_10_88 : (Jvm.Cond.code ({ cls := "CircuitCyclesModel", name := "operand", desc := "()I" } : Jvm.MethodName) prog_14_method_52_code (5 : Nat) (Option.some Jvm.ClassFile.FieldType.int)) ∈ xw_G := xw_c10 (List.mem_of_getElem? (i := 88) rfl) rfl
theorem wn_10_89 : (Jvm.Cond.methodLink "CircuitCyclesModel" (383 : Nat) ({ cls := "CircuitCyclesModel", name := "primary", desc := "()I" } : Jvm.MethodName)) ∈ xw_G := xw_c10 (List.mem_of_getElem? (i := 89) rfl) rfl
theorem wn_10_91 : (Jvm.Cond.instanceMethod ({ cls := "CircuitCyclesModel", name := "primary", desc := "()I" } : Jvm.MethodName)) ∈ xw_G := xw_c10 (List.mem_of_getElem? (i := 91) rfl) rfl
theorem wn_10_92 : (Jvm.Cond.code ({ cls := "CircuitCyclesModel", name := "primary", desc := "()I" } : Jvm.MethodName) prog_14_method_53_code (4 : Nat) (Option.some Jvm.ClassFile.FieldType.int)) ∈ xw_G := xw_c10 (List.mem_of_getElem? (i := 92) rfl) rfl
theorem wn_10_93 : (Jvm.Cond.methodLink "CircuitCyclesModel" (390 : Nat) ({ cls := "CircuitCyclesModel", name := "keepNumber", desc := "(J)I" } : Jvm.MethodName)) ∈ xw_G := xw_c10 (List.mem_of_getElem? (i := 93) rfl) rfl
theorem wn_10_95 : (Jvm.Cond.instanceMethod ({ cls := "CircuitCyclesModel", name := "keepNumber", desc := "(J)I" } : Jvm.MethodName)) ∈ xw_G := xw_c10 (List.mem_of_getElem? (i := 95) rfl) rfl
theorem wn_10_96 : (Jvm.Cond.code ({ cls := "CircuitCyclesModel", name := "keepNumber", desc := "(J)I" } : Jvm.MethodName) prog_14_method_47_code (5 : Nat) (Option.some Jvm.ClassFile.FieldType.int)) ∈ xw_G := xw_c10 (List.mem_of_getElem? (i := 96) rfl) rfl
theorem wn_10_97 : (Jvm.Cond.methodLink "CircuitCyclesModel" (365 : Nat) ({ cls := "CircuitCyclesModel", name := "lay", desc := "(III)V" } : Jvm.MethodName)) ∈ xw_G := xw_c10 (List.mem_of_getElem? (i := 97) rfl) rfl
theorem wn_10_99 : (Jvm.Cond.instanceMethod ({ cls := "CircuitCyclesModel", name := "lay", desc := "(III)V" } : Jvm.MethodName)) ∈ xw_G := xw_c10 (List.mem_of_getElem? (i := 99) rfl) rfl
theorem wn_10_100 : (Jvm.Cond.code ({ cls := "CircuitCyclesModel", name := "lay", desc := "(III)V" } : Jvm.MethodName) prog_14_method_46_code (6 : Nat) (Option.none : Option Jvm.ClassFile.FieldType)) ∈ xw_G := xw_c10 (List.mem_of_getElem? (i := 100) rfl) rfl
theorem wn_10_101 : (Jvm.Cond.methodLink "CircuitCyclesModel" (397 : Nat) ({ cls := "CircuitCyclesModel", name := "braces", desc := "(I)I" } : Jvm.MethodName)) ∈ xw_G := xw_c10 (List.mem_of_getElem? (i := 101) rfl) rfl
theorem wn_10_103 : (Jvm.Cond.instanceMethod ({ cls := "CircuitCyclesModel", name := "braces", desc := "(I)I" } : Jvm.MethodName)) ∈ xw_G := xw_c10 (List.mem_of_getElem? (i := 103) rfl) rfl
theorem wn_10_104 : (Jvm.Cond.code ({ cls := "CircuitCyclesModel", name := "braces", desc := "(I)I" } : Jvm.MethodName) prog_14_method_55_code (5 : Nat) (Option.some Jvm.ClassFile.FieldType.int)) ∈ xw_G := xw_c10 (List.mem_of_getElem? (i := 104) rfl) rfl
theorem wn_10_105 : (Jvm.Cond.methodLink "CircuitCyclesModel" (403 : Nat) ({ cls := "CircuitCyclesModel", name := "part", desc := "(I)I" } : Jvm.MethodName)) ∈ xw_G := xw_c10 (List.mem_of_getElem? (i := 105) rfl) rfl
theorem wn_10_107 : (Jvm.Cond.instanceMethod ({ cls := "CircuitCyclesModel", name := "part", desc := "(I)I" } : Jvm.MethodName)) ∈ xw_G := xw_c10 (List.mem_of_getElem? (i := 107) rfl) rfl
theorem wn_10_108 : (Jvm.Cond.code ({ cls := "CircuitCyclesModel", name := "part", desc := "(I)I" } : Jvm.MethodName) prog_14_method_54_code (5 : Nat) (Option.some Jvm.ClassFile.FieldType.int)) ∈ xw_G := xw_c10 (List.mem_of_getElem? (i := 108) rfl) rfl
theorem wn_10_109 : (Jvm.Cond.methodLink "CircuitCyclesModel" (361 : Nat) ({ cls := "CircuitCyclesModel", name := "cost", desc := "(J)V" } : Jvm.MethodName)) ∈ xw_G := xw_c10 (List.mem_of_getElem? (i := 109) rfl) rfl
theorem wn_10_111 : (Jvm.Cond.instanceMethod ({ cls := "CircuitCyclesModel", name := "cost", desc := "(J)V" } : Jvm.MethodName)) ∈ xw_G := xw_c10 (List.mem_of_getElem? (i := 111) rfl) rfl
theorem wn_10_112 : (Jvm.Cond.code ({ cls := "CircuitCyclesModel", name := "cost", desc := "(J)V" } : Jvm.MethodName) prog_14_method_45_code (3 : Nat) (Option.none : Option Jvm.ClassFile.FieldType)) ∈ xw_G := xw_c10 (List.mem_of_getElem? (i := 112) rfl) rfl
theorem wn_10_113 : (Jvm.Cond.methodLink "CircuitCyclesModel" (374 : Nat) ({ cls := "CircuitCyclesModel", name := "pushWidth", desc := "(I)V" } : Jvm.MethodName)) ∈ xw_G := xw_c10 (List.mem_of_getElem? (i := 113) rfl) rfl
theorem wn_10_115 : (Jvm.Cond.instanceMethod ({ cls := "CircuitCyclesModel", name := "pushWidth", desc := "(I)V" } : Jvm.MethodName)) ∈ xw_G := xw_c10 (List.mem_of_getElem? (i := 115) rfl) rfl
theorem wn_10_116 : (Jvm.Cond.code ({ cls := "CircuitCyclesModel", name := "pushWidth", desc := "(I)V" } : Jvm.MethodName) prog_14_method_50_code (2 : Nat) (Option.none : Option Jvm.ClassFile.FieldType)) ∈ xw_G := xw_c10 (List.mem_of_getElem? (i := 116) rfl) rfl
theorem wn_10_117 : (Jvm.Cond.methodLink "CircuitCyclesModel" (377 : Nat) ({ cls := "CircuitCyclesModel", name := "reckon", desc := "()V" } : Jvm.MethodName)) ∈ xw_G := xw_c10 (List.mem_of_getElem? (i := 117) rfl) rfl
theorem wn_10_119 : (Jvm.Cond.instanceMethod ({ cls := "CircuitCyclesModel", name := "reckon", desc := "()V" } : Jvm.MethodName)) ∈ xw_G := xw_c10 (List.mem_of_getElem? (i := 119) rfl) rfl
theorem wn_10_120 : (Jvm.Cond.code ({ cls := "CircuitCyclesModel", name := "reckon", desc := "()V" } : Jvm.MethodName) prog_14_method_51_code (8 : Nat) (Option.none : Option Jvm.ClassFile.FieldType)) ∈ xw_G := xw_c10 (List.mem_of_getElem? (i := 120) rfl) rfl
theorem wn_10_121 : (Jvm.Cond.methodLink "CircuitCyclesModel" (420 : Nat) ({ cls := "CircuitCyclesModel", name := "statement", desc := "()V" } : Jvm.MethodName)) ∈ xw_G := xw_c10 (List.mem_of_getElem? (i := 121) rfl) rfl
theorem wn_10_123 : (Jvm.Cond.instanceMethod ({ cls := "CircuitCyclesModel", name := "statement", desc := "()V" } : Jvm.MethodName)) ∈ xw_G := xw_c10 (List.mem_of_getElem? (i := 123) rfl) rfl
theorem wn_10_124 : (Jvm.Cond.code ({ cls := "CircuitCyclesModel", name := "statement", desc := "()V" } : Jvm.MethodName) prog_14_method_62_code (3 : Nat) (Option.none : Option Jvm.ClassFile.FieldType)) ∈ xw_G := xw_c10 (List.mem_of_getElem? (i := 124) rfl) rfl
theorem wn_10_125 : (Jvm.Cond.methodLink "CircuitCyclesModel" (423 : Nat) ({ cls := "CircuitCyclesModel", name := "caseOf", desc := "()V" } : Jvm.MethodName)) ∈ xw_G := xw_c10 (List.mem_of_getElem? (i := 125) rfl) rfl
theorem wn_10_127 : (Jvm.Cond.instanceMethod ({ cls := "CircuitCyclesModel", name := "caseOf", desc := "()V" } : Jvm.MethodName)) ∈ xw_G := xw_c10 (List.mem_of_getElem? (i := 127) rfl) rfl
theorem wn_10_128 : (Jvm.Cond.code ({ cls := "CircuitCyclesModel", name := "caseOf", desc := "()V" } : Jvm.MethodName) prog_14_method_63_code (6 : Nat) (Option.none : Option Jvm.ClassFile.FieldType)) ∈ xw_G := xw_c10 (List.mem_of_getElem? (i := 128) rfl) rfl
theorem wn_10_129 : (Jvm.Cond.methodLink "CircuitCyclesModel" (429 : Nat) ({ cls := "CircuitCyclesModel", name := "patch", desc := "(I)V" } : Jvm.MethodName)) ∈ xw_G := xw_c10 (List.mem_of_getElem? (i := 129) rfl) rfl
theorem wn_10_131 : (Jvm.Cond.instanceMethod ({ cls := "CircuitCyclesModel", name := "patch", desc := "(I)V" } : Jvm.MethodName)) ∈ xw_G := xw_c10 (List.mem_of_getElem? (i := 131) rfl) rfl
theorem wn_10_132 : (Jvm.Cond.code ({ cls := "CircuitCyclesModel", name := "patch", desc := "(I)V" } : Jvm.MethodName) prog_14_method_64_code (4 : Nat) (Option.none : Option Jvm.ClassFile.FieldType)) ∈ xw_G := xw_c10 (List.mem_of_getElem? (i := 132) rfl) rfl
theorem wn_10_133 : (Jvm.Cond.methodLink "CircuitCyclesModel" (426 : Nat) ({ cls := "CircuitCyclesModel", name := "setting", desc := "()V" } : Jvm.MethodName)) ∈ xw_G := xw_c10 (List.mem_of_getElem? (i := 133) rfl) rfl
theorem wn_10_135 : (Jvm.Cond.instanceMethod ({ cls := "CircuitCyclesModel", name := "setting", desc := "()V" } : Jvm.MethodName)) ∈ xw_G := xw_c10 (List.mem_of_getElem? (i := 135) rfl) rfl
theorem wn_10_136 : (Jvm.Cond.code ({ cls := "CircuitCyclesModel", name := "setting", desc := "()V" } : Jvm.MethodName) prog_14_method_65_code (6 : Nat) (Option.none : Option Jvm.ClassFile.FieldType)) ∈ xw_G := xw_c10 (List.mem_of_getElem? (i := 136) rfl) rfl
theorem wn_10_137 : (Jvm.Cond.methodLink "CircuitCyclesModel" (432 : Nat) ({ cls := "CircuitCyclesModel", name := "isRegister", desc := "(I)Z" } : Jvm.MethodName)) ∈ xw_G := xw_c10 (List.mem_of_getElem? (i := 137) rfl) rfl
theorem wn_10_139 : (Jvm.Cond.instanceMethod ({ cls := "CircuitCyclesModel", name := "isRegister", desc := "(I)Z" } : Jvm.MethodName)) ∈ xw_G := xw_c10 (List.mem_of_getElem? (i := 139) rfl) rfl
theorem wn_10_140 : (Jvm.Cond.code ({ cls := "CircuitCyclesModel", name := "isRegister", desc := "(I)Z" } : Jvm.MethodName) prog_14_method_60_code (2 : Nat) (Option.some Jvm.ClassFile.FieldType.boolean)) ∈ xw_G := xw_c10 (List.mem_of_getElem? (i := 140) rfl) rfl
theorem wn_10_141 : (Jvm.Cond.methodLink "CircuitCyclesModel" (456 : Nat) ({ cls := "CircuitCyclesModel", name := "instance", desc := "()V" } : Jvm.MethodName)) ∈ xw_G := xw_c10 (List.mem_of_getElem? (i := 141) rfl) rfl
theorem wn_10_143 : (Jvm.Cond.instanceMethod ({ cls := "CircuitCyclesModel", name := "instance", desc := "()V" } : Jvm.MethodName)) ∈ xw_G := xw_c10 (List.mem_of_getElem? (i := 143) rfl) rfl
theorem wn_10_144 : (Jvm.Cond.code ({ cls := "CircuitCyclesModel", name := "instance", desc := "()V" } : Jvm.MethodName) prog_14_method_66_code (4 : Nat) (Option.none : Option Jvm.ClassFile.FieldType)) ∈ xw_G := xw_c10 (List.mem_of_getElem? (i := 144) rfl) rfl
theorem wn_10_145 : (Jvm.Cond.methodLink "CircuitCyclesModel" (444 : Nat) ({ cls := "CircuitCyclesModel", name := "link", desc := "(I)V" } : Jvm.MethodName)) ∈ xw_G := xw_c10 (List.mem_of_getElem? (i := 145) rfl) rfl
theorem wn_10_147 : (Jvm.Cond.instanceMethod ({ cls := "CircuitCyclesModel", name := "link", desc := "(I)V" } : Jvm.MethodName)) ∈ xw_G := xw_c10 (List.mem_of_getElem? (i := 147) rfl) rfl
theorem wn_10_148 : (Jvm.Cond.code ({ cls := "CircuitCyclesModel", name := "link", desc := "(I)V" } : Jvm.MethodName) prog_14_method_68_code (9 : Nat) (Option.none : Option Jvm.ClassFile.FieldType)) ∈ xw_G := xw_c10 (List.mem_of_getElem? (i := 148) rfl) rfl
theorem wn_10_149 : (Jvm.Cond.methodLink "CircuitCyclesModel" (447 : Nat) ({ cls := "CircuitCyclesModel", name := "linkOf", desc := "(III)I" } : Jvm.MethodName)) ∈ xw_G := xw_c10 (List.mem_of_getElem? (i := 149) rfl) rfl
theorem wn_10_151 : (Jvm.Cond.instanceMethod ({ cls := "CircuitCyclesModel", name := "linkOf", desc := "(III)I" } : Jvm.MethodName)) ∈ xw_G := xw_c10 (List.mem_of_getElem? (i := 151) rfl) rfl
theorem wn_10_152 : (Jvm.Cond.code ({ cls := "CircuitCyclesModel", name := "linkOf", desc := "(III)I" } : Jvm.MethodName) prog_14_method_67_code (5 : Nat) (Option.some Jvm.ClassFile.FieldType.int)) ∈ xw_G := xw_c10 (List.mem_of_getElem? (i := 152) rfl) rfl
theorem wn_10_153 : (Jvm.Cond.methodLink "CircuitCyclesModel" (467 : Nat) ({ cls := "CircuitCyclesModel", name := "most", desc := "(J)J" } : Jvm.MethodName)) ∈ xw_G := xw_c10 (List.mem_of_getElem? (i := 153) rfl) rfl
theorem wn_10_154 : (Jvm.Cond.static ({ cls := "CircuitCyclesModel", name := "most", desc := "(J)J" } : Jvm.MethodName)) ∈ xw_G := xw_c10 (List.mem_of_getElem? (i := 154) rfl) rfl
theorem wn_10_155 : (Jvm.Cond.code ({ cls := "CircuitCyclesModel", name := "most", desc := "(J)J" } : Jvm.MethodName) prog_14_method_70_code (2 : Nat) (Option.some Jvm.ClassFile.FieldType.long)) ∈ xw_G := xw_c10 (List.mem_of_getElem? (i := 155) rfl) rfl
theorem wn_10_156 : (Jvm.Cond.constantLong "CircuitCyclesModel" (459 : Nat) (1000000000 : Int64)) ∈ xw_G := xw_c10 (List.mem_of_getElem? (i := 156) rfl) rfl
theorem wn_10_157 : (Jvm.Cond.methodLink "CircuitCyclesModel" (527 : Nat) ({ cls := "CircuitCyclesModel", name := "limits", desc := "()V" } : Jvm.MethodName)) ∈ xw_G := xw_c10 (List.mem_of_getElem? (i := 157) rfl) rfl
theorem wn_10_159 : (Jvm.Cond.instanceMethod ({ cls := "CircuitCyclesModel", name := "limits", desc := "()V" } : Jvm.MethodName)) ∈ xw_G := xw_c10 (List.mem_of_getElem? (i := 159) rfl) rfl
theorem wn_10_160 : (Jvm.Cond.code ({ cls := "CircuitCyclesModel", name := "limits", desc := "()V" } : Jvm.MethodName) prog_14_method_73_code (9 : Nat) (Option.none : Option Jvm.ClassFile.FieldType)) ∈ xw_G := xw_c10 (List.mem_of_getElem? (i := 160) rfl) rfl
theorem wn_10_161 : (Jvm.Cond.constantLong "CircuitCyclesModel" (474 : Nat) (40 : Int64)) ∈ xw_G := xw_c10 (List.mem_of_getElem? (i := 161) rfl) rfl
theorem wn_10_162 : (Jvm.Cond.constantLong "CircuitCyclesModel" (476 : Nat) (20 : Int64)) ∈ xw_G := xw_c10 (List.mem_of_getElem? (i := 162) rfl) rfl
theorem wn_10_163 : (Jvm.Cond.constantLong "CircuitCyclesModel" (478 : Nat) (256 : Int64)) ∈ xw_G := xw_c10 (List.mem_of_getElem? (i := 163) rfl) rfl
theorem wn_10_164 : (Jvm.Cond.methodLink "CircuitCyclesModel" (480 : Nat) ({ cls := "CircuitCyclesModel", name := "bound", desc := "(ZII)V" } : Jvm.MethodName)) ∈ xw_G := xw_c10 (List.mem_of_getElem? (i := 164) rfl) rfl
theorem wn_10_166 : (Jvm.Cond.instanceMethod ({ cls := "CircuitCyclesModel", name := "bound", desc := "(ZII)V" } : Jvm.MethodName)) ∈ xw_G := xw_c10 (List.mem_of_getElem? (i := 166) rfl) rfl
theorem wn_10_167 : (Jvm.Cond.code ({ cls := "CircuitCyclesModel", name := "bound", desc := "(ZII)V" } : Jvm.MethodName) prog_14_method_74_code (4 : Nat) (Option.none : Option Jvm.ClassFile.FieldType)) ∈ xw_G := xw_c10 (List.mem_of_getElem? (i := 167) rfl) rfl
theorem wn_10_168 : (Jvm.Cond.constantLong "CircuitCyclesModel" (484 : Nat) (1024 : Int64)) ∈ xw_G := xw_c10 (List.mem_of_getElem? (i := 168) rfl) rfl
theorem wn_10_169 : (Jvm.Cond.constantLong "CircuitCyclesModel" (486 : Nat) (12 : Int64)) ∈ xw_G := xw_c10 (List.mem_of_getElem? (i := 169) rfl) rfl
theorem wn_10_170 : (Jvm.Cond.constantLong "CircuitCyclesModel" (488 : Nat) (6 : Int64)) ∈ xw_G := xw_c10 (List.mem_of_getElem? (i := 170) rfl) rfl
theorem wn_10_171 : (Jvm.Cond.constantLong "CircuitCyclesModel" (490 : Nat) (1500 : Int64)) ∈ xw_G := xw_c10 (List.mem_of_getElem? (i := 171) rfl) rfl
theorem wn_10_172 : (Jvm.Cond.constantLong "CircuitCyclesModel" (492 : Nat) (16777216 : Int64)) ∈ xw_G := xw_c10 (List.mem_of_getElem? (i := 172) rfl) rfl
theorem wn_10_173 : (Jvm.Cond.methodLink "CircuitCyclesModel" (530 : Nat) ({ cls := "CircuitCyclesModel", name := "writeOut", desc := "()V" } : Jvm.MethodName)) ∈ xw_G := xw_c10 (List.mem_of_getElem? (i := 173) rfl) rfl
theorem wn_10_175 : (Jvm.Cond.instanceMethod ({ cls := "CircuitCyclesModel", name := "writeOut", desc := "()V" } : Jvm.MethodName)) ∈ xw_G := xw_c10 (List.mem_of_getElem? (i := 175) rfl) rfl
theorem wn_10_176 : (Jvm.Cond.code ({ cls := "CircuitCyclesModel", name := "writeOut", desc := "()V" } : Jvm.MethodName) prog_14_method_75_code (4 : Nat) (Option.none : Option Jvm.ClassFile.FieldType)) ∈ xw_G := xw_c10 (List.mem_of_getElem? (i := 176) rfl) rfl
theorem wn_10_177 : (Jvm.Cond.methodLink "CircuitCyclesModel" (500 : Nat) ({ cls := "CircuitCyclesModel", name := "begin", desc := "(III)V" } : Jvm.MethodName)) ∈ xw_G := xw_c10 (List.mem_of_getElem? (i := 177) rfl) rfl
theorem wn_10_179 : (Jvm.Cond.instanceMethod ({ cls := "CircuitCyclesModel", name := "begin", desc := "(III)V" } : Jvm.MethodName)) ∈ xw_G := xw_c10 (List.mem_of_getElem? (i := 179) rfl) rfl
theorem wn_10_180 : (Jvm.Cond.code ({ cls := "CircuitCyclesModel", name := "begin", desc := "(III)V" } : Jvm.MethodName) prog_14_method_76_code (5 : Nat) (Option.none : Option Jvm.ClassFile.FieldType)) ∈ xw_G := xw_c10 (List.mem_of_getElem? (i := 180) rfl) rfl
theorem wn_10_181 : (Jvm.Cond.methodLink "CircuitCyclesModel" (503 : Nat) ({ cls := "CircuitCyclesModel", name := "findRule", desc := "(I)V" } : Jvm.MethodName)) ∈ xw_G := xw_c10 (List.mem_of_getElem? (i := 181) rfl) rfl
theorem wn_10_183 : (Jvm.Cond.instanceMethod ({ cls := "CircuitCyclesModel", name := "findRule", desc := "(I)V" } : Jvm.MethodName)) ∈ xw_G := xw_c10 (List.mem_of_getElem? (i := 183) rfl) rfl
theorem wn_10_184 : (Jvm.Cond.code ({ cls := "CircuitCyclesModel", name := "findRule", desc := "(I)V" } : Jvm.MethodName) prog_14_method_78_code (5 : Nat) (Option.none : Option Jvm.ClassFile.FieldType)) ∈ xw_G := xw_c10 (List.mem_of_getElem? (i := 184) rfl) rfl
theorem wn_10_185 : (Jvm.Cond.methodLink "CircuitCyclesModel" (506 : Nat) ({ cls := "CircuitCyclesModel", name := "signalOf", desc := "(II)I" } : Jvm.MethodName)) ∈ xw_G := xw_c10 (List.mem_of_getElem? (i := 185) rfl) rfl
theorem wn_10_187 : (Jvm.Cond.instanceMethod ({ cls := "CircuitCyclesModel", name := "signalOf", desc := "(II)I" } : Jvm.MethodName)) ∈ xw_G := xw_c10 (List.mem_of_getElem? (i := 187) rfl) rfl
theorem wn_10_188 : (Jvm.Cond.code ({ cls := "CircuitCyclesModel", name := "signalOf", desc := "(II)I" } : Jvm.MethodName) prog_14_method_77_code (3 : Nat) (Option.some Jvm.ClassFile.FieldType.int)) ∈ xw_G := xw_c10 (List.mem_of_getElem? (i := 188) rfl) rfl
theorem wn_10_189 : (Jvm.Cond.methodLink "CircuitCyclesModel" (533 : Nat) ({ cls := "CircuitCyclesModel", name := "putInOrder", desc := "()V" } : Jvm.MethodName)) ∈ xw_G := xw_c10 (List.mem_of_getElem? (i := 189) rfl) rfl
theorem wn_10_191 : (Jvm.Cond.instanceMethod ({ cls := "CircuitCyclesModel", name := "putInOrder", desc := "()V" } : Jvm.MethodName)) ∈ xw_G := xw_c10 (List.mem_of_getElem? (i := 191) rfl) rfl
theorem wn_10_192 : (Jvm.Cond.code ({ cls := "CircuitCyclesModel", name := "putInOrder", desc := "()V" } : Jvm.MethodName) prog_14_method_80_code (3 : Nat) (Option.none : Option Jvm.ClassFile.FieldType)) ∈ xw_G := xw_c10 (List.mem_of_getElem? (i := 192) rfl) rfl
theorem wn_10_193 : (Jvm.Cond.methodLink "CircuitCyclesModel" (512 : Nat) ({ cls := "CircuitCyclesModel", name := "canBe", desc := "(I)Z" } : Jvm.MethodName)) ∈ xw_G := xw_c10 (List.mem_of_getElem? (i := 193) rfl) rfl
theorem wn_10_195 : (Jvm.Cond.instanceMethod ({ cls := "CircuitCyclesModel", name := "canBe", desc := "(I)Z" } : Jvm.MethodName)) ∈ xw_G := xw_c10 (List.mem_of_getElem? (i := 195) rfl) rfl
theorem wn_10_196 : (Jvm.Cond.code ({ cls := "CircuitCyclesModel", name := "canBe", desc := "(I)Z" } : Jvm.MethodName) prog_14_method_79_code (4 : Nat) (Option.some Jvm.ClassFile.FieldType.boolean)) ∈ xw_G := xw_c10 (List.mem_of_getElem? (i := 196) rfl) rfl
theorem wn_10_197 : (Jvm.Cond.methodLink "CircuitCyclesModel" (515 : Nat) ({ cls := "CircuitCyclesModel", name := "dependsOnItself", desc := "(I)Z" } : Jvm.MethodName)) ∈ xw_G := xw_c10 (List.mem_of_getElem? (i := 197) rfl) rfl
theorem wn_10_199 : (Jvm.Cond.instanceMethod ({ cls := "CircuitCyclesModel", name := "dependsOnItself", desc := "(I)Z" } : Jvm.MethodName)) ∈ xw_G := xw_c10 (List.mem_of_getElem? (i := 199) rfl) rfl
theorem wn_10_200 : (Jvm.Cond.code ({ cls := "CircuitCyclesModel", name := "dependsOnItself", desc := "(I)Z" } : Jvm.MethodName) prog_14_method_81_code (9 : Nat) (Option.some Jvm.ClassFile.FieldType.boolean)) ∈ xw_G := xw_c10 (List.mem_of_getElem? (i := 200) rfl) rfl
theorem wn_10_201 : (Jvm.Cond.methodLink "CircuitCyclesModel" (551 : Nat) ({ cls := "CircuitCyclesModel", name := "sumUp", desc := "()V" } : Jvm.MethodName)) ∈ xw_G := xw_c10 (List.mem_of_getElem? (i := 201) rfl) rfl
theorem wn_10_203 : (Jvm.Cond.instanceMethod ({ cls := "CircuitCyclesModel", name := "sumUp", desc := "()V" } : Jvm.MethodName)) ∈ xw_G := xw_c10 (List.mem_of_getElem? (i := 203) rfl) rfl
theorem wn_10_204 : (Jvm.Cond.code ({ cls := "CircuitCyclesModel", name := "sumUp", desc := "()V" } : Jvm.MethodName) prog_14_method_84_code (4 : Nat) (Option.none : Option Jvm.ClassFile.FieldType)) ∈ xw_G := xw_c10 (List.mem_of_getElem? (i := 204) rfl) rfl
theorem wn_10_205 : (Jvm.Cond.methodLink "CircuitCyclesModel" (554 : Nat) ({ cls := "CircuitCyclesModel", name := "begin0", desc := "()V" } : Jvm.MethodName)) ∈ xw_G := xw_c10 (List.mem_of_getElem? (i := 205) rfl) rfl
theorem wn_10_207 : (Jvm.Cond.instanceMethod ({ cls := "CircuitCyclesModel", name := "begin0", desc := "()V" } : Jvm.MethodName)) ∈ xw_G := xw_c10 (List.mem_of_getElem? (i := 207) rfl) rfl
theorem wn_10_208 : (Jvm.Cond.code ({ cls := "CircuitCyclesModel", name := "begin0", desc := "()V" } : Jvm.MethodName) prog_14_method_95_code (2 : Nat) (Option.none : Option Jvm.ClassFile.FieldType)) ∈ xw_G := xw_c10 (List.mem_of_getElem? (i := 208) rfl) rfl
theorem wn_10_209 : (Jvm.Cond.methodLink "CircuitCyclesModel" (608 : Nat) ({ cls := "CircuitCyclesModel", name := "settle", desc := "([J[J)V" } : Jvm.MethodName)) ∈ xw_G := xw_c10 (List.mem_of_getElem? (i := 209) rfl) rfl
theorem wn_10_211 : (Jvm.Cond.instanceMethod ({ cls := "CircuitCyclesModel", name := "settle", desc := "([J[J)V" } : Jvm.MethodName)) ∈ xw_G := xw_c10 (List.mem_of_getElem? (i := 211) rfl) rfl
theorem wn_10_212 : (Jvm.Cond.code ({ cls := "CircuitCyclesModel", name := "settle", desc := "([J[J)V" } : Jvm.MethodName) prog_14_method_92_code (5 : Nat) (Option.none : Option Jvm.ClassFile.FieldType)) ∈ xw_G := xw_c10 (List.mem_of_getElem? (i := 212) rfl) rfl
theorem wn_10_213 : (Jvm.Cond.methodLink "CircuitCyclesModel" (602 : Nat) ({ cls := "CircuitCyclesModel", name := "run", desc := "(III)V" } : Jvm.MethodName)) ∈ xw_G := xw_c10 (List.mem_of_getElem? (i := 213) rfl) rfl
theorem wn_10_215 : (Jvm.Cond.instanceMethod ({ cls := "CircuitCyclesModel", name := "run", desc := "(III)V" } : Jvm.MethodName)) ∈ xw_G := xw_c10 (List.mem_of_getElem? (i := 215) rfl) rfl
theorem wn_10_216 : (Jvm.Cond.code ({ cls := "CircuitCyclesModel", name := "run", desc := "(III)V" } : Jvm.MethodName) prog_14_method_91_code (29 : Nat) (Option.none : Option Jvm.ClassFile.FieldType)) ∈ xw_G := xw_c10 (List.mem_of_getElem? (i := 216) rfl) rfl
theorem wn_10_217 : (Jvm.Cond.methodLink "CircuitCyclesModel" (587 : Nat) ({ cls := "CircuitCyclesModel", name := "push", desc := "(J)V" } : Jvm.MethodName)) ∈ xw_G := xw_c10 (List.mem_of_getElem? (i := 217) rfl) rfl
theorem wn_10_219 : (Jvm.Cond.instanceMethod ({ cls := "CircuitCyclesModel", name := "push", desc := "(J)V" } : Jvm.MethodName)) ∈ xw_G := xw_c10 (List.mem_of_getElem? (i := 219) rfl) rfl
theorem wn_10_220 : (Jvm.Cond.code ({ cls := "CircuitCyclesModel", name := "push", desc := "(J)V" } : Jvm.MethodName) prog_14_method_90_code (3 : Nat) (Option.none : Option Jvm.ClassFile.FieldType)) ∈ xw_G := xw_c10 (List.mem_of_getElem? (i := 220) rfl) rfl
theorem wn_10_221 : (Jvm.Cond.methodLink "CircuitCyclesModel" (590 : Nat) ({ cls := "CircuitCyclesModel", name := "pop", desc := "()J" } : Jvm.MethodName)) ∈ xw_G := xw_c10 (List.mem_of_getElem? (i := 221) rfl) rfl
theorem wn_10_223 : (Jvm.Cond.instanceMethod ({ cls := "CircuitCyclesModel", name := "pop", desc := "()J" } : Jvm.MethodName)) ∈ xw_G := xw_c10 (List.mem_of_getElem? (i := 223) rfl) rfl
theorem wn_10_224 : (Jvm.Cond.code ({ cls := "CircuitCyclesModel", name := "pop", desc := "()J" } : Jvm.MethodName) prog_14_method_89_code (1 : Nat) (Option.some Jvm.ClassFile.FieldType.long)) ∈ xw_G := xw_c10 (List.mem_of_getElem? (i := 224) rfl) rfl
theorem wn_10_225 : (Jvm.Cond.methodLink "CircuitCyclesModel" (581 : Nat) ({ cls := "CircuitCyclesModel", name := "mask", desc := "(I)J" } : Jvm.MethodName)) ∈ xw_G := xw_c10 (List.mem_of_getElem? (i := 225) rfl) rfl
theorem wn_10_226 : (Jvm.Cond.static ({ cls := "CircuitCyclesModel", name := "mask", desc := "(I)J" } : Jvm.MethodName)) ∈ xw_G := xw_c10 (List.mem_of_getElem? (i := 226) rfl) rfl
theorem wn_10_227 : (Jvm.Cond.code ({ cls := "CircuitCyclesModel", name := "mask", desc := "(I)J" } : Jvm.MethodName) prog_14_method_85_code (1 : Nat) (Option.some Jvm.ClassFile.FieldType.long)) ∈ xw_G := xw_c10 (List.mem_of_getElem? (i := 227) rfl) rfl
theorem wn_10_228 : (Jvm.Cond.constantLong "CircuitCyclesModel" (573 : Nat) (-1 : Int64)) ∈ xw_G := xw_c10 (List.mem_of_getElem? (i := 228) rfl) rfl
theorem wn_10_229 : (Jvm.Cond.methodLink "CircuitCyclesModel" (594 : Nat) ({ cls := "CircuitCyclesModel", name := "one", desc := "(IIJ)J" } : Jvm.MethodName)) ∈ xw_G := xw_c10 (List.mem_of_getElem? (i := 229) rfl) rfl
theorem wn_10_230 : (Jvm.Cond.static ({ cls := "CircuitCyclesModel", name := "one", desc := "(IIJ)J" } : Jvm.MethodName)) ∈ xw_G := xw_c10 (List.mem_of_getElem? (i := 230) rfl) rfl
theorem wn_10_231 : (Jvm.Cond.code ({ cls := "CircuitCyclesModel", name := "one", desc := "(IIJ)J" } : Jvm.MethodName) prog_14_method_88_code (7 : Nat) (Option.some Jvm.ClassFile.FieldType.long)) ∈ xw_G := xw_c10 (List.mem_of_getElem? (i := 231) rfl) rfl
theorem wn_10_232 : (Jvm.Cond.methodLink "CircuitCyclesModel" (598 : Nat) ({ cls := "CircuitCyclesModel", name := "two", desc := "(IIJJ)J" } : Jvm.MethodName)) ∈ xw_G := xw_c10 (List.mem_of_getElem? (i := 232) rfl) rfl
theorem wn_10_233 : (Jvm.Cond.static ({ cls := "CircuitCyclesModel", name := "two", desc := "(IIJJ)J" } : Jvm.MethodName)) ∈ xw_G := xw_c10 (List.mem_of_getElem? (i := 233) rfl) rfl
theorem wn_10_234 : (Jvm.Cond.code ({ cls := "CircuitCyclesModel", name := "two", desc := "(IIJJ)J" } : Jvm.MethodName) prog_14_method_87_code (6 : Nat) (Option.some Jvm.ClassFile.FieldType.long)) ∈ xw_G := xw_c10 (List.mem_of_getElem? (i := 234) rfl) rfl
theorem wn_10_235 : (Jvm.Cond.methodLink "CircuitCyclesModel" (577 : Nat) ({ cls := "CircuitCyclesModel", name := "below", desc := "(JJ)Z" } : Jvm.MethodName)) ∈ xw_G := xw_c10 (List.mem_of_getElem? (i := 235) rfl) rfl
theorem wn_10_236 : (Jvm.Cond.static ({ cls := "CircuitCyclesModel", name := "below", desc := "(JJ)Z" } : Jvm.MethodName)) ∈ xw_G := xw_c10 (List.mem_of_getElem? (i := 236) rfl) rfl
theorem wn_10_237 : (Jvm.Cond.code ({ cls := "CircuitCyclesModel", name := "below", desc := "(JJ)Z" } : Jvm.MethodName) prog_14_method_86_code (4 : Nat) (Option.some Jvm.ClassFile.FieldType.boolean)) ∈ xw_G := xw_c10 (List.mem_of_getElem? (i := 237) rfl) rfl
theorem wn_10_238 : (Jvm.Cond.constantLong "CircuitCyclesModel" (575 : Nat) (-9223372036854775808 : Int64)) ∈ xw_G := xw_c10 (List.mem_of_getElem? (i := 238) rfl) rfl
theorem wn_11_19 : (Jvm.Cond.methodLink "CircuitCyclesModel" (615 : Nat) ({ cls := "CircuitCyclesModel", name := "isNamed", desc := "(I)Z" } : Jvm.MethodName)) ∈ xw_G := xw_c11 (List.mem_of_getElem? (i := 19) rfl) rfl
theorem wn_11_21 : (Jvm.Cond.instanceMethod ({ cls := "CircuitCyclesModel", name := "isNamed", desc := "(I)Z" } : Jvm.MethodName)) ∈ xw_G := xw_c11 (List.mem_of_getElem? (i := 21) rfl) rfl
theorem wn_11_22 : (Jvm.Cond.code ({ cls := "CircuitCyclesModel", name := "isNamed", desc := "(I)Z" } : Jvm.MethodName) prog_14_method_102_code (8 : Nat) (Option.some Jvm.ClassFile.FieldType.boolean)) ∈ xw_G := xw_c11 (List.mem_of_getElem? (i := 22) rfl) rfl
theorem wn_11_23 : (Jvm.Cond.methodLink "CircuitCyclesModel" (612 : Nat) ({ cls := "CircuitCyclesModel", name := "goesOn", desc := "(II)Z" } : Jvm.MethodName)) ∈ xw_G := xw_c11 (List.mem_of_getElem? (i := 23) rfl) rfl
theorem wn_11_25 : (Jvm.Cond.instanceMethod ({ cls := "CircuitCyclesModel", name := "goesOn", desc := "(II)Z" } : Jvm.MethodName)) ∈ xw_G := xw_c11 (List.mem_of_getElem? (i := 25) rfl) rfl
theorem wn_11_26 : (Jvm.Cond.code ({ cls := "CircuitCyclesModel", name := "goesOn", desc := "(II)Z" } : Jvm.MethodName) prog_14_method_101_code (5 : Nat) (Option.some Jvm.ClassFile.FieldType.boolean)) ∈ xw_G := xw_c11 (List.mem_of_getElem? (i := 26) rfl) rfl
theorem wn_11_31 : (Jvm.Cond.methodLink "CircuitCyclesModel" (618 : Nat) ({ cls := "CircuitCyclesModel", name := "isSignal", desc := "(I)Z" } : Jvm.MethodName)) ∈ xw_G := xw_c11 (List.mem_of_getElem? (i := 31) rfl) rfl
theorem wn_11_33 : (Jvm.Cond.instanceMethod ({ cls := "CircuitCyclesModel", name := "isSignal", desc := "(I)Z" } : Jvm.MethodName)) ∈ xw_G := xw_c11 (List.mem_of_getElem? (i := 33) rfl) rfl
theorem wn_11_34 : (Jvm.Cond.code ({ cls := "CircuitCyclesModel", name := "isSignal", desc := "(I)Z" } : Jvm.MethodName) prog_14_method_96_code (2 : Nat) (Option.some Jvm.ClassFile.FieldType.boolean)) ∈ xw_G := xw_c11 (List.mem_of_getElem? (i := 34) rfl) rfl
theorem wn_11_35 : (Jvm.Cond.methodLink "CircuitCyclesModel" (621 : Nat) ({ cls := "CircuitCyclesModel", name := "kindOf", desc := "(I)I" } : Jvm.MethodName)) ∈ xw_G := xw_c11 (List.mem_of_getElem? (i := 35) rfl) rfl
theorem wn_11_37 : (Jvm.Cond.instanceMethod ({ cls := "CircuitCyclesModel", name := "kindOf", desc := "(I)I" } : Jvm.MethodName)) ∈ xw_G := xw_c11 (List.mem_of_getElem? (i := 37) rfl) rfl
theorem wn_11_38 : (Jvm.Cond.code ({ cls := "CircuitCyclesModel", name := "kindOf", desc := "(I)I" } : Jvm.MethodName) prog_14_method_104_code (3 : Nat) (Option.some Jvm.ClassFile.FieldType.int)) ∈ xw_G := xw_c11 (List.mem_of_getElem? (i := 38) rfl) rfl
theorem wn_11_51 : (Jvm.Cond.methodLink "CircuitCyclesModel" (624 : Nat) ({ cls := "CircuitCyclesModel", name := "goOn", desc := "([J)V" } : Jvm.MethodName)) ∈ xw_G := xw_c11 (List.mem_of_getElem? (i := 51) rfl) rfl
theorem wn_11_53 : (Jvm.Cond.instanceMethod ({ cls := "CircuitCyclesModel", name := "goOn", desc := "([J)V" } : Jvm.MethodName)) ∈ xw_G := xw_c11 (List.mem_of_getElem? (i := 53) rfl) rfl
theorem wn_11_54 : (Jvm.Cond.code ({ cls := "CircuitCyclesModel", name := "goOn", desc := "([J)V" } : Jvm.MethodName) prog_14_method_93_code (5 : Nat) (Option.none : Option Jvm.ClassFile.FieldType)) ∈ xw_G := xw_c11 (List.mem_of_getElem? (i := 54) rfl) rfl
theorem wn_11_63 : (Jvm.Cond.methodLink "CircuitCyclesModel" (628 : Nat) ({ cls := "CircuitCyclesModel", name := "failingNow", desc := "()I" } : Jvm.MethodName)) ∈ xw_G := xw_c11 (List.mem_of_getElem? (i := 63) rfl) rfl
theorem wn_11_65 : (Jvm.Cond.instanceMethod ({ cls := "CircuitCyclesModel", name := "failingNow", desc := "()I" } : Jvm.MethodName)) ∈ xw_G := xw_c11 (List.mem_of_getElem? (i := 65) rfl) rfl
theorem wn_11_66 : (Jvm.Cond.code ({ cls := "CircuitCyclesModel", name := "failingNow", desc := "()I" } : Jvm.MethodName) prog_14_method_94_code (5 : Nat) (Option.some Jvm.ClassFile.FieldType.int)) ∈ xw_G := xw_c11 (List.mem_of_getElem? (i := 66) rfl) rfl
def yn_M_assign : MethodName := ⟨rn_M, "assign", "()V"⟩
abbrev bn_M_assign : ByteArray := prog_14_method_61_code
def yn_M_at : MethodName := ⟨rn_M, "at", "(I)I"⟩
abbrev bn_M_at : ByteArray := prog_14_method_3_code
def yn_M_begin : MethodName := ⟨rn_M, "begin", "(III)V"⟩
abbrev bn_M_begin : ByteArray := prog_14_method_76_code
def yn_M_begin0 : MethodName := ⟨rn_M, "begin0", "()V"⟩
abbrev bn_M_begin0 : ByteArray := prog_14_method_95_code
def yn_M_beginGrammar : MethodName := ⟨rn_M, "beginGrammar", "()V"⟩
abbrev bn_M_beginGrammar : ByteArray := prog_14_method_33_code
def yn_M_below : MethodName := ⟨rn_M, "below", "(JJ)Z"⟩
abbrev bn_M_below : ByteArray := prog_14_method_86_code
def yn_M_binary : MethodName := ⟨rn_M, "binary", "()I"⟩
abbrev bn_M_binary : ByteArray := prog_14_method_49_code
def yn_M_bound : MethodName := ⟨rn_M, "bound", "(ZII)V"⟩
abbrev bn_M_bound : ByteArray := prog_14_method_74_code
def yn_M_braces : MethodName := ⟨rn_M, "braces", "(I)I"⟩
abbrev bn_M_braces : ByteArray := prog_14_method_55_code
def yn_M_bracesGrammar : MethodName := ⟨rn_M, "bracesGrammar", "()V"⟩
abbrev bn_M_bracesGrammar : ByteArray := prog_14_method_31_code
def yn_M_canBe : MethodName := ⟨rn_M, "canBe", "(I)Z"⟩
abbrev bn_M_canBe : ByteArray := prog_14_method_79_code
def yn_M_caseGrammar : MethodName := ⟨rn_M, "caseGrammar", "()V"⟩
abbrev bn_M_caseGrammar : ByteArray := prog_14_method_36_code
def yn_M_caseOf : MethodName := ⟨rn_M, "caseOf", "()V"⟩
abbrev bn_M_caseOf : ByteArray := prog_14_method_63_code
def yn_M_cost : MethodName := ⟨rn_M, "cost", "(J)V"⟩
abbrev bn_M_cost : ByteArray := prog_14_method_45_code
def yn_M_count : MethodName := ⟨rn_M, "count", "(I)I"⟩
abbrev bn_M_count : ByteArray := prog_14_method_100_code
def yn_M_cutTokens : MethodName := ⟨rn_M, "cutTokens", "()V"⟩
abbrev bn_M_cutTokens : ByteArray := prog_14_method_16_code
def yn_M_declare : MethodName := ⟨rn_M, "declare", "(II)V"⟩
abbrev bn_M_declare : ByteArray := prog_14_method_57_code
def yn_M_dependsOnItself : MethodName := ⟨rn_M, "dependsOnItself", "(I)Z"⟩
abbrev bn_M_dependsOnItself : ByteArray := prog_14_method_81_code
def yn_M_design : MethodName := ⟨rn_M, "design", "()V"⟩
abbrev bn_M_design : ByteArray := prog_14_method_72_code
def yn_M_designGrammar : MethodName := ⟨rn_M, "designGrammar", "()V"⟩
abbrev bn_M_designGrammar : ByteArray := prog_14_method_39_code
def yn_M_digit : MethodName := ⟨rn_M, "digit", "(I)I"⟩
abbrev bn_M_digit : ByteArray := prog_14_method_9_code
def yn_M_end : MethodName := ⟨rn_M, "end", "(I)V"⟩
abbrev bn_M_end : ByteArray := prog_14_method_98_code
def yn_M_exp : MethodName := ⟨rn_M, "exp", "()I"⟩
abbrev bn_M_exp : ByteArray := prog_14_method_48_code
def yn_M_expGrammar : MethodName := ⟨rn_M, "expGrammar", "()V"⟩
abbrev bn_M_expGrammar : ByteArray := prog_14_method_28_code
def yn_M_fail : MethodName := ⟨rn_M, "fail", "(II)V"⟩
abbrev bn_M_fail : ByteArray := prog_14_method_19_code
def yn_M_failing : MethodName := ⟨rn_M, "failing", "()I"⟩
abbrev bn_M_failing : ByteArray := prog_14_method_110_code
def yn_M_failingNow : MethodName := ⟨rn_M, "failingNow", "()I"⟩
abbrev bn_M_failingNow : ByteArray := prog_14_method_94_code
def yn_M_fault : MethodName := ⟨rn_M, "fault", "()I"⟩
abbrev bn_M_fault : ByteArray := prog_14_method_99_code
def yn_M_feed : MethodName := ⟨rn_M, "feed", "(IIIII)I"⟩
abbrev bn_M_feed : ByteArray := prog_14_method_97_code
def yn_M_find : MethodName := ⟨rn_M, "find", "()I"⟩
abbrev bn_M_find : ByteArray := prog_14_method_103_code
def yn_M_findRule : MethodName := ⟨rn_M, "findRule", "(I)V"⟩
abbrev bn_M_findRule : ByteArray := prog_14_method_78_code
def yn_M_goOn : MethodName := ⟨rn_M, "goOn", "([J)V"⟩
abbrev bn_M_goOn : ByteArray := prog_14_method_93_code
def yn_M_goesOn : MethodName := ⟨rn_M, "goesOn", "(II)Z"⟩
abbrev bn_M_goesOn : ByteArray := prog_14_method_101_code
def yn_M_here : MethodName := ⟨rn_M, "here", "(I)I"⟩
abbrev bn_M_here : ByteArray := prog_14_method_43_code
def yn_M_instance : MethodName := ⟨rn_M, "instance", "()V"⟩
abbrev bn_M_instance : ByteArray := prog_14_method_66_code
def yn_M_is : MethodName := ⟨rn_M, "is", "(I)Z"⟩
abbrev bn_M_is : ByteArray := prog_14_method_21_code
def yn_M_isDigit : MethodName := ⟨rn_M, "isDigit", "(I)Z"⟩
abbrev bn_M_isDigit : ByteArray := prog_14_method_4_code
def yn_M_isDriven : MethodName := ⟨rn_M, "isDriven", "(I)Z"⟩
abbrev bn_M_isDriven : ByteArray := prog_14_method_59_code
def yn_M_isIn : MethodName := ⟨rn_M, "isIn", "(I)Z"⟩
abbrev bn_M_isIn : ByteArray := prog_14_method_6_code
def yn_M_isInstanceName : MethodName := ⟨rn_M, "isInstanceName", "(I)Z"⟩
abbrev bn_M_isInstanceName : ByteArray := prog_14_method_44_code
def yn_M_isLetter : MethodName := ⟨rn_M, "isLetter", "(I)Z"⟩
abbrev bn_M_isLetter : ByteArray := prog_14_method_5_code
def yn_M_isNamed : MethodName := ⟨rn_M, "isNamed", "(I)Z"⟩
abbrev bn_M_isNamed : ByteArray := prog_14_method_102_code
def yn_M_isRegister : MethodName := ⟨rn_M, "isRegister", "(I)Z"⟩
abbrev bn_M_isRegister : ByteArray := prog_14_method_60_code
def yn_M_isSign : MethodName := ⟨rn_M, "isSign", "(I)Z"⟩
abbrev bn_M_isSign : ByteArray := prog_14_method_14_code
def yn_M_isSignal : MethodName := ⟨rn_M, "isSignal", "(I)Z"⟩
abbrev bn_M_isSignal : ByteArray := prog_14_method_96_code
def yn_M_isUnary : MethodName := ⟨rn_M, "isUnary", "(I)Z"⟩
abbrev bn_M_isUnary : ByteArray := prog_14_method_26_code
def yn_M_item : MethodName := ⟨rn_M, "item", "()V"⟩
abbrev bn_M_item : ByteArray := prog_14_method_69_code
def yn_M_itemGrammar : MethodName := ⟨rn_M, "itemGrammar", "()V"⟩
abbrev bn_M_itemGrammar : ByteArray := prog_14_method_37_code
def yn_M_keepNumber : MethodName := ⟨rn_M, "keepNumber", "(J)I"⟩
abbrev bn_M_keepNumber : ByteArray := prog_14_method_47_code
def yn_M_kind : MethodName := ⟨rn_M, "kind", "()I"⟩
abbrev bn_M_kind : ByteArray := prog_14_method_20_code
def yn_M_kindOf : MethodName := ⟨rn_M, "kindOf", "(I)I"⟩
abbrev bn_M_kindOf : ByteArray := prog_14_method_104_code
def yn_M_lay : MethodName := ⟨rn_M, "lay", "(III)V"⟩
abbrev bn_M_lay : ByteArray := prog_14_method_46_code
def yn_M_limits : MethodName := ⟨rn_M, "limits", "()V"⟩
abbrev bn_M_limits : ByteArray := prog_14_method_73_code
def yn_M_link : MethodName := ⟨rn_M, "link", "(I)V"⟩
abbrev bn_M_link : ByteArray := prog_14_method_68_code
def yn_M_linkGrammar : MethodName := ⟨rn_M, "linkGrammar", "()V"⟩
abbrev bn_M_linkGrammar : ByteArray := prog_14_method_38_code
def yn_M_linkOf : MethodName := ⟨rn_M, "linkOf", "(III)I"⟩
abbrev bn_M_linkOf : ByteArray := prog_14_method_67_code
def yn_M_mask : MethodName := ⟨rn_M, "mask", "(I)J"⟩
abbrev bn_M_mask : ByteArray := prog_14_method_85_code
def yn_M_module : MethodName := ⟨rn_M, "module", "()V"⟩
abbrev bn_M_module : ByteArray := prog_14_method_71_code
def yn_M_moduleNamed : MethodName := ⟨rn_M, "moduleNamed", "(II)I"⟩
abbrev bn_M_moduleNamed : ByteArray := prog_14_method_41_code
def yn_M_most : MethodName := ⟨rn_M, "most", "(J)J"⟩
abbrev bn_M_most : ByteArray := prog_14_method_70_code
def yn_M_no : MethodName := ⟨rn_M, "no", "()V"⟩
abbrev bn_M_no : ByteArray := prog_14_method_22_code
def yn_M_numberEnd : MethodName := ⟨rn_M, "numberEnd", "(I)I"⟩
abbrev bn_M_numberEnd : ByteArray := prog_14_method_12_code
def yn_M_numberKind : MethodName := ⟨rn_M, "numberKind", "(II)I"⟩
abbrev bn_M_numberKind : ByteArray := prog_14_method_11_code
def yn_M_numberOf : MethodName := ⟨rn_M, "numberOf", "(I)J"⟩
abbrev bn_M_numberOf : ByteArray := prog_14_method_17_code
def yn_M_one : MethodName := ⟨rn_M, "one", "(IIJ)J"⟩
abbrev bn_M_one : ByteArray := prog_14_method_88_code
def yn_M_open : MethodName := ⟨rn_M, "open", "(I)V"⟩
abbrev bn_M_open : ByteArray := prog_14_method_24_code
def yn_M_operand : MethodName := ⟨rn_M, "operand", "()I"⟩
abbrev bn_M_operand : ByteArray := prog_14_method_52_code
def yn_M_operandGrammar : MethodName := ⟨rn_M, "operandGrammar", "()V"⟩
abbrev bn_M_operandGrammar : ByteArray := prog_14_method_29_code
def yn_M_pair : MethodName := ⟨rn_M, "pair", "(II)I"⟩
abbrev bn_M_pair : ByteArray := prog_14_method_13_code
def yn_M_part : MethodName := ⟨rn_M, "part", "(I)I"⟩
abbrev bn_M_part : ByteArray := prog_14_method_54_code
def yn_M_partGrammar : MethodName := ⟨rn_M, "partGrammar", "()V"⟩
abbrev bn_M_partGrammar : ByteArray := prog_14_method_30_code
def yn_M_patch : MethodName := ⟨rn_M, "patch", "(I)V"⟩
abbrev bn_M_patch : ByteArray := prog_14_method_64_code
def yn_M_pop : MethodName := ⟨rn_M, "pop", "()J"⟩
abbrev bn_M_pop : ByteArray := prog_14_method_89_code
def yn_M_port : MethodName := ⟨rn_M, "port", "()V"⟩
abbrev bn_M_port : ByteArray := prog_14_method_58_code
def yn_M_portGrammar : MethodName := ⟨rn_M, "portGrammar", "()V"⟩
abbrev bn_M_portGrammar : ByteArray := prog_14_method_34_code
def yn_M_primary : MethodName := ⟨rn_M, "primary", "()I"⟩
abbrev bn_M_primary : ByteArray := prog_14_method_53_code
def yn_M_push : MethodName := ⟨rn_M, "push", "(J)V"⟩
abbrev bn_M_push : ByteArray := prog_14_method_90_code
def yn_M_pushWidth : MethodName := ⟨rn_M, "pushWidth", "(I)V"⟩
abbrev bn_M_pushWidth : ByteArray := prog_14_method_50_code
def yn_M_putInOrder : MethodName := ⟨rn_M, "putInOrder", "()V"⟩
abbrev bn_M_putInOrder : ByteArray := prog_14_method_80_code
def yn_M_range : MethodName := ⟨rn_M, "range", "()I"⟩
abbrev bn_M_range : ByteArray := prog_14_method_56_code
def yn_M_rangeGrammar : MethodName := ⟨rn_M, "rangeGrammar", "()V"⟩
abbrev bn_M_rangeGrammar : ByteArray := prog_14_method_32_code
def yn_M_rank : MethodName := ⟨rn_M, "rank", "(I)I"⟩
abbrev bn_M_rank : ByteArray := prog_14_method_27_code
def yn_M_readSource : MethodName := ⟨rn_M, "readSource", "()V"⟩
abbrev bn_M_readSource : ByteArray := prog_14_method_82_code
def yn_M_read_I : MethodName := ⟨rn_M, "read", "()I"⟩
abbrev bn_M_read_I : ByteArray := prog_14_method_83_code
def yn_M_read_IIIIJ : MethodName := ⟨rn_M, "read", "(IIII)J"⟩
abbrev bn_M_read_IIIIJ : ByteArray := prog_14_method_10_code
def yn_M_reckon : MethodName := ⟨rn_M, "reckon", "()V"⟩
abbrev bn_M_reckon : ByteArray := prog_14_method_51_code
def yn_M_reset : MethodName := ⟨rn_M, "reset", "()V"⟩
abbrev bn_M_reset : ByteArray := prog_14_method_106_code
def yn_M_run : MethodName := ⟨rn_M, "run", "(III)V"⟩
abbrev bn_M_run : ByteArray := prog_14_method_91_code
def yn_M_sameToken : MethodName := ⟨rn_M, "sameToken", "(II)Z"⟩
abbrev bn_M_sameToken : ByteArray := prog_14_method_40_code
def yn_M_set : MethodName := ⟨rn_M, "set", "(II)V"⟩
abbrev bn_M_set : ByteArray := prog_14_method_107_code
def yn_M_setting : MethodName := ⟨rn_M, "setting", "()V"⟩
abbrev bn_M_setting : ByteArray := prog_14_method_65_code
def yn_M_settle : MethodName := ⟨rn_M, "settle", "([J[J)V"⟩
abbrev bn_M_settle : ByteArray := prog_14_method_92_code
def yn_M_shut : MethodName := ⟨rn_M, "shut", "(I)V"⟩
abbrev bn_M_shut : ByteArray := prog_14_method_25_code
def yn_M_signal : MethodName := ⟨rn_M, "signal", "(II)I"⟩
abbrev bn_M_signal : ByteArray := prog_14_method_105_code
def yn_M_signalNamed : MethodName := ⟨rn_M, "signalNamed", "(III)I"⟩
abbrev bn_M_signalNamed : ByteArray := prog_14_method_42_code
def yn_M_signalOf : MethodName := ⟨rn_M, "signalOf", "(II)I"⟩
abbrev bn_M_signalOf : ByteArray := prog_14_method_77_code
def yn_M_skip : MethodName := ⟨rn_M, "skip", "(I)I"⟩
abbrev bn_M_skip : ByteArray := prog_14_method_7_code
def yn_M_statement : MethodName := ⟨rn_M, "statement", "()V"⟩
abbrev bn_M_statement : ByteArray := prog_14_method_62_code
def yn_M_statementGrammar : MethodName := ⟨rn_M, "statementGrammar", "()V"⟩
abbrev bn_M_statementGrammar : ByteArray := prog_14_method_35_code
def yn_M_step : MethodName := ⟨rn_M, "step", "()I"⟩
abbrev bn_M_step : ByteArray := prog_14_method_108_code
def yn_M_sumUp : MethodName := ⟨rn_M, "sumUp", "()V"⟩
abbrev bn_M_sumUp : ByteArray := prog_14_method_84_code
def yn_M_take : MethodName := ⟨rn_M, "take", "(I)V"⟩
abbrev bn_M_take : ByteArray := prog_14_method_23_code
def yn_M_thrown : MethodName := ⟨rn_M, "thrown", "()I"⟩
abbrev bn_M_thrown : ByteArray := prog_14_method_2_code
def yn_M_token : MethodName := ⟨rn_M, "token", "(III)V"⟩
abbrev bn_M_token : ByteArray := prog_14_method_15_code
def yn_M_two : MethodName := ⟨rn_M, "two", "(IIJJ)J"⟩
abbrev bn_M_two : ByteArray := prog_14_method_87_code
def yn_M_value : MethodName := ⟨rn_M, "value", "(I)J"⟩
abbrev bn_M_value : ByteArray := prog_14_method_109_code
def yn_M_widthOfNumber : MethodName := ⟨rn_M, "widthOfNumber", "(I)I"⟩
abbrev bn_M_widthOfNumber : ByteArray := prog_14_method_18_code
def yn_M_wordKind : MethodName := ⟨rn_M, "wordKind", "(II)I"⟩
abbrev bn_M_wordKind : ByteArray := prog_14_method_8_code
def yn_M_writeOut : MethodName := ⟨rn_M, "writeOut", "()V"⟩
abbrev bn_M_writeOut : ByteArray := prog_14_method_75_code
theorem sn_M_assign : Cond.selects rn_M yn_M_assign yn_M_assign ∈ xw_G := xw_s7 (q := (yn_M_assign, 91)) (List.mem_of_getElem? (i := 11) rfl)
theorem sn_M_at : Cond.selects rn_M yn_M_at yn_M_at ∈ xw_G := xw_s5 (q := (yn_M_at, 91)) (List.mem_of_getElem? (i := 5) rfl)
theorem sn_M_begin : Cond.selects rn_M yn_M_begin yn_M_begin ∈ xw_G := xw_s9 (q := (yn_M_begin, 91)) (List.mem_of_getElem? (i := 3) rfl)
theorem sn_M_begin0 : Cond.selects rn_M yn_M_begin0 yn_M_begin0 ∈ xw_G := xw_s9 (q := (yn_M_begin0, 91)) (List.mem_of_getElem? (i := 10) rfl)
theorem sn_M_beginGrammar : Cond.selects rn_M yn_M_beginGrammar yn_M_beginGrammar ∈ xw_G := xw_s6 (q := (yn_M_beginGrammar, 91)) (List.mem_of_getElem? (i := 4) rfl)
theorem sn_M_binary : Cond.selects rn_M yn_M_binary yn_M_binary ∈ xw_G := xw_s7 (q := (yn_M_binary, 91)) (List.mem_of_getElem? (i := 14) rfl)
theorem sn_M_bound : Cond.selects rn_M yn_M_bound yn_M_bound ∈ xw_G := xw_s9 (q := (yn_M_bound, 91)) (List.mem_of_getElem? (i := 1) rfl)
theorem sn_M_braces : Cond.selects rn_M yn_M_braces yn_M_braces ∈ xw_G := xw_s8 (q := (yn_M_braces, 91)) (List.mem_of_getElem? (i := 3) rfl)
theorem sn_M_bracesGrammar : Cond.selects rn_M yn_M_bracesGrammar yn_M_bracesGrammar ∈ xw_G := xw_s6 (q := (yn_M_bracesGrammar, 91)) (List.mem_of_getElem? (i := 10) rfl)
theorem sn_M_canBe : Cond.selects rn_M yn_M_canBe yn_M_canBe ∈ xw_G := xw_s9 (q := (yn_M_canBe, 91)) (List.mem_of_getElem? (i := 7) rfl)
theorem sn_M_caseGrammar : Cond.selects rn_M yn_M_caseGrammar yn_M_caseGrammar ∈ xw_G := xw_s6 (q := (yn_M_caseGrammar, 91)) (List.mem_of_getElem? (i := 12) rfl)
theorem sn_M_caseOf : Cond.selects rn_M yn_M_caseOf yn_M_caseOf ∈ xw_G := xw_s8 (q := (yn_M_caseOf, 91)) (List.mem_of_getElem? (i := 9) rfl)
theorem sn_M_cost : Cond.selects rn_M yn_M_cost yn_M_cost ∈ xw_G := xw_s8 (q := (yn_M_cost, 91)) (List.mem_of_getElem? (i := 5) rfl)
theorem sn_M_cutTokens : Cond.selects rn_M yn_M_cutTokens yn_M_cutTokens ∈ xw_G := xw_s5 (q := (yn_M_cutTokens, 91)) (List.mem_of_getElem? (i := 3) rfl)
theorem sn_M_declare : Cond.selects rn_M yn_M_declare yn_M_declare ∈ xw_G := xw_s7 (q := (yn_M_declare, 91)) (List.mem_of_getElem? (i := 5) rfl)
theorem sn_M_dependsOnItself : Cond.selects rn_M yn_M_dependsOnItself yn_M_dependsOnItself ∈ xw_G := xw_s9 (q := (yn_M_dependsOnItself, 91)) (List.mem_of_getElem? (i := 8) rfl)
theorem sn_M_design : Cond.selects rn_M yn_M_design yn_M_design ∈ xw_G := xw_s6 (q := (yn_M_design, 91)) (List.mem_of_getElem? (i := 14) rfl)
theorem sn_M_designGrammar : Cond.selects rn_M yn_M_designGrammar yn_M_designGrammar ∈ xw_G := xw_s5 (q := (yn_M_designGrammar, 91)) (List.mem_of_getElem? (i := 11) rfl)
theorem sn_M_exp : Cond.selects rn_M yn_M_exp yn_M_exp ∈ xw_G := xw_s7 (q := (yn_M_exp, 91)) (List.mem_of_getElem? (i := 13) rfl)
theorem sn_M_expGrammar : Cond.selects rn_M yn_M_expGrammar yn_M_expGrammar ∈ xw_G := xw_s6 (q := (yn_M_expGrammar, 91)) (List.mem_of_getElem? (i := 7) rfl)
theorem sn_M_fail : Cond.selects rn_M yn_M_fail yn_M_fail ∈ xw_G := xw_s5 (q := (yn_M_fail, 91)) (List.mem_of_getElem? (i := 14) rfl)
theorem sn_M_failingNow : Cond.selects rn_M yn_M_failingNow yn_M_failingNow ∈ xw_G := xw_s10 (q := (yn_M_failingNow, 91)) (List.mem_of_getElem? (i := 4) rfl)
theorem sn_M_findRule : Cond.selects rn_M yn_M_findRule yn_M_findRule ∈ xw_G := xw_s9 (q := (yn_M_findRule, 91)) (List.mem_of_getElem? (i := 4) rfl)
theorem sn_M_goOn : Cond.selects rn_M yn_M_goOn yn_M_goOn ∈ xw_G := xw_s10 (q := (yn_M_goOn, 91)) (List.mem_of_getElem? (i := 3) rfl)
theorem sn_M_goesOn : Cond.selects rn_M yn_M_goesOn yn_M_goesOn ∈ xw_G := xw_s10 (q := (yn_M_goesOn, 91)) (List.mem_of_getElem? (i := 0) rfl)
theorem sn_M_here : Cond.selects rn_M yn_M_here yn_M_here ∈ xw_G := xw_s7 (q := (yn_M_here, 91)) (List.mem_of_getElem? (i := 6) rfl)
theorem sn_M_instance : Cond.selects rn_M yn_M_instance yn_M_instance ∈ xw_G := xw_s8 (q := (yn_M_instance, 91)) (List.mem_of_getElem? (i := 13) rfl)
theorem sn_M_is : Cond.selects rn_M yn_M_is yn_M_is ∈ xw_G := xw_s6 (q := (yn_M_is, 91)) (List.mem_of_getElem? (i := 0) rfl)
theorem sn_M_isDriven : Cond.selects rn_M yn_M_isDriven yn_M_isDriven ∈ xw_G := xw_s7 (q := (yn_M_isDriven, 91)) (List.mem_of_getElem? (i := 12) rfl)
theorem sn_M_isInstanceName : Cond.selects rn_M yn_M_isInstanceName yn_M_isInstanceName ∈ xw_G := xw_s7 (q := (yn_M_isInstanceName, 91)) (List.mem_of_getElem? (i := 8) rfl)
theorem sn_M_isNamed : Cond.selects rn_M yn_M_isNamed yn_M_isNamed ∈ xw_G := xw_s9 (q := (yn_M_isNamed, 91)) (List.mem_of_getElem? (i := 15) rfl)
theorem sn_M_isRegister : Cond.selects rn_M yn_M_isRegister yn_M_isRegister ∈ xw_G := xw_s8 (q := (yn_M_isRegister, 91)) (List.mem_of_getElem? (i := 12) rfl)
theorem sn_M_isSignal : Cond.selects rn_M yn_M_isSignal yn_M_isSignal ∈ xw_G := xw_s10 (q := (yn_M_isSignal, 91)) (List.mem_of_getElem? (i := 1) rfl)
theorem sn_M_item : Cond.selects rn_M yn_M_item yn_M_item ∈ xw_G := xw_s7 (q := (yn_M_item, 91)) (List.mem_of_getElem? (i := 10) rfl)
theorem sn_M_itemGrammar : Cond.selects rn_M yn_M_itemGrammar yn_M_itemGrammar ∈ xw_G := xw_s6 (q := (yn_M_itemGrammar, 91)) (List.mem_of_getElem? (i := 6) rfl)
theorem sn_M_keepNumber : Cond.selects rn_M yn_M_keepNumber yn_M_keepNumber ∈ xw_G := xw_s8 (q := (yn_M_keepNumber, 91)) (List.mem_of_getElem? (i := 1) rfl)
theorem sn_M_kind : Cond.selects rn_M yn_M_kind yn_M_kind ∈ xw_G := xw_s6 (q := (yn_M_kind, 91)) (List.mem_of_getElem? (i := 5) rfl)
theorem sn_M_kindOf : Cond.selects rn_M yn_M_kindOf yn_M_kindOf ∈ xw_G := xw_s10 (q := (yn_M_kindOf, 91)) (List.mem_of_getElem? (i := 2) rfl)
theorem sn_M_lay : Cond.selects rn_M yn_M_lay yn_M_lay ∈ xw_G := xw_s8 (q := (yn_M_lay, 91)) (List.mem_of_getElem? (i := 2) rfl)
theorem sn_M_limits : Cond.selects rn_M yn_M_limits yn_M_limits ∈ xw_G := xw_s9 (q := (yn_M_limits, 91)) (List.mem_of_getElem? (i := 0) rfl)
theorem sn_M_link : Cond.selects rn_M yn_M_link yn_M_link ∈ xw_G := xw_s8 (q := (yn_M_link, 91)) (List.mem_of_getElem? (i := 14) rfl)
theorem sn_M_linkGrammar : Cond.selects rn_M yn_M_linkGrammar yn_M_linkGrammar ∈ xw_G := xw_s6 (q := (yn_M_linkGrammar, 91)) (List.mem_of_getElem? (i := 13) rfl)
theorem sn_M_linkOf : Cond.selects rn_M yn_M_linkOf yn_M_linkOf ∈ xw_G := xw_s8 (q := (yn_M_linkOf, 91)) (List.mem_of_getElem? (i := 15) rfl)
theorem sn_M_module : Cond.selects rn_M yn_M_module yn_M_module ∈ xw_G := xw_s6 (q := (yn_M_module, 91)) (List.mem_of_getElem? (i := 15) rfl)
theorem sn_M_moduleNamed : Cond.selects rn_M yn_M_moduleNamed yn_M_moduleNamed ∈ xw_G := xw_s7 (q := (yn_M_moduleNamed, 91)) (List.mem_of_getElem? (i := 0) rfl)
theorem sn_M_no : Cond.selects rn_M yn_M_no yn_M_no ∈ xw_G := xw_s5 (q := (yn_M_no, 91)) (List.mem_of_getElem? (i := 13) rfl)
theorem sn_M_numberEnd : Cond.selects rn_M yn_M_numberEnd yn_M_numberEnd ∈ xw_G := xw_s5 (q := (yn_M_numberEnd, 91)) (List.mem_of_getElem? (i := 8) rfl)
theorem sn_M_numberKind : Cond.selects rn_M yn_M_numberKind yn_M_numberKind ∈ xw_G := xw_s5 (q := (yn_M_numberKind, 91)) (List.mem_of_getElem? (i := 9) rfl)
theorem sn_M_numberOf : Cond.selects rn_M yn_M_numberOf yn_M_numberOf ∈ xw_G := xw_s7 (q := (yn_M_numberOf, 91)) (List.mem_of_getElem? (i := 4) rfl)
theorem sn_M_open : Cond.selects rn_M yn_M_open yn_M_open ∈ xw_G := xw_s5 (q := (yn_M_open, 91)) (List.mem_of_getElem? (i := 15) rfl)
theorem sn_M_operand : Cond.selects rn_M yn_M_operand yn_M_operand ∈ xw_G := xw_s7 (q := (yn_M_operand, 91)) (List.mem_of_getElem? (i := 15) rfl)
theorem sn_M_operandGrammar : Cond.selects rn_M yn_M_operandGrammar yn_M_operandGrammar ∈ xw_G := xw_s6 (q := (yn_M_operandGrammar, 91)) (List.mem_of_getElem? (i := 8) rfl)
theorem sn_M_part : Cond.selects rn_M yn_M_part yn_M_part ∈ xw_G := xw_s8 (q := (yn_M_part, 91)) (List.mem_of_getElem? (i := 4) rfl)
theorem sn_M_partGrammar : Cond.selects rn_M yn_M_partGrammar yn_M_partGrammar ∈ xw_G := xw_s6 (q := (yn_M_partGrammar, 91)) (List.mem_of_getElem? (i := 9) rfl)
theorem sn_M_patch : Cond.selects rn_M yn_M_patch yn_M_patch ∈ xw_G := xw_s8 (q := (yn_M_patch, 91)) (List.mem_of_getElem? (i := 10) rfl)
theorem sn_M_pop : Cond.selects rn_M yn_M_pop yn_M_pop ∈ xw_G := xw_s9 (q := (yn_M_pop, 91)) (List.mem_of_getElem? (i := 14) rfl)
theorem sn_M_port : Cond.selects rn_M yn_M_port yn_M_port ∈ xw_G := xw_s7 (q := (yn_M_port, 91)) (List.mem_of_getElem? (i := 2) rfl)
theorem sn_M_portGrammar : Cond.selects rn_M yn_M_portGrammar yn_M_portGrammar ∈ xw_G := xw_s6 (q := (yn_M_portGrammar, 91)) (List.mem_of_getElem? (i := 1) rfl)
theorem sn_M_primary : Cond.selects rn_M yn_M_primary yn_M_primary ∈ xw_G := xw_s8 (q := (yn_M_primary, 91)) (List.mem_of_getElem? (i := 0) rfl)
theorem sn_M_push : Cond.selects rn_M yn_M_push yn_M_push ∈ xw_G := xw_s9 (q := (yn_M_push, 91)) (List.mem_of_getElem? (i := 13) rfl)
theorem sn_M_pushWidth : Cond.selects rn_M yn_M_pushWidth yn_M_pushWidth ∈ xw_G := xw_s8 (q := (yn_M_pushWidth, 91)) (List.mem_of_getElem? (i := 6) rfl)
theorem sn_M_putInOrder : Cond.selects rn_M yn_M_putInOrder yn_M_putInOrder ∈ xw_G := xw_s9 (q := (yn_M_putInOrder, 91)) (List.mem_of_getElem? (i := 6) rfl)
theorem sn_M_range : Cond.selects rn_M yn_M_range yn_M_range ∈ xw_G := xw_s7 (q := (yn_M_range, 91)) (List.mem_of_getElem? (i := 3) rfl)
theorem sn_M_rangeGrammar : Cond.selects rn_M yn_M_rangeGrammar yn_M_rangeGrammar ∈ xw_G := xw_s6 (q := (yn_M_rangeGrammar, 91)) (List.mem_of_getElem? (i := 2) rfl)
theorem sn_M_read_IIIIJ : Cond.selects rn_M yn_M_read_IIIIJ yn_M_read_IIIIJ ∈ xw_G := xw_s5 (q := (yn_M_read_IIIIJ, 91)) (List.mem_of_getElem? (i := 10) rfl)
theorem sn_M_readSource : Cond.selects rn_M yn_M_readSource yn_M_readSource ∈ xw_G := xw_s5 (q := (yn_M_readSource, 91)) (List.mem_of_getElem? (i := 2) rfl)
theorem sn_M_reckon : Cond.selects rn_M yn_M_reckon yn_M_reckon ∈ xw_G := xw_s8 (q := (yn_M_reckon, 91)) (List.mem_of_getElem? (i := 7) rfl)
theorem sn_M_run : Cond.selects rn_M yn_M_run yn_M_run ∈ xw_G := xw_s9 (q := (yn_M_run, 91)) (List.mem_of_getElem? (i := 12) rfl)
theorem sn_M_sameToken : Cond.selects rn_M yn_M_sameToken yn_M_sameToken ∈ xw_G := xw_s7 (q := (yn_M_sameToken, 91)) (List.mem_of_getElem? (i := 1) rfl)
theorem sn_M_setting : Cond.selects rn_M yn_M_setting yn_M_setting ∈ xw_G := xw_s8 (q := (yn_M_setting, 91)) (List.mem_of_getElem? (i := 11) rfl)
theorem sn_M_settle : Cond.selects rn_M yn_M_settle yn_M_settle ∈ xw_G := xw_s9 (q := (yn_M_settle, 91)) (List.mem_of_getElem? (i := 11) rfl)
theorem sn_M_shut : Cond.selects rn_M yn_M_shut yn_M_shut ∈ xw_G := xw_s6 (q := (yn_M_shut, 91)) (List.mem_of_getElem? (i := 3) rfl)
theorem sn_M_signalNamed : Cond.selects rn_M yn_M_signalNamed yn_M_signalNamed ∈ xw_G := xw_s7 (q := (yn_M_signalNamed, 91)) (List.mem_of_getElem? (i := 7) rfl)
theorem sn_M_signalOf : Cond.selects rn_M yn_M_signalOf yn_M_signalOf ∈ xw_G := xw_s9 (q := (yn_M_signalOf, 91)) (List.mem_of_getElem? (i := 5) rfl)
theorem sn_M_skip : Cond.selects rn_M yn_M_skip yn_M_skip ∈ xw_G := xw_s5 (q := (yn_M_skip, 91)) (List.mem_of_getElem? (i := 4) rfl)
theorem sn_M_statement : Cond.selects rn_M yn_M_statement yn_M_statement ∈ xw_G := xw_s8 (q := (yn_M_statement, 91)) (List.mem_of_getElem? (i := 8) rfl)
theorem sn_M_statementGrammar : Cond.selects rn_M yn_M_statementGrammar yn_M_statementGrammar ∈ xw_G := xw_s6 (q := (yn_M_statementGrammar, 91)) (List.mem_of_getElem? (i := 11) rfl)
theorem sn_M_sumUp : Cond.selects rn_M yn_M_sumUp yn_M_sumUp ∈ xw_G := xw_s9 (q := (yn_M_sumUp, 91)) (List.mem_of_getElem? (i := 9) rfl)
theorem sn_M_take : Cond.selects rn_M yn_M_take yn_M_take ∈ xw_G := xw_s5 (q := (yn_M_take, 91)) (List.mem_of_getElem? (i := 12) rfl)
theorem sn_M_token : Cond.selects rn_M yn_M_token yn_M_token ∈ xw_G := xw_s5 (q := (yn_M_token, 91)) (List.mem_of_getElem? (i := 6) rfl)
theorem sn_M_widthOfNumber : Cond.selects rn_M yn_M_widthOfNumber yn_M_widthOfNumber ∈ xw_G := xw_s7 (q := (yn_M_widthOfNumber, 91)) (List.mem_of_getElem? (i := 9) rfl)
theorem sn_M_wordKind : Cond.selects rn_M yn_M_wordKind yn_M_wordKind ∈ xw_G := xw_s5 (q := (yn_M_wordKind, 91)) (List.mem_of_getElem? (i := 7) rfl)
theorem sn_M_writeOut : Cond.selects rn_M yn_M_writeOut yn_M_writeOut ∈ xw_G := xw_s9 (q := (yn_M_writeOut, 91)) (List.mem_of_getElem? (i := 2) rfl)
theorem dn_M_assign_0 : decode bn_M_assign 0 = .ok (.aload_n 0, 1) := by decide +kernel
theorem dn_M_assign_1 : decode bn_M_assign 1 = .ok (.dup, 1) := by decide +kernel
theorem dn_M_assign_2 : decode bn_M_assign 2 = .ok (.getfield 263, 3) := by decide +kernel
theorem dn_M_assign_5 : decode bn_M_assign 5 = .ok (.iconst 1, 1) := by decide +kernel
theorem dn_M_assign_6 : decode bn_M_assign 6 = .ok (.iadd, 1) := by decide +kernel
theorem dn_M_assign_7 : decode bn_M_assign 7 = .ok (.putfield 263, 3) := by decide +kernel
theorem dn_M_assign_10 : decode bn_M_assign 10 = .ok (.aload_n 0, 1) := by decide +kernel
theorem dn_M_assign_11 : decode bn_M_assign 11 = .ok (.aload_n 0, 1) := by decide +kernel
theorem dn_M_assign_12 : decode bn_M_assign 12 = .ok (.getfield 263, 3) := by decide +kernel
theorem dn_M_assign_15 : decode bn_M_assign 15 = .ok (.invokevirtual 400, 3) := by decide +kernel
theorem dn_M_assign_18 : decode bn_M_assign 18 = .ok (.istore_n 1, 1) := by decide +kernel
theorem dn_M_assign_19 : decode bn_M_assign 19 = .ok (.iload_n 1, 1) := by decide +kernel
theorem dn_M_assign_20 : decode bn_M_assign 20 = .ok (.ifCond .lt 11, 3) := by decide +kernel
theorem dn_M_assign_23 : decode bn_M_assign 23 = .ok (.aload_n 0, 1) := by decide +kernel
theorem dn_M_assign_24 : decode bn_M_assign 24 = .ok (.iload_n 1, 1) := by decide +kernel
theorem dn_M_assign_25 : decode bn_M_assign 25 = .ok (.invokevirtual 417, 3) := by decide +kernel
theorem dn_M_assign_28 : decode bn_M_assign 28 = .ok (.ifCond .ne 19, 3) := by decide +kernel
theorem dn_M_assign_31 : decode bn_M_assign 31 = .ok (.aload_n 0, 1) := by decide +kernel
theorem dn_M_assign_32 : decode bn_M_assign 32 = .ok (.bipush 22, 2) := by decide +kernel
theorem dn_M_assign_34 : decode bn_M_assign 34 = .ok (.aload_n 0, 1) := by decide +kernel
theorem dn_M_assign_35 : decode bn_M_assign 35 = .ok (.getfield 19, 3) := by decide +kernel
theorem dn_M_assign_38 : decode bn_M_assign 38 = .ok (.aload_n 0, 1) := by decide +kernel
theorem dn_M_assign_39 : decode bn_M_assign 39 = .ok (.getfield 263, 3) := by decide +kernel
theorem dn_M_assign_42 : decode bn_M_assign 42 = .ok (.iaload, 1) := by decide +kernel
theorem dn_M_assign_43 : decode bn_M_assign 43 = .ok (.invokevirtual 266, 3) := by decide +kernel
theorem dn_M_assign_46 : decode bn_M_assign 46 = .ok (.return_, 1) := by decide +kernel
theorem dn_M_assign_47 : decode bn_M_assign 47 = .ok (.aload_n 0, 1) := by decide +kernel
theorem dn_M_assign_48 : decode bn_M_assign 48 = .ok (.getfield 53, 3) := by decide +kernel
theorem dn_M_assign_51 : decode bn_M_assign 51 = .ok (.iload_n 1, 1) := by decide +kernel
theorem dn_M_assign_52 : decode bn_M_assign 52 = .ok (.iaload, 1) := by decide +kernel
theorem dn_M_assign_53 : decode bn_M_assign 53 = .ok (.ifCond .eq 18, 3) := by decide +kernel
theorem dn_M_assign_56 : decode bn_M_assign 56 = .ok (.aload_n 0, 1) := by decide +kernel
theorem dn_M_assign_57 : decode bn_M_assign 57 = .ok (.bipush 31, 2) := by decide +kernel
theorem dn_M_assign_59 : decode bn_M_assign 59 = .ok (.aload_n 0, 1) := by decide +kernel
theorem dn_M_assign_60 : decode bn_M_assign 60 = .ok (.getfield 19, 3) := by decide +kernel
theorem dn_M_assign_63 : decode bn_M_assign 63 = .ok (.aload_n 0, 1) := by decide +kernel
theorem dn_M_assign_64 : decode bn_M_assign 64 = .ok (.getfield 263, 3) := by decide +kernel
theorem dn_M_assign_67 : decode bn_M_assign 67 = .ok (.iaload, 1) := by decide +kernel
theorem dn_M_assign_68 : decode bn_M_assign 68 = .ok (.invokevirtual 266, 3) := by decide +kernel
theorem dn_M_assign_71 : decode bn_M_assign 71 = .ok (.aload_n 0, 1) := by decide +kernel
theorem dn_M_assign_72 : decode bn_M_assign 72 = .ok (.dup, 1) := by decide +kernel
theorem dn_M_assign_73 : decode bn_M_assign 73 = .ok (.getfield 263, 3) := by decide +kernel
theorem dn_M_assign_76 : decode bn_M_assign 76 = .ok (.iconst 1, 1) := by decide +kernel
theorem dn_M_assign_77 : decode bn_M_assign 77 = .ok (.iadd, 1) := by decide +kernel
theorem dn_M_assign_78 : decode bn_M_assign 78 = .ok (.putfield 263, 3) := by decide +kernel
theorem dn_M_assign_81 : decode bn_M_assign 81 = .ok (.aload_n 0, 1) := by decide +kernel
theorem dn_M_assign_82 : decode bn_M_assign 82 = .ok (.getfield 19, 3) := by decide +kernel
theorem dn_M_assign_85 : decode bn_M_assign 85 = .ok (.aload_n 0, 1) := by decide +kernel
theorem dn_M_assign_86 : decode bn_M_assign 86 = .ok (.getfield 263, 3) := by decide +kernel
theorem dn_M_assign_89 : decode bn_M_assign 89 = .ok (.iaload, 1) := by decide +kernel
theorem dn_M_assign_90 : decode bn_M_assign 90 = .ok (.istore_n 2, 1) := by decide +kernel
theorem dn_M_assign_91 : decode bn_M_assign 91 = .ok (.aload_n 0, 1) := by decide +kernel
theorem dn_M_assign_92 : decode bn_M_assign 92 = .ok (.dup, 1) := by decide +kernel
theorem dn_M_assign_93 : decode bn_M_assign 93 = .ok (.getfield 263, 3) := by decide +kernel
theorem dn_M_assign_96 : decode bn_M_assign 96 = .ok (.iconst 1, 1) := by decide +kernel
theorem dn_M_assign_97 : decode bn_M_assign 97 = .ok (.iadd, 1) := by decide +kernel
theorem dn_M_assign_98 : decode bn_M_assign 98 = .ok (.putfield 263, 3) := by decide +kernel
theorem dn_M_assign_101 : decode bn_M_assign 101 = .ok (.aload_n 0, 1) := by decide +kernel
theorem dn_M_assign_102 : decode bn_M_assign 102 = .ok (.getfield 349, 3) := by decide +kernel
theorem dn_M_assign_105 : decode bn_M_assign 105 = .ok (.istore_n 3, 1) := by decide +kernel
theorem dn_M_assign_106 : decode bn_M_assign 106 = .ok (.aload_n 0, 1) := by decide +kernel
theorem dn_M_assign_107 : decode bn_M_assign 107 = .ok (.invokevirtual 358, 3) := by decide +kernel
theorem dn_M_assign_110 : decode bn_M_assign 110 = .ok (.istore 4, 2) := by decide +kernel
theorem dn_M_assign_112 : decode bn_M_assign 112 = .ok (.aload_n 0, 1) := by decide +kernel
theorem dn_M_assign_113 : decode bn_M_assign 113 = .ok (.getfield 257, 3) := by decide +kernel
theorem dn_M_assign_116 : decode bn_M_assign 116 = .ok (.ifCond .ne 21, 3) := by decide +kernel
theorem dn_M_assign_119 : decode bn_M_assign 119 = .ok (.iload 4, 2) := by decide +kernel
theorem dn_M_assign_121 : decode bn_M_assign 121 = .ok (.aload_n 0, 1) := by decide +kernel
theorem dn_M_assign_122 : decode bn_M_assign 122 = .ok (.getfield 43, 3) := by decide +kernel
theorem dn_M_assign_125 : decode bn_M_assign 125 = .ok (.iload_n 1, 1) := by decide +kernel
theorem dn_M_assign_126 : decode bn_M_assign 126 = .ok (.iaload, 1) := by decide +kernel
theorem dn_M_assign_127 : decode bn_M_assign 127 = .ok (.if_icmp .eq 10, 3) := by decide +kernel
theorem dn_M_assign_130 : decode bn_M_assign 130 = .ok (.aload_n 0, 1) := by decide +kernel
theorem dn_M_assign_131 : decode bn_M_assign 131 = .ok (.bipush 30, 2) := by decide +kernel
theorem dn_M_assign_133 : decode bn_M_assign 133 = .ok (.iload_n 2, 1) := by decide +kernel
theorem dn_M_assign_134 : decode bn_M_assign 134 = .ok (.invokevirtual 266, 3) := by decide +kernel
theorem dn_M_assign_137 : decode bn_M_assign 137 = .ok (.aload_n 0, 1) := by decide +kernel
theorem dn_M_assign_138 : decode bn_M_assign 138 = .ok (.getfield 53, 3) := by decide +kernel
theorem dn_M_assign_141 : decode bn_M_assign 141 = .ok (.iload_n 1, 1) := by decide +kernel
theorem dn_M_assign_142 : decode bn_M_assign 142 = .ok (.iconst 1, 1) := by decide +kernel
theorem dn_M_assign_143 : decode bn_M_assign 143 = .ok (.iastore, 1) := by decide +kernel
theorem dn_M_assign_144 : decode bn_M_assign 144 = .ok (.aload_n 0, 1) := by decide +kernel
theorem dn_M_assign_145 : decode bn_M_assign 145 = .ok (.getfield 56, 3) := by decide +kernel
theorem dn_M_assign_148 : decode bn_M_assign 148 = .ok (.iload_n 1, 1) := by decide +kernel
theorem dn_M_assign_149 : decode bn_M_assign 149 = .ok (.iload_n 3, 1) := by decide +kernel
theorem dn_M_assign_150 : decode bn_M_assign 150 = .ok (.iastore, 1) := by decide +kernel
theorem dn_M_assign_151 : decode bn_M_assign 151 = .ok (.aload_n 0, 1) := by decide +kernel
theorem dn_M_assign_152 : decode bn_M_assign 152 = .ok (.getfield 59, 3) := by decide +kernel
theorem dn_M_assign_155 : decode bn_M_assign 155 = .ok (.iload_n 1, 1) := by decide +kernel
theorem dn_M_assign_156 : decode bn_M_assign 156 = .ok (.aload_n 0, 1) := by decide +kernel
theorem dn_M_assign_157 : decode bn_M_assign 157 = .ok (.getfield 349, 3) := by decide +kernel
theorem dn_M_assign_160 : decode bn_M_assign 160 = .ok (.iastore, 1) := by decide +kernel
theorem dn_M_assign_161 : decode bn_M_assign 161 = .ok (.aload_n 0, 1) := by decide +kernel
theorem dn_M_assign_162 : decode bn_M_assign 162 = .ok (.dup, 1) := by decide +kernel
theorem dn_M_assign_163 : decode bn_M_assign 163 = .ok (.getfield 263, 3) := by decide +kernel
theorem dn_M_assign_166 : decode bn_M_assign 166 = .ok (.iconst 1, 1) := by decide +kernel
theorem dn_M_assign_167 : decode bn_M_assign 167 = .ok (.iadd, 1) := by decide +kernel
theorem dn_M_assign_168 : decode bn_M_assign 168 = .ok (.putfield 263, 3) := by decide +kernel
theorem dn_M_assign_171 : decode bn_M_assign 171 = .ok (.return_, 1) := by decide +kernel
theorem dn_M_at_0 : decode bn_M_at 0 = .ok (.iload_n 1, 1) := by decide +kernel
theorem dn_M_at_1 : decode bn_M_at 1 = .ok (.aload_n 0, 1) := by decide +kernel
theorem dn_M_at_2 : decode bn_M_at 2 = .ok (.getfield 196, 3) := by decide +kernel
theorem dn_M_at_5 : decode bn_M_at 5 = .ok (.if_icmp .ge 16, 3) := by decide +kernel
theorem dn_M_at_8 : decode bn_M_at 8 = .ok (.aload_n 0, 1) := by decide +kernel
theorem dn_M_at_9 : decode bn_M_at 9 = .ok (.getfield 189, 3) := by decide +kernel
theorem dn_M_at_12 : decode bn_M_at 12 = .ok (.iload_n 1, 1) := by decide +kernel
theorem dn_M_at_13 : decode bn_M_at 13 = .ok (.baload, 1) := by decide +kernel
theorem dn_M_at_14 : decode bn_M_at 14 = .ok (.sipush 255, 3) := by decide +kernel
theorem dn_M_at_17 : decode bn_M_at 17 = .ok (.iand, 1) := by decide +kernel
theorem dn_M_at_18 : decode bn_M_at 18 = .ok (.goto 4, 3) := by decide +kernel
theorem dn_M_at_21 : decode bn_M_at 21 = .ok (.iconst (-1), 1) := by decide +kernel
theorem dn_M_at_22 : decode bn_M_at 22 = .ok (.ireturn, 1) := by decide +kernel
theorem dn_M_begin_0 : decode bn_M_begin 0 = .ok (.aload_n 0, 1) := by decide +kernel
theorem dn_M_begin_1 : decode bn_M_begin 1 = .ok (.getfield 125, 3) := by decide +kernel
theorem dn_M_begin_4 : decode bn_M_begin 4 = .ok (.aload_n 0, 1) := by decide +kernel
theorem dn_M_begin_5 : decode bn_M_begin 5 = .ok (.getfield 494, 3) := by decide +kernel
theorem dn_M_begin_8 : decode bn_M_begin 8 = .ok (.iload_n 1, 1) := by decide +kernel
theorem dn_M_begin_9 : decode bn_M_begin 9 = .ok (.iastore, 1) := by decide +kernel
theorem dn_M_begin_10 : decode bn_M_begin 10 = .ok (.aload_n 0, 1) := by decide +kernel
theorem dn_M_begin_11 : decode bn_M_begin 11 = .ok (.getfield 128, 3) := by decide +kernel
theorem dn_M_begin_14 : decode bn_M_begin 14 = .ok (.aload_n 0, 1) := by decide +kernel
theorem dn_M_begin_15 : decode bn_M_begin 15 = .ok (.getfield 494, 3) := by decide +kernel
theorem dn_M_begin_18 : decode bn_M_begin 18 = .ok (.aload_n 0, 1) := by decide +kernel
theorem dn_M_begin_19 : decode bn_M_begin 19 = .ok (.getfield 497, 3) := by decide +kernel
theorem dn_M_begin_22 : decode bn_M_begin 22 = .ok (.iastore, 1) := by decide +kernel
theorem dn_M_begin_23 : decode bn_M_begin 23 = .ok (.aload_n 0, 1) := by decide +kernel
theorem dn_M_begin_24 : decode bn_M_begin 24 = .ok (.getfield 131, 3) := by decide +kernel
theorem dn_M_begin_27 : decode bn_M_begin 27 = .ok (.aload_n 0, 1) := by decide +kernel
theorem dn_M_begin_28 : decode bn_M_begin 28 = .ok (.getfield 494, 3) := by decide +kernel
theorem dn_M_begin_31 : decode bn_M_begin 31 = .ok (.iload_n 2, 1) := by decide +kernel
theorem dn_M_begin_32 : decode bn_M_begin 32 = .ok (.iastore, 1) := by decide +kernel
theorem dn_M_begin_33 : decode bn_M_begin 33 = .ok (.aload_n 0, 1) := by decide +kernel
theorem dn_M_begin_34 : decode bn_M_begin 34 = .ok (.getfield 134, 3) := by decide +kernel
theorem dn_M_begin_37 : decode bn_M_begin 37 = .ok (.aload_n 0, 1) := by decide +kernel
theorem dn_M_begin_38 : decode bn_M_begin 38 = .ok (.getfield 494, 3) := by decide +kernel
theorem dn_M_begin_41 : decode bn_M_begin 41 = .ok (.iload_n 3, 1) := by decide +kernel
theorem dn_M_begin_42 : decode bn_M_begin 42 = .ok (.iastore, 1) := by decide +kernel
theorem dn_M_begin_43 : decode bn_M_begin 43 = .ok (.aload_n 0, 1) := by decide +kernel
theorem dn_M_begin_44 : decode bn_M_begin 44 = .ok (.getfield 28, 3) := by decide +kernel
theorem dn_M_begin_47 : decode bn_M_begin 47 = .ok (.iload_n 1, 1) := by decide +kernel
theorem dn_M_begin_48 : decode bn_M_begin 48 = .ok (.iaload, 1) := by decide +kernel
theorem dn_M_begin_49 : decode bn_M_begin 49 = .ok (.istore 4, 2) := by decide +kernel
theorem dn_M_begin_51 : decode bn_M_begin 51 = .ok (.iload 4, 2) := by decide +kernel
theorem dn_M_begin_53 : decode bn_M_begin 53 = .ok (.aload_n 0, 1) := by decide +kernel
theorem dn_M_begin_54 : decode bn_M_begin 54 = .ok (.getfield 28, 3) := by decide +kernel
theorem dn_M_begin_57 : decode bn_M_begin 57 = .ok (.iload_n 1, 1) := by decide +kernel
theorem dn_M_begin_58 : decode bn_M_begin 58 = .ok (.iconst 1, 1) := by decide +kernel
theorem dn_M_begin_59 : decode bn_M_begin 59 = .ok (.iadd, 1) := by decide +kernel
theorem dn_M_begin_60 : decode bn_M_begin 60 = .ok (.iaload, 1) := by decide +kernel
theorem dn_M_begin_61 : decode bn_M_begin 61 = .ok (.if_icmp .ge 43, 3) := by decide +kernel
theorem dn_M_begin_64 : decode bn_M_begin 64 = .ok (.aload_n 0, 1) := by decide +kernel
theorem dn_M_begin_65 : decode bn_M_begin 65 = .ok (.getfield 143, 3) := by decide +kernel
theorem dn_M_begin_68 : decode bn_M_begin 68 = .ok (.aload_n 0, 1) := by decide +kernel
theorem dn_M_begin_69 : decode bn_M_begin 69 = .ok (.getfield 497, 3) := by decide +kernel
theorem dn_M_begin_72 : decode bn_M_begin 72 = .ok (.iload 4, 2) := by decide +kernel
theorem dn_M_begin_74 : decode bn_M_begin 74 = .ok (.iastore, 1) := by decide +kernel
theorem dn_M_begin_75 : decode bn_M_begin 75 = .ok (.aload_n 0, 1) := by decide +kernel
theorem dn_M_begin_76 : decode bn_M_begin 76 = .ok (.getfield 146, 3) := by decide +kernel
theorem dn_M_begin_79 : decode bn_M_begin 79 = .ok (.aload_n 0, 1) := by decide +kernel
theorem dn_M_begin_80 : decode bn_M_begin 80 = .ok (.getfield 497, 3) := by decide +kernel
theorem dn_M_begin_83 : decode bn_M_begin 83 = .ok (.aload_n 0, 1) := by decide +kernel
theorem dn_M_begin_84 : decode bn_M_begin 84 = .ok (.getfield 494, 3) := by decide +kernel
theorem dn_M_begin_87 : decode bn_M_begin 87 = .ok (.iastore, 1) := by decide +kernel
theorem dn_M_begin_88 : decode bn_M_begin 88 = .ok (.aload_n 0, 1) := by decide +kernel
theorem dn_M_begin_89 : decode bn_M_begin 89 = .ok (.dup, 1) := by decide +kernel
theorem dn_M_begin_90 : decode bn_M_begin 90 = .ok (.getfield 497, 3) := by decide +kernel
theorem dn_M_begin_93 : decode bn_M_begin 93 = .ok (.iconst 1, 1) := by decide +kernel
theorem dn_M_begin_94 : decode bn_M_begin 94 = .ok (.iadd, 1) := by decide +kernel
theorem dn_M_begin_95 : decode bn_M_begin 95 = .ok (.putfield 497, 3) := by decide +kernel
theorem dn_M_begin_98 : decode bn_M_begin 98 = .ok (.iinc 4 1, 3) := by decide +kernel
theorem dn_M_begin_101 : decode bn_M_begin 101 = .ok (.goto (-50), 3) := by decide +kernel
theorem dn_M_begin_104 : decode bn_M_begin 104 = .ok (.aload_n 0, 1) := by decide +kernel
theorem dn_M_begin_105 : decode bn_M_begin 105 = .ok (.dup, 1) := by decide +kernel
theorem dn_M_begin_106 : decode bn_M_begin 106 = .ok (.getfield 494, 3) := by decide +kernel
theorem dn_M_begin_109 : decode bn_M_begin 109 = .ok (.iconst 1, 1) := by decide +kernel
theorem dn_M_begin_110 : decode bn_M_begin 110 = .ok (.iadd, 1) := by decide +kernel
theorem dn_M_begin_111 : decode bn_M_begin 111 = .ok (.putfield 494, 3) := by decide +kernel
theorem dn_M_begin_114 : decode bn_M_begin 114 = .ok (.return_, 1) := by decide +kernel
theorem dn_M_begin0_0 : decode bn_M_begin0 0 = .ok (.aload_n 0, 1) := by decide +kernel
theorem dn_M_begin0_1 : decode bn_M_begin0 1 = .ok (.iconst 0, 1) := by decide +kernel
theorem dn_M_begin0_2 : decode bn_M_begin0 2 = .ok (.putfield 605, 3) := by decide +kernel
theorem dn_M_begin0_5 : decode bn_M_begin0 5 = .ok (.iconst 0, 1) := by decide +kernel
theorem dn_M_begin0_6 : decode bn_M_begin0 6 = .ok (.istore_n 1, 1) := by decide +kernel
theorem dn_M_begin0_7 : decode bn_M_begin0 7 = .ok (.iload_n 1, 1) := by decide +kernel
theorem dn_M_begin0_8 : decode bn_M_begin0 8 = .ok (.aload_n 0, 1) := by decide +kernel
theorem dn_M_begin0_9 : decode bn_M_begin0 9 = .ok (.getfield 497, 3) := by decide +kernel
theorem dn_M_begin0_12 : decode bn_M_begin0 12 = .ok (.if_icmp .ge 33, 3) := by decide +kernel
theorem dn_M_begin0_15 : decode bn_M_begin0 15 = .ok (.aload_n 0, 1) := by decide +kernel
theorem dn_M_begin0_16 : decode bn_M_begin0 16 = .ok (.getfield 180, 3) := by decide +kernel
theorem dn_M_begin0_19 : decode bn_M_begin0 19 = .ok (.iload_n 1, 1) := by decide +kernel
theorem dn_M_begin0_20 : decode bn_M_begin0 20 = .ok (.aload_n 0, 1) := by decide +kernel
theorem dn_M_begin0_21 : decode bn_M_begin0 21 = .ok (.getfield 49, 3) := by decide +kernel
theorem dn_M_begin0_24 : decode bn_M_begin0 24 = .ok (.aload_n 0, 1) := by decide +kernel
theorem dn_M_begin0_25 : decode bn_M_begin0 25 = .ok (.getfield 143, 3) := by decide +kernel
theorem dn_M_begin0_28 : decode bn_M_begin0 28 = .ok (.iload_n 1, 1) := by decide +kernel
theorem dn_M_begin0_29 : decode bn_M_begin0 29 = .ok (.iaload, 1) := by decide +kernel
theorem dn_M_begin0_30 : decode bn_M_begin0 30 = .ok (.laload, 1) := by decide +kernel
theorem dn_M_begin0_31 : decode bn_M_begin0 31 = .ok (.lastore, 1) := by decide +kernel
theorem dn_M_begin0_32 : decode bn_M_begin0 32 = .ok (.aload_n 0, 1) := by decide +kernel
theorem dn_M_begin0_33 : decode bn_M_begin0 33 = .ok (.getfield 183, 3) := by decide +kernel
theorem dn_M_begin0_36 : decode bn_M_begin0 36 = .ok (.iload_n 1, 1) := by decide +kernel
theorem dn_M_begin0_37 : decode bn_M_begin0 37 = .ok (.lconst 0, 1) := by decide +kernel
theorem dn_M_begin0_38 : decode bn_M_begin0 38 = .ok (.lastore, 1) := by decide +kernel
theorem dn_M_begin0_39 : decode bn_M_begin0 39 = .ok (.iinc 1 1, 3) := by decide +kernel
theorem dn_M_begin0_42 : decode bn_M_begin0 42 = .ok (.goto (-35), 3) := by decide +kernel
theorem dn_M_begin0_45 : decode bn_M_begin0 45 = .ok (.aload_n 0, 1) := by decide +kernel
theorem dn_M_begin0_46 : decode bn_M_begin0 46 = .ok (.aload_n 0, 1) := by decide +kernel
theorem dn_M_begin0_47 : decode bn_M_begin0 47 = .ok (.getfield 180, 3) := by decide +kernel
theorem dn_M_begin0_50 : decode bn_M_begin0 50 = .ok (.aload_n 0, 1) := by decide +kernel
theorem dn_M_begin0_51 : decode bn_M_begin0 51 = .ok (.getfield 183, 3) := by decide +kernel
theorem dn_M_begin0_54 : decode bn_M_begin0 54 = .ok (.invokevirtual 608, 3) := by decide +kernel
theorem dn_M_begin0_57 : decode bn_M_begin0 57 = .ok (.return_, 1) := by decide +kernel
theorem dn_M_beginGrammar_0 : decode bn_M_beginGrammar 0 = .ok (.aload_n 0, 1) := by decide +kernel
theorem dn_M_beginGrammar_1 : decode bn_M_beginGrammar 1 = .ok (.bipush 61, 2) := by decide +kernel
theorem dn_M_beginGrammar_3 : decode bn_M_beginGrammar 3 = .ok (.invokevirtual 273, 3) := by decide +kernel
theorem dn_M_beginGrammar_6 : decode bn_M_beginGrammar 6 = .ok (.ifCond .eq 20, 3) := by decide +kernel
theorem dn_M_beginGrammar_9 : decode bn_M_beginGrammar 9 = .ok (.aload_n 0, 1) := by decide +kernel
theorem dn_M_beginGrammar_10 : decode bn_M_beginGrammar 10 = .ok (.dup, 1) := by decide +kernel
theorem dn_M_beginGrammar_11 : decode bn_M_beginGrammar 11 = .ok (.getfield 263, 3) := by decide +kernel
theorem dn_M_beginGrammar_14 : decode bn_M_beginGrammar 14 = .ok (.iconst 1, 1) := by decide +kernel
theorem dn_M_beginGrammar_15 : decode bn_M_beginGrammar 15 = .ok (.iadd, 1) := by decide +kernel
theorem dn_M_beginGrammar_16 : decode bn_M_beginGrammar 16 = .ok (.putfield 263, 3) := by decide +kernel
theorem dn_M_beginGrammar_19 : decode bn_M_beginGrammar 19 = .ok (.aload_n 0, 1) := by decide +kernel
theorem dn_M_beginGrammar_20 : decode bn_M_beginGrammar 20 = .ok (.sipush 402, 3) := by decide +kernel
theorem dn_M_beginGrammar_23 : decode bn_M_beginGrammar 23 = .ok (.invokevirtual 279, 3) := by decide +kernel
theorem dn_M_beginGrammar_26 : decode bn_M_beginGrammar 26 = .ok (.return_, 1) := by decide +kernel
theorem dn_M_below_0 : decode bn_M_below 0 = .ok (.lload_n 0, 1) := by decide +kernel
theorem dn_M_below_1 : decode bn_M_below 1 = .ok (.ldc2_w 575, 3) := by decide +kernel
theorem dn_M_below_4 : decode bn_M_below 4 = .ok (.lxor, 1) := by decide +kernel
theorem dn_M_below_5 : decode bn_M_below 5 = .ok (.lload_n 2, 1) := by decide +kernel
theorem dn_M_below_6 : decode bn_M_below 6 = .ok (.ldc2_w 575, 3) := by decide +kernel
theorem dn_M_below_9 : decode bn_M_below 9 = .ok (.lxor, 1) := by decide +kernel
theorem dn_M_below_10 : decode bn_M_below 10 = .ok (.lcmp, 1) := by decide +kernel
theorem dn_M_below_11 : decode bn_M_below 11 = .ok (.ifCond .ge 7, 3) := by decide +kernel
theorem dn_M_below_14 : decode bn_M_below 14 = .ok (.iconst 1, 1) := by decide +kernel
theorem dn_M_below_15 : decode bn_M_below 15 = .ok (.goto 4, 3) := by decide +kernel
theorem dn_M_below_18 : decode bn_M_below 18 = .ok (.iconst 0, 1) := by decide +kernel
theorem dn_M_below_19 : decode bn_M_below 19 = .ok (.ireturn, 1) := by decide +kernel
theorem dn_M_binary_0 : decode bn_M_binary 0 = .ok (.aload_n 0, 1) := by decide +kernel
theorem dn_M_binary_1 : decode bn_M_binary 1 = .ok (.getfield 368, 3) := by decide +kernel
theorem dn_M_binary_4 : decode bn_M_binary 4 = .ok (.istore_n 1, 1) := by decide +kernel
theorem dn_M_binary_5 : decode bn_M_binary 5 = .ok (.aload_n 0, 1) := by decide +kernel
theorem dn_M_binary_6 : decode bn_M_binary 6 = .ok (.aload_n 0, 1) := by decide +kernel
theorem dn_M_binary_7 : decode bn_M_binary 7 = .ok (.invokevirtual 371, 3) := by decide +kernel
theorem dn_M_binary_10 : decode bn_M_binary 10 = .ok (.invokevirtual 374, 3) := by decide +kernel
theorem dn_M_binary_13 : decode bn_M_binary 13 = .ok (.aload_n 0, 1) := by decide +kernel
theorem dn_M_binary_14 : decode bn_M_binary 14 = .ok (.getfield 257, 3) := by decide +kernel
theorem dn_M_binary_17 : decode bn_M_binary 17 = .ok (.ifCond .ne 116, 3) := by decide +kernel
theorem dn_M_binary_20 : decode bn_M_binary 20 = .ok (.aload_n 0, 1) := by decide +kernel
theorem dn_M_binary_21 : decode bn_M_binary 21 = .ok (.invokevirtual 286, 3) := by decide +kernel
theorem dn_M_binary_24 : decode bn_M_binary 24 = .ok (.invokestatic 290, 3) := by decide +kernel
theorem dn_M_binary_27 : decode bn_M_binary 27 = .ok (.ifCond .le 106, 3) := by decide +kernel
theorem dn_M_binary_30 : decode bn_M_binary 30 = .ok (.aload_n 0, 1) := by decide +kernel
theorem dn_M_binary_31 : decode bn_M_binary 31 = .ok (.invokevirtual 286, 3) := by decide +kernel
theorem dn_M_binary_34 : decode bn_M_binary 34 = .ok (.invokestatic 290, 3) := by decide +kernel
theorem dn_M_binary_37 : decode bn_M_binary 37 = .ok (.istore_n 2, 1) := by decide +kernel
theorem dn_M_binary_38 : decode bn_M_binary 38 = .ok (.aload_n 0, 1) := by decide +kernel
theorem dn_M_binary_39 : decode bn_M_binary 39 = .ok (.getfield 368, 3) := by decide +kernel
theorem dn_M_binary_42 : decode bn_M_binary 42 = .ok (.iload_n 1, 1) := by decide +kernel
theorem dn_M_binary_43 : decode bn_M_binary 43 = .ok (.if_icmp .le 28, 3) := by decide +kernel
theorem dn_M_binary_46 : decode bn_M_binary 46 = .ok (.aload_n 0, 1) := by decide +kernel
theorem dn_M_binary_47 : decode bn_M_binary 47 = .ok (.getfield 113, 3) := by decide +kernel
theorem dn_M_binary_50 : decode bn_M_binary 50 = .ok (.aload_n 0, 1) := by decide +kernel
theorem dn_M_binary_51 : decode bn_M_binary 51 = .ok (.getfield 368, 3) := by decide +kernel
theorem dn_M_binary_54 : decode bn_M_binary 54 = .ok (.iconst 1, 1) := by decide +kernel
theorem dn_M_binary_55 : decode bn_M_binary 55 = .ok (.isub, 1) := by decide +kernel
theorem dn_M_binary_56 : decode bn_M_binary 56 = .ok (.iaload, 1) := by decide +kernel
theorem dn_M_binary_57 : decode bn_M_binary 57 = .ok (.invokestatic 290, 3) := by decide +kernel
theorem dn_M_binary_60 : decode bn_M_binary 60 = .ok (.iload_n 2, 1) := by decide +kernel
theorem dn_M_binary_61 : decode bn_M_binary 61 = .ok (.if_icmp .lt 10, 3) := by decide +kernel
theorem dn_M_binary_64 : decode bn_M_binary 64 = .ok (.aload_n 0, 1) := by decide +kernel
theorem dn_M_binary_65 : decode bn_M_binary 65 = .ok (.invokevirtual 377, 3) := by decide +kernel
theorem dn_M_binary_68 : decode bn_M_binary 68 = .ok (.goto (-30), 3) := by decide +kernel
theorem dn_M_binary_71 : decode bn_M_binary 71 = .ok (.aload_n 0, 1) := by decide +kernel
theorem dn_M_binary_72 : decode bn_M_binary 72 = .ok (.getfield 113, 3) := by decide +kernel
theorem dn_M_binary_75 : decode bn_M_binary 75 = .ok (.aload_n 0, 1) := by decide +kernel
theorem dn_M_binary_76 : decode bn_M_binary 76 = .ok (.getfield 368, 3) := by decide +kernel
theorem dn_M_binary_79 : decode bn_M_binary 79 = .ok (.aload_n 0, 1) := by decide +kernel
theorem dn_M_binary_80 : decode bn_M_binary 80 = .ok (.invokevirtual 286, 3) := by decide +kernel
theorem dn_M_binary_83 : decode bn_M_binary 83 = .ok (.iastore, 1) := by decide +kernel
theorem dn_M_binary_84 : decode bn_M_binary 84 = .ok (.aload_n 0, 1) := by decide +kernel
theorem dn_M_binary_85 : decode bn_M_binary 85 = .ok (.getfield 116, 3) := by decide +kernel
theorem dn_M_binary_88 : decode bn_M_binary 88 = .ok (.aload_n 0, 1) := by decide +kernel
theorem dn_M_binary_89 : decode bn_M_binary 89 = .ok (.getfield 368, 3) := by decide +kernel
theorem dn_M_binary_92 : decode bn_M_binary 92 = .ok (.aload_n 0, 1) := by decide +kernel
theorem dn_M_binary_93 : decode bn_M_binary 93 = .ok (.getfield 19, 3) := by decide +kernel
theorem dn_M_binary_96 : decode bn_M_binary 96 = .ok (.aload_n 0, 1) := by decide +kernel
theorem dn_M_binary_97 : decode bn_M_binary 97 = .ok (.getfield 263, 3) := by decide +kernel
theorem dn_M_binary_100 : decode bn_M_binary 100 = .ok (.iaload, 1) := by decide +kernel
theorem dn_M_binary_101 : decode bn_M_binary 101 = .ok (.iastore, 1) := by decide +kernel
theorem dn_M_binary_102 : decode bn_M_binary 102 = .ok (.aload_n 0, 1) := by decide +kernel
theorem dn_M_binary_103 : decode bn_M_binary 103 = .ok (.dup, 1) := by decide +kernel
theorem dn_M_binary_104 : decode bn_M_binary 104 = .ok (.getfield 368, 3) := by decide +kernel
theorem dn_M_binary_107 : decode bn_M_binary 107 = .ok (.iconst 1, 1) := by decide +kernel
theorem dn_M_binary_108 : decode bn_M_binary 108 = .ok (.iadd, 1) := by decide +kernel
theorem dn_M_binary_109 : decode bn_M_binary 109 = .ok (.putfield 368, 3) := by decide +kernel
theorem dn_M_binary_112 : decode bn_M_binary 112 = .ok (.aload_n 0, 1) := by decide +kernel
theorem dn_M_binary_113 : decode bn_M_binary 113 = .ok (.dup, 1) := by decide +kernel
theorem dn_M_binary_114 : decode bn_M_binary 114 = .ok (.getfield 263, 3) := by decide +kernel
theorem dn_M_binary_117 : decode bn_M_binary 117 = .ok (.iconst 1, 1) := by decide +kernel
theorem dn_M_binary_118 : decode bn_M_binary 118 = .ok (.iadd, 1) := by decide +kernel
theorem dn_M_binary_119 : decode bn_M_binary 119 = .ok (.putfield 263, 3) := by decide +kernel
theorem dn_M_binary_122 : decode bn_M_binary 122 = .ok (.aload_n 0, 1) := by decide +kernel
theorem dn_M_binary_123 : decode bn_M_binary 123 = .ok (.aload_n 0, 1) := by decide +kernel
theorem dn_M_binary_124 : decode bn_M_binary 124 = .ok (.invokevirtual 371, 3) := by decide +kernel
theorem dn_M_binary_127 : decode bn_M_binary 127 = .ok (.invokevirtual 374, 3) := by decide +kernel
theorem dn_M_binary_130 : decode bn_M_binary 130 = .ok (.goto (-117), 3) := by decide +kernel
theorem dn_M_binary_133 : decode bn_M_binary 133 = .ok (.aload_n 0, 1) := by decide +kernel
theorem dn_M_binary_134 : decode bn_M_binary 134 = .ok (.getfield 368, 3) := by decide +kernel
theorem dn_M_binary_137 : decode bn_M_binary 137 = .ok (.iload_n 1, 1) := by decide +kernel
theorem dn_M_binary_138 : decode bn_M_binary 138 = .ok (.if_icmp .le 10, 3) := by decide +kernel
theorem dn_M_binary_141 : decode bn_M_binary 141 = .ok (.aload_n 0, 1) := by decide +kernel
theorem dn_M_binary_142 : decode bn_M_binary 142 = .ok (.invokevirtual 377, 3) := by decide +kernel
theorem dn_M_binary_145 : decode bn_M_binary 145 = .ok (.goto (-12), 3) := by decide +kernel
theorem dn_M_binary_148 : decode bn_M_binary 148 = .ok (.aload_n 0, 1) := by decide +kernel
theorem dn_M_binary_149 : decode bn_M_binary 149 = .ok (.dup, 1) := by decide +kernel
theorem dn_M_binary_150 : decode bn_M_binary 150 = .ok (.getfield 380, 3) := by decide +kernel
theorem dn_M_binary_153 : decode bn_M_binary 153 = .ok (.iconst 1, 1) := by decide +kernel
theorem dn_M_binary_154 : decode bn_M_binary 154 = .ok (.isub, 1) := by decide +kernel
theorem dn_M_binary_155 : decode bn_M_binary 155 = .ok (.putfield 380, 3) := by decide +kernel
theorem dn_M_binary_158 : decode bn_M_binary 158 = .ok (.aload_n 0, 1) := by decide +kernel
theorem dn_M_binary_159 : decode bn_M_binary 159 = .ok (.getfield 119, 3) := by decide +kernel
theorem dn_M_binary_162 : decode bn_M_binary 162 = .ok (.aload_n 0, 1) := by decide +kernel
theorem dn_M_binary_163 : decode bn_M_binary 163 = .ok (.getfield 380, 3) := by decide +kernel
theorem dn_M_binary_166 : decode bn_M_binary 166 = .ok (.iaload, 1) := by decide +kernel
theorem dn_M_binary_167 : decode bn_M_binary 167 = .ok (.ireturn, 1) := by decide +kernel
theorem dn_M_bound_0 : decode bn_M_bound 0 = .ok (.iload_n 1, 1) := by decide +kernel
theorem dn_M_bound_1 : decode bn_M_bound 1 = .ok (.ifCond .ne 9, 3) := by decide +kernel
theorem dn_M_bound_4 : decode bn_M_bound 4 = .ok (.aload_n 0, 1) := by decide +kernel
theorem dn_M_bound_5 : decode bn_M_bound 5 = .ok (.iload_n 2, 1) := by decide +kernel
theorem dn_M_bound_6 : decode bn_M_bound 6 = .ok (.iload_n 3, 1) := by decide +kernel
theorem dn_M_bound_7 : decode bn_M_bound 7 = .ok (.invokevirtual 266, 3) := by decide +kernel
theorem dn_M_bound_10 : decode bn_M_bound 10 = .ok (.return_, 1) := by decide +kernel
theorem dn_M_braces_0 : decode bn_M_braces 0 = .ok (.aload_n 0, 1) := by decide +kernel
theorem dn_M_braces_1 : decode bn_M_braces 1 = .ok (.invokevirtual 286, 3) := by decide +kernel
theorem dn_M_braces_4 : decode bn_M_braces 4 = .ok (.sipush 401, 3) := by decide +kernel
theorem dn_M_braces_7 : decode bn_M_braces 7 = .ok (.if_icmp .ne 97, 3) := by decide +kernel
theorem dn_M_braces_10 : decode bn_M_braces 10 = .ok (.aload_n 0, 1) := by decide +kernel
theorem dn_M_braces_11 : decode bn_M_braces 11 = .ok (.aload_n 0, 1) := by decide +kernel
theorem dn_M_braces_12 : decode bn_M_braces 12 = .ok (.getfield 263, 3) := by decide +kernel
theorem dn_M_braces_15 : decode bn_M_braces 15 = .ok (.invokevirtual 386, 3) := by decide +kernel
theorem dn_M_braces_18 : decode bn_M_braces 18 = .ok (.lstore_n 2, 1) := by decide +kernel
theorem dn_M_braces_19 : decode bn_M_braces 19 = .ok (.aload_n 0, 1) := by decide +kernel
theorem dn_M_braces_20 : decode bn_M_braces 20 = .ok (.aload_n 0, 1) := by decide +kernel
theorem dn_M_braces_21 : decode bn_M_braces 21 = .ok (.getfield 263, 3) := by decide +kernel
theorem dn_M_braces_24 : decode bn_M_braces 24 = .ok (.iconst 2, 1) := by decide +kernel
theorem dn_M_braces_25 : decode bn_M_braces 25 = .ok (.iadd, 1) := by decide +kernel
theorem dn_M_braces_26 : decode bn_M_braces 26 = .ok (.putfield 263, 3) := by decide +kernel
theorem dn_M_braces_29 : decode bn_M_braces 29 = .ok (.aload_n 0, 1) := by decide +kernel
theorem dn_M_braces_30 : decode bn_M_braces 30 = .ok (.invokevirtual 358, 3) := by decide +kernel
theorem dn_M_braces_33 : decode bn_M_braces 33 = .ok (.istore 4, 2) := by decide +kernel
theorem dn_M_braces_35 : decode bn_M_braces 35 = .ok (.aload_n 0, 1) := by decide +kernel
theorem dn_M_braces_36 : decode bn_M_braces 36 = .ok (.aload_n 0, 1) := by decide +kernel
theorem dn_M_braces_37 : decode bn_M_braces 37 = .ok (.getfield 263, 3) := by decide +kernel
theorem dn_M_braces_40 : decode bn_M_braces 40 = .ok (.iconst 2, 1) := by decide +kernel
theorem dn_M_braces_41 : decode bn_M_braces 41 = .ok (.iadd, 1) := by decide +kernel
theorem dn_M_braces_42 : decode bn_M_braces 42 = .ok (.putfield 263, 3) := by decide +kernel
theorem dn_M_braces_45 : decode bn_M_braces 45 = .ok (.aload_n 0, 1) := by decide +kernel
theorem dn_M_braces_46 : decode bn_M_braces 46 = .ok (.getfield 257, 3) := by decide +kernel
theorem dn_M_braces_49 : decode bn_M_braces 49 = .ok (.ifCond .ne 28, 3) := by decide +kernel
theorem dn_M_braces_52 : decode bn_M_braces 52 = .ok (.lload_n 2, 1) := by decide +kernel
theorem dn_M_braces_53 : decode bn_M_braces 53 = .ok (.lconst 0, 1) := by decide +kernel
theorem dn_M_braces_54 : decode bn_M_braces 54 = .ok (.lcmp, 1) := by decide +kernel
theorem dn_M_braces_55 : decode bn_M_braces 55 = .ok (.ifCond .eq 15, 3) := by decide +kernel
theorem dn_M_braces_58 : decode bn_M_braces 58 = .ok (.lload_n 2, 1) := by decide +kernel
theorem dn_M_braces_59 : decode bn_M_braces 59 = .ok (.iload 4, 2) := by decide +kernel
theorem dn_M_braces_61 : decode bn_M_braces 61 = .ok (.i2l, 1) := by decide +kernel
theorem dn_M_braces_62 : decode bn_M_braces 62 = .ok (.lmul, 1) := by decide +kernel
theorem dn_M_braces_63 : decode bn_M_braces 63 = .ok (.ldc2_w 226, 3) := by decide +kernel
theorem dn_M_braces_66 : decode bn_M_braces 66 = .ok (.lcmp, 1) := by decide +kernel
theorem dn_M_braces_67 : decode bn_M_braces 67 = .ok (.ifCond .le 10, 3) := by decide +kernel
theorem dn_M_braces_70 : decode bn_M_braces 70 = .ok (.aload_n 0, 1) := by decide +kernel
theorem dn_M_braces_71 : decode bn_M_braces 71 = .ok (.bipush 30, 2) := by decide +kernel
theorem dn_M_braces_73 : decode bn_M_braces 73 = .ok (.iload_n 1, 1) := by decide +kernel
theorem dn_M_braces_74 : decode bn_M_braces 74 = .ok (.invokevirtual 266, 3) := by decide +kernel
theorem dn_M_braces_77 : decode bn_M_braces 77 = .ok (.aload_n 0, 1) := by decide +kernel
theorem dn_M_braces_78 : decode bn_M_braces 78 = .ok (.bipush 8, 2) := by decide +kernel
theorem dn_M_braces_80 : decode bn_M_braces 80 = .ok (.lload_n 2, 1) := by decide +kernel
theorem dn_M_braces_81 : decode bn_M_braces 81 = .ok (.l2i, 1) := by decide +kernel
theorem dn_M_braces_82 : decode bn_M_braces 82 = .ok (.iload 4, 2) := by decide +kernel
theorem dn_M_braces_84 : decode bn_M_braces 84 = .ok (.invokevirtual 365, 3) := by decide +kernel
theorem dn_M_braces_87 : decode bn_M_braces 87 = .ok (.aload_n 0, 1) := by decide +kernel
theorem dn_M_braces_88 : decode bn_M_braces 88 = .ok (.getfield 257, 3) := by decide +kernel
theorem dn_M_braces_91 : decode bn_M_braces 91 = .ok (.ifCond .ne 11, 3) := by decide +kernel
theorem dn_M_braces_94 : decode bn_M_braces 94 = .ok (.lload_n 2, 1) := by decide +kernel
theorem dn_M_braces_95 : decode bn_M_braces 95 = .ok (.l2i, 1) := by decide +kernel
theorem dn_M_braces_96 : decode bn_M_braces 96 = .ok (.iload 4, 2) := by decide +kernel
theorem dn_M_braces_98 : decode bn_M_braces 98 = .ok (.imul, 1) := by decide +kernel
theorem dn_M_braces_99 : decode bn_M_braces 99 = .ok (.goto 4, 3) := by decide +kernel
theorem dn_M_braces_102 : decode bn_M_braces 102 = .ok (.iconst 1, 1) := by decide +kernel
theorem dn_M_braces_103 : decode bn_M_braces 103 = .ok (.ireturn, 1) := by decide +kernel
theorem dn_M_braces_104 : decode bn_M_braces 104 = .ok (.aload_n 0, 1) := by decide +kernel
theorem dn_M_braces_105 : decode bn_M_braces 105 = .ok (.invokevirtual 358, 3) := by decide +kernel
theorem dn_M_braces_108 : decode bn_M_braces 108 = .ok (.i2l, 1) := by decide +kernel
theorem dn_M_braces_109 : decode bn_M_braces 109 = .ok (.lstore_n 2, 1) := by decide +kernel
theorem dn_M_braces_110 : decode bn_M_braces 110 = .ok (.aload_n 0, 1) := by decide +kernel
theorem dn_M_braces_111 : decode bn_M_braces 111 = .ok (.bipush 44, 2) := by decide +kernel
theorem dn_M_braces_113 : decode bn_M_braces 113 = .ok (.invokevirtual 273, 3) := by decide +kernel
theorem dn_M_braces_116 : decode bn_M_braces 116 = .ok (.ifCond .eq 37, 3) := by decide +kernel
theorem dn_M_braces_119 : decode bn_M_braces 119 = .ok (.aload_n 0, 1) := by decide +kernel
theorem dn_M_braces_120 : decode bn_M_braces 120 = .ok (.dup, 1) := by decide +kernel
theorem dn_M_braces_121 : decode bn_M_braces 121 = .ok (.getfield 263, 3) := by decide +kernel
theorem dn_M_braces_124 : decode bn_M_braces 124 = .ok (.iconst 1, 1) := by decide +kernel
theorem dn_M_braces_125 : decode bn_M_braces 125 = .ok (.iadd, 1) := by decide +kernel
theorem dn_M_braces_126 : decode bn_M_braces 126 = .ok (.putfield 263, 3) := by decide +kernel
theorem dn_M_braces_129 : decode bn_M_braces 129 = .ok (.aload_n 0, 1) := by decide +kernel
theorem dn_M_braces_130 : decode bn_M_braces 130 = .ok (.invokevirtual 358, 3) := by decide +kernel
theorem dn_M_braces_133 : decode bn_M_braces 133 = .ok (.istore 4, 2) := by decide +kernel
theorem dn_M_braces_135 : decode bn_M_braces 135 = .ok (.aload_n 0, 1) := by decide +kernel
theorem dn_M_braces_136 : decode bn_M_braces 136 = .ok (.bipush 7, 2) := by decide +kernel
theorem dn_M_braces_138 : decode bn_M_braces 138 = .ok (.iload 4, 2) := by decide +kernel
theorem dn_M_braces_140 : decode bn_M_braces 140 = .ok (.iconst 0, 1) := by decide +kernel
theorem dn_M_braces_141 : decode bn_M_braces 141 = .ok (.invokevirtual 365, 3) := by decide +kernel
theorem dn_M_braces_144 : decode bn_M_braces 144 = .ok (.lload_n 2, 1) := by decide +kernel
theorem dn_M_braces_145 : decode bn_M_braces 145 = .ok (.iload 4, 2) := by decide +kernel
theorem dn_M_braces_147 : decode bn_M_braces 147 = .ok (.i2l, 1) := by decide +kernel
theorem dn_M_braces_148 : decode bn_M_braces 148 = .ok (.ladd, 1) := by decide +kernel
theorem dn_M_braces_149 : decode bn_M_braces 149 = .ok (.lstore_n 2, 1) := by decide +kernel
theorem dn_M_braces_150 : decode bn_M_braces 150 = .ok (.goto (-40), 3) := by decide +kernel
theorem dn_M_braces_153 : decode bn_M_braces 153 = .ok (.aload_n 0, 1) := by decide +kernel
theorem dn_M_braces_154 : decode bn_M_braces 154 = .ok (.dup, 1) := by decide +kernel
theorem dn_M_braces_155 : decode bn_M_braces 155 = .ok (.getfield 263, 3) := by decide +kernel
theorem dn_M_braces_158 : decode bn_M_braces 158 = .ok (.iconst 1, 1) := by decide +kernel
theorem dn_M_braces_159 : decode bn_M_braces 159 = .ok (.iadd, 1) := by decide +kernel
theorem dn_M_braces_160 : decode bn_M_braces 160 = .ok (.putfield 263, 3) := by decide +kernel
theorem dn_M_braces_163 : decode bn_M_braces 163 = .ok (.aload_n 0, 1) := by decide +kernel
theorem dn_M_braces_164 : decode bn_M_braces 164 = .ok (.getfield 257, 3) := by decide +kernel
theorem dn_M_braces_167 : decode bn_M_braces 167 = .ok (.ifCond .ne 18, 3) := by decide +kernel
theorem dn_M_braces_170 : decode bn_M_braces 170 = .ok (.lload_n 2, 1) := by decide +kernel
theorem dn_M_braces_171 : decode bn_M_braces 171 = .ok (.ldc2_w 226, 3) := by decide +kernel
theorem dn_M_braces_174 : decode bn_M_braces 174 = .ok (.lcmp, 1) := by decide +kernel
theorem dn_M_braces_175 : decode bn_M_braces 175 = .ok (.ifCond .le 10, 3) := by decide +kernel
theorem dn_M_braces_178 : decode bn_M_braces 178 = .ok (.aload_n 0, 1) := by decide +kernel
theorem dn_M_braces_179 : decode bn_M_braces 179 = .ok (.bipush 30, 2) := by decide +kernel
theorem dn_M_braces_181 : decode bn_M_braces 181 = .ok (.iload_n 1, 1) := by decide +kernel
theorem dn_M_braces_182 : decode bn_M_braces 182 = .ok (.invokevirtual 266, 3) := by decide +kernel
theorem dn_M_braces_185 : decode bn_M_braces 185 = .ok (.aload_n 0, 1) := by decide +kernel
theorem dn_M_braces_186 : decode bn_M_braces 186 = .ok (.getfield 257, 3) := by decide +kernel
theorem dn_M_braces_189 : decode bn_M_braces 189 = .ok (.ifCond .ne 8, 3) := by decide +kernel
theorem dn_M_braces_192 : decode bn_M_braces 192 = .ok (.lload_n 2, 1) := by decide +kernel
theorem dn_M_braces_193 : decode bn_M_braces 193 = .ok (.l2i, 1) := by decide +kernel
theorem dn_M_braces_194 : decode bn_M_braces 194 = .ok (.goto 4, 3) := by decide +kernel
theorem dn_M_braces_197 : decode bn_M_braces 197 = .ok (.iconst 1, 1) := by decide +kernel
theorem dn_M_braces_198 : decode bn_M_braces 198 = .ok (.ireturn, 1) := by decide +kernel
theorem dn_M_bracesGrammar_0 : decode bn_M_bracesGrammar 0 = .ok (.aload_n 0, 1) := by decide +kernel
theorem dn_M_bracesGrammar_1 : decode bn_M_bracesGrammar 1 = .ok (.bipush 123, 2) := by decide +kernel
theorem dn_M_bracesGrammar_3 : decode bn_M_bracesGrammar 3 = .ok (.invokevirtual 293, 3) := by decide +kernel
theorem dn_M_bracesGrammar_6 : decode bn_M_bracesGrammar 6 = .ok (.aload_n 0, 1) := by decide +kernel
theorem dn_M_bracesGrammar_7 : decode bn_M_bracesGrammar 7 = .ok (.sipush 401, 3) := by decide +kernel
theorem dn_M_bracesGrammar_10 : decode bn_M_bracesGrammar 10 = .ok (.invokevirtual 273, 3) := by decide +kernel
theorem dn_M_bracesGrammar_13 : decode bn_M_bracesGrammar 13 = .ok (.ifCond .eq 32, 3) := by decide +kernel
theorem dn_M_bracesGrammar_16 : decode bn_M_bracesGrammar 16 = .ok (.aload_n 0, 1) := by decide +kernel
theorem dn_M_bracesGrammar_17 : decode bn_M_bracesGrammar 17 = .ok (.dup, 1) := by decide +kernel
theorem dn_M_bracesGrammar_18 : decode bn_M_bracesGrammar 18 = .ok (.getfield 263, 3) := by decide +kernel
theorem dn_M_bracesGrammar_21 : decode bn_M_bracesGrammar 21 = .ok (.iconst 1, 1) := by decide +kernel
theorem dn_M_bracesGrammar_22 : decode bn_M_bracesGrammar 22 = .ok (.iadd, 1) := by decide +kernel
theorem dn_M_bracesGrammar_23 : decode bn_M_bracesGrammar 23 = .ok (.putfield 263, 3) := by decide +kernel
theorem dn_M_bracesGrammar_26 : decode bn_M_bracesGrammar 26 = .ok (.aload_n 0, 1) := by decide +kernel
theorem dn_M_bracesGrammar_27 : decode bn_M_bracesGrammar 27 = .ok (.bipush 123, 2) := by decide +kernel
theorem dn_M_bracesGrammar_29 : decode bn_M_bracesGrammar 29 = .ok (.invokevirtual 293, 3) := by decide +kernel
theorem dn_M_bracesGrammar_32 : decode bn_M_bracesGrammar 32 = .ok (.aload_n 0, 1) := by decide +kernel
theorem dn_M_bracesGrammar_33 : decode bn_M_bracesGrammar 33 = .ok (.invokevirtual 296, 3) := by decide +kernel
theorem dn_M_bracesGrammar_36 : decode bn_M_bracesGrammar 36 = .ok (.aload_n 0, 1) := by decide +kernel
theorem dn_M_bracesGrammar_37 : decode bn_M_bracesGrammar 37 = .ok (.bipush 125, 2) := by decide +kernel
theorem dn_M_bracesGrammar_39 : decode bn_M_bracesGrammar 39 = .ok (.invokevirtual 305, 3) := by decide +kernel
theorem dn_M_bracesGrammar_42 : decode bn_M_bracesGrammar 42 = .ok (.goto 33, 3) := by decide +kernel
theorem dn_M_bracesGrammar_45 : decode bn_M_bracesGrammar 45 = .ok (.aload_n 0, 1) := by decide +kernel
theorem dn_M_bracesGrammar_46 : decode bn_M_bracesGrammar 46 = .ok (.invokevirtual 296, 3) := by decide +kernel
theorem dn_M_bracesGrammar_49 : decode bn_M_bracesGrammar 49 = .ok (.aload_n 0, 1) := by decide +kernel
theorem dn_M_bracesGrammar_50 : decode bn_M_bracesGrammar 50 = .ok (.bipush 44, 2) := by decide +kernel
theorem dn_M_bracesGrammar_52 : decode bn_M_bracesGrammar 52 = .ok (.invokevirtual 273, 3) := by decide +kernel
theorem dn_M_bracesGrammar_55 : decode bn_M_bracesGrammar 55 = .ok (.ifCond .eq 20, 3) := by decide +kernel
theorem dn_M_bracesGrammar_58 : decode bn_M_bracesGrammar 58 = .ok (.aload_n 0, 1) := by decide +kernel
theorem dn_M_bracesGrammar_59 : decode bn_M_bracesGrammar 59 = .ok (.dup, 1) := by decide +kernel
theorem dn_M_bracesGrammar_60 : decode bn_M_bracesGrammar 60 = .ok (.getfield 263, 3) := by decide +kernel
theorem dn_M_bracesGrammar_63 : decode bn_M_bracesGrammar 63 = .ok (.iconst 1, 1) := by decide +kernel
theorem dn_M_bracesGrammar_64 : decode bn_M_bracesGrammar 64 = .ok (.iadd, 1) := by decide +kernel
theorem dn_M_bracesGrammar_65 : decode bn_M_bracesGrammar 65 = .ok (.putfield 263, 3) := by decide +kernel
theorem dn_M_bracesGrammar_68 : decode bn_M_bracesGrammar 68 = .ok (.aload_n 0, 1) := by decide +kernel
theorem dn_M_bracesGrammar_69 : decode bn_M_bracesGrammar 69 = .ok (.invokevirtual 296, 3) := by decide +kernel
theorem dn_M_bracesGrammar_72 : decode bn_M_bracesGrammar 72 = .ok (.goto (-23), 3) := by decide +kernel
theorem dn_M_bracesGrammar_75 : decode bn_M_bracesGrammar 75 = .ok (.aload_n 0, 1) := by decide +kernel
theorem dn_M_bracesGrammar_76 : decode bn_M_bracesGrammar 76 = .ok (.bipush 125, 2) := by decide +kernel
theorem dn_M_bracesGrammar_78 : decode bn_M_bracesGrammar 78 = .ok (.invokevirtual 305, 3) := by decide +kernel
theorem dn_M_bracesGrammar_81 : decode bn_M_bracesGrammar 81 = .ok (.return_, 1) := by decide +kernel
theorem dn_M_canBe_0 : decode bn_M_canBe 0 = .ok (.aload_n 0, 1) := by decide +kernel
theorem dn_M_canBe_1 : decode bn_M_canBe 1 = .ok (.getfield 149, 3) := by decide +kernel
theorem dn_M_canBe_4 : decode bn_M_canBe 4 = .ok (.iload_n 1, 1) := by decide +kernel
theorem dn_M_canBe_5 : decode bn_M_canBe 5 = .ok (.iaload, 1) := by decide +kernel
theorem dn_M_canBe_6 : decode bn_M_canBe 6 = .ok (.iconst 2, 1) := by decide +kernel
theorem dn_M_canBe_7 : decode bn_M_canBe 7 = .ok (.if_icmp .ne 15, 3) := by decide +kernel
theorem dn_M_canBe_10 : decode bn_M_canBe 10 = .ok (.aload_n 0, 1) := by decide +kernel
theorem dn_M_canBe_11 : decode bn_M_canBe 11 = .ok (.getfield 164, 3) := by decide +kernel
theorem dn_M_canBe_14 : decode bn_M_canBe 14 = .ok (.aload_n 0, 1) := by decide +kernel
theorem dn_M_canBe_15 : decode bn_M_canBe 15 = .ok (.getfield 152, 3) := by decide +kernel
theorem dn_M_canBe_18 : decode bn_M_canBe 18 = .ok (.iload_n 1, 1) := by decide +kernel
theorem dn_M_canBe_19 : decode bn_M_canBe 19 = .ok (.iaload, 1) := by decide +kernel
theorem dn_M_canBe_20 : decode bn_M_canBe 20 = .ok (.baload, 1) := by decide +kernel
theorem dn_M_canBe_21 : decode bn_M_canBe 21 = .ok (.ireturn, 1) := by decide +kernel
theorem dn_M_canBe_22 : decode bn_M_canBe 22 = .ok (.iconst 1, 1) := by decide +kernel
theorem dn_M_canBe_23 : decode bn_M_canBe 23 = .ok (.istore_n 2, 1) := by decide +kernel
theorem dn_M_canBe_24 : decode bn_M_canBe 24 = .ok (.aload_n 0, 1) := by decide +kernel
theorem dn_M_canBe_25 : decode bn_M_canBe 25 = .ok (.getfield 152, 3) := by decide +kernel
theorem dn_M_canBe_28 : decode bn_M_canBe 28 = .ok (.iload_n 1, 1) := by decide +kernel
theorem dn_M_canBe_29 : decode bn_M_canBe 29 = .ok (.iaload, 1) := by decide +kernel
theorem dn_M_canBe_30 : decode bn_M_canBe 30 = .ok (.istore_n 3, 1) := by decide +kernel
theorem dn_M_canBe_31 : decode bn_M_canBe 31 = .ok (.iload_n 3, 1) := by decide +kernel
theorem dn_M_canBe_32 : decode bn_M_canBe 32 = .ok (.aload_n 0, 1) := by decide +kernel
theorem dn_M_canBe_33 : decode bn_M_canBe 33 = .ok (.getfield 155, 3) := by decide +kernel
theorem dn_M_canBe_36 : decode bn_M_canBe 36 = .ok (.iload_n 1, 1) := by decide +kernel
theorem dn_M_canBe_37 : decode bn_M_canBe 37 = .ok (.iaload, 1) := by decide +kernel
theorem dn_M_canBe_38 : decode bn_M_canBe 38 = .ok (.if_icmp .ge 55, 3) := by decide +kernel
theorem dn_M_canBe_41 : decode bn_M_canBe 41 = .ok (.iload_n 2, 1) := by decide +kernel
theorem dn_M_canBe_42 : decode bn_M_canBe 42 = .ok (.ifCond .eq 43, 3) := by decide +kernel
theorem dn_M_canBe_45 : decode bn_M_canBe 45 = .ok (.aload_n 0, 1) := by decide +kernel
theorem dn_M_canBe_46 : decode bn_M_canBe 46 = .ok (.getfield 95, 3) := by decide +kernel
theorem dn_M_canBe_49 : decode bn_M_canBe 49 = .ok (.iload_n 3, 1) := by decide +kernel
theorem dn_M_canBe_50 : decode bn_M_canBe 50 = .ok (.iaload, 1) := by decide +kernel
theorem dn_M_canBe_51 : decode bn_M_canBe 51 = .ok (.iconst 1, 1) := by decide +kernel
theorem dn_M_canBe_52 : decode bn_M_canBe 52 = .ok (.if_icmp .ne 29, 3) := by decide +kernel
theorem dn_M_canBe_55 : decode bn_M_canBe 55 = .ok (.aload_n 0, 1) := by decide +kernel
theorem dn_M_canBe_56 : decode bn_M_canBe 56 = .ok (.getfield 164, 3) := by decide +kernel
theorem dn_M_canBe_59 : decode bn_M_canBe 59 = .ok (.aload_n 0, 1) := by decide +kernel
theorem dn_M_canBe_60 : decode bn_M_canBe 60 = .ok (.aload_n 0, 1) := by decide +kernel
theorem dn_M_canBe_61 : decode bn_M_canBe 61 = .ok (.getfield 158, 3) := by decide +kernel
theorem dn_M_canBe_64 : decode bn_M_canBe 64 = .ok (.iload_n 1, 1) := by decide +kernel
theorem dn_M_canBe_65 : decode bn_M_canBe 65 = .ok (.iaload, 1) := by decide +kernel
theorem dn_M_canBe_66 : decode bn_M_canBe 66 = .ok (.aload_n 0, 1) := by decide +kernel
theorem dn_M_canBe_67 : decode bn_M_canBe 67 = .ok (.getfield 95, 3) := by decide +kernel
theorem dn_M_canBe_70 : decode bn_M_canBe 70 = .ok (.iload_n 3, 1) := by decide +kernel
theorem dn_M_canBe_71 : decode bn_M_canBe 71 = .ok (.iconst 1, 1) := by decide +kernel
theorem dn_M_canBe_72 : decode bn_M_canBe 72 = .ok (.iadd, 1) := by decide +kernel
theorem dn_M_canBe_73 : decode bn_M_canBe 73 = .ok (.iaload, 1) := by decide +kernel
theorem dn_M_canBe_74 : decode bn_M_canBe 74 = .ok (.invokevirtual 506, 3) := by decide +kernel
theorem dn_M_canBe_77 : decode bn_M_canBe 77 = .ok (.baload, 1) := by decide +kernel
theorem dn_M_canBe_78 : decode bn_M_canBe 78 = .ok (.ifCond .eq 7, 3) := by decide +kernel
theorem dn_M_canBe_81 : decode bn_M_canBe 81 = .ok (.iconst 1, 1) := by decide +kernel
theorem dn_M_canBe_82 : decode bn_M_canBe 82 = .ok (.goto 4, 3) := by decide +kernel
theorem dn_M_canBe_85 : decode bn_M_canBe 85 = .ok (.iconst 0, 1) := by decide +kernel
theorem dn_M_canBe_86 : decode bn_M_canBe 86 = .ok (.istore_n 2, 1) := by decide +kernel
theorem dn_M_canBe_87 : decode bn_M_canBe 87 = .ok (.iinc 3 3, 3) := by decide +kernel
theorem dn_M_canBe_90 : decode bn_M_canBe 90 = .ok (.goto (-59), 3) := by decide +kernel
theorem dn_M_canBe_93 : decode bn_M_canBe 93 = .ok (.iload_n 2, 1) := by decide +kernel
theorem dn_M_canBe_94 : decode bn_M_canBe 94 = .ok (.ireturn, 1) := by decide +kernel
theorem dn_M_caseGrammar_0 : decode bn_M_caseGrammar 0 = .ok (.aload_n 0, 1) := by decide +kernel
theorem dn_M_caseGrammar_1 : decode bn_M_caseGrammar 1 = .ok (.sipush 314, 3) := by decide +kernel
theorem dn_M_caseGrammar_4 : decode bn_M_caseGrammar 4 = .ok (.invokevirtual 293, 3) := by decide +kernel
theorem dn_M_caseGrammar_7 : decode bn_M_caseGrammar 7 = .ok (.aload_n 0, 1) := by decide +kernel
theorem dn_M_caseGrammar_8 : decode bn_M_caseGrammar 8 = .ok (.bipush 40, 2) := by decide +kernel
theorem dn_M_caseGrammar_10 : decode bn_M_caseGrammar 10 = .ok (.invokevirtual 293, 3) := by decide +kernel
theorem dn_M_caseGrammar_13 : decode bn_M_caseGrammar 13 = .ok (.aload_n 0, 1) := by decide +kernel
theorem dn_M_caseGrammar_14 : decode bn_M_caseGrammar 14 = .ok (.invokevirtual 296, 3) := by decide +kernel
theorem dn_M_caseGrammar_17 : decode bn_M_caseGrammar 17 = .ok (.aload_n 0, 1) := by decide +kernel
theorem dn_M_caseGrammar_18 : decode bn_M_caseGrammar 18 = .ok (.bipush 41, 2) := by decide +kernel
theorem dn_M_caseGrammar_20 : decode bn_M_caseGrammar 20 = .ok (.invokevirtual 305, 3) := by decide +kernel
theorem dn_M_caseGrammar_23 : decode bn_M_caseGrammar 23 = .ok (.aload_n 0, 1) := by decide +kernel
theorem dn_M_caseGrammar_24 : decode bn_M_caseGrammar 24 = .ok (.sipush 402, 3) := by decide +kernel
theorem dn_M_caseGrammar_27 : decode bn_M_caseGrammar 27 = .ok (.invokevirtual 273, 3) := by decide +kernel
theorem dn_M_caseGrammar_30 : decode bn_M_caseGrammar 30 = .ok (.ifCond .eq 55, 3) := by decide +kernel
theorem dn_M_caseGrammar_33 : decode bn_M_caseGrammar 33 = .ok (.aload_n 0, 1) := by decide +kernel
theorem dn_M_caseGrammar_34 : decode bn_M_caseGrammar 34 = .ok (.dup, 1) := by decide +kernel
theorem dn_M_caseGrammar_35 : decode bn_M_caseGrammar 35 = .ok (.getfield 263, 3) := by decide +kernel
theorem dn_M_caseGrammar_38 : decode bn_M_caseGrammar 38 = .ok (.iconst 1, 1) := by decide +kernel
theorem dn_M_caseGrammar_39 : decode bn_M_caseGrammar 39 = .ok (.iadd, 1) := by decide +kernel
theorem dn_M_caseGrammar_40 : decode bn_M_caseGrammar 40 = .ok (.putfield 263, 3) := by decide +kernel
theorem dn_M_caseGrammar_43 : decode bn_M_caseGrammar 43 = .ok (.aload_n 0, 1) := by decide +kernel
theorem dn_M_caseGrammar_44 : decode bn_M_caseGrammar 44 = .ok (.bipush 44, 2) := by decide +kernel
theorem dn_M_caseGrammar_46 : decode bn_M_caseGrammar 46 = .ok (.invokevirtual 273, 3) := by decide +kernel
theorem dn_M_caseGrammar_49 : decode bn_M_caseGrammar 49 = .ok (.ifCond .eq 23, 3) := by decide +kernel
theorem dn_M_caseGrammar_52 : decode bn_M_caseGrammar 52 = .ok (.aload_n 0, 1) := by decide +kernel
theorem dn_M_caseGrammar_53 : decode bn_M_caseGrammar 53 = .ok (.dup, 1) := by decide +kernel
theorem dn_M_caseGrammar_54 : decode bn_M_caseGrammar 54 = .ok (.getfield 263, 3) := by decide +kernel
theorem dn_M_caseGrammar_57 : decode bn_M_caseGrammar 57 = .ok (.iconst 1, 1) := by decide +kernel
theorem dn_M_caseGrammar_58 : decode bn_M_caseGrammar 58 = .ok (.iadd, 1) := by decide +kernel
theorem dn_M_caseGrammar_59 : decode bn_M_caseGrammar 59 = .ok (.putfield 263, 3) := by decide +kernel
theorem dn_M_caseGrammar_62 : decode bn_M_caseGrammar 62 = .ok (.aload_n 0, 1) := by decide +kernel
theorem dn_M_caseGrammar_63 : decode bn_M_caseGrammar 63 = .ok (.sipush 402, 3) := by decide +kernel
theorem dn_M_caseGrammar_66 : decode bn_M_caseGrammar 66 = .ok (.invokevirtual 279, 3) := by decide +kernel
theorem dn_M_caseGrammar_69 : decode bn_M_caseGrammar 69 = .ok (.goto (-26), 3) := by decide +kernel
theorem dn_M_caseGrammar_72 : decode bn_M_caseGrammar 72 = .ok (.aload_n 0, 1) := by decide +kernel
theorem dn_M_caseGrammar_73 : decode bn_M_caseGrammar 73 = .ok (.bipush 58, 2) := by decide +kernel
theorem dn_M_caseGrammar_75 : decode bn_M_caseGrammar 75 = .ok (.invokevirtual 279, 3) := by decide +kernel
theorem dn_M_caseGrammar_78 : decode bn_M_caseGrammar 78 = .ok (.aload_n 0, 1) := by decide +kernel
theorem dn_M_caseGrammar_79 : decode bn_M_caseGrammar 79 = .ok (.invokevirtual 317, 3) := by decide +kernel
theorem dn_M_caseGrammar_82 : decode bn_M_caseGrammar 82 = .ok (.goto (-59), 3) := by decide +kernel
theorem dn_M_caseGrammar_85 : decode bn_M_caseGrammar 85 = .ok (.aload_n 0, 1) := by decide +kernel
theorem dn_M_caseGrammar_86 : decode bn_M_caseGrammar 86 = .ok (.sipush 316, 3) := by decide +kernel
theorem dn_M_caseGrammar_89 : decode bn_M_caseGrammar 89 = .ok (.invokevirtual 273, 3) := by decide +kernel
theorem dn_M_caseGrammar_92 : decode bn_M_caseGrammar 92 = .ok (.ifCond .eq 23, 3) := by decide +kernel
theorem dn_M_caseGrammar_95 : decode bn_M_caseGrammar 95 = .ok (.aload_n 0, 1) := by decide +kernel
theorem dn_M_caseGrammar_96 : decode bn_M_caseGrammar 96 = .ok (.dup, 1) := by decide +kernel
theorem dn_M_caseGrammar_97 : decode bn_M_caseGrammar 97 = .ok (.getfield 263, 3) := by decide +kernel
theorem dn_M_caseGrammar_100 : decode bn_M_caseGrammar 100 = .ok (.iconst 1, 1) := by decide +kernel
theorem dn_M_caseGrammar_101 : decode bn_M_caseGrammar 101 = .ok (.iadd, 1) := by decide +kernel
theorem dn_M_caseGrammar_102 : decode bn_M_caseGrammar 102 = .ok (.putfield 263, 3) := by decide +kernel
theorem dn_M_caseGrammar_105 : decode bn_M_caseGrammar 105 = .ok (.aload_n 0, 1) := by decide +kernel
theorem dn_M_caseGrammar_106 : decode bn_M_caseGrammar 106 = .ok (.bipush 58, 2) := by decide +kernel
theorem dn_M_caseGrammar_108 : decode bn_M_caseGrammar 108 = .ok (.invokevirtual 279, 3) := by decide +kernel
theorem dn_M_caseGrammar_111 : decode bn_M_caseGrammar 111 = .ok (.aload_n 0, 1) := by decide +kernel
theorem dn_M_caseGrammar_112 : decode bn_M_caseGrammar 112 = .ok (.invokevirtual 317, 3) := by decide +kernel
theorem dn_M_caseGrammar_115 : decode bn_M_caseGrammar 115 = .ok (.aload_n 0, 1) := by decide +kernel
theorem dn_M_caseGrammar_116 : decode bn_M_caseGrammar 116 = .ok (.sipush 315, 3) := by decide +kernel
theorem dn_M_caseGrammar_119 : decode bn_M_caseGrammar 119 = .ok (.invokevirtual 305, 3) := by decide +kernel
theorem dn_M_caseGrammar_122 : decode bn_M_caseGrammar 122 = .ok (.return_, 1) := by decide +kernel
theorem dn_M_caseOf_0 : decode bn_M_caseOf 0 = .ok (.aload_n 0, 1) := by decide +kernel
theorem dn_M_caseOf_1 : decode bn_M_caseOf 1 = .ok (.aload_n 0, 1) := by decide +kernel
theorem dn_M_caseOf_2 : decode bn_M_caseOf 2 = .ok (.getfield 263, 3) := by decide +kernel
theorem dn_M_caseOf_5 : decode bn_M_caseOf 5 = .ok (.iconst 2, 1) := by decide +kernel
theorem dn_M_caseOf_6 : decode bn_M_caseOf 6 = .ok (.iadd, 1) := by decide +kernel
theorem dn_M_caseOf_7 : decode bn_M_caseOf 7 = .ok (.putfield 263, 3) := by decide +kernel
theorem dn_M_caseOf_10 : decode bn_M_caseOf 10 = .ok (.aload_n 0, 1) := by decide +kernel
theorem dn_M_caseOf_11 : decode bn_M_caseOf 11 = .ok (.invokevirtual 358, 3) := by decide +kernel
theorem dn_M_caseOf_14 : decode bn_M_caseOf 14 = .ok (.istore_n 1, 1) := by decide +kernel
theorem dn_M_caseOf_15 : decode bn_M_caseOf 15 = .ok (.aload_n 0, 1) := by decide +kernel
theorem dn_M_caseOf_16 : decode bn_M_caseOf 16 = .ok (.dup, 1) := by decide +kernel
theorem dn_M_caseOf_17 : decode bn_M_caseOf 17 = .ok (.getfield 263, 3) := by decide +kernel
theorem dn_M_caseOf_20 : decode bn_M_caseOf 20 = .ok (.iconst 1, 1) := by decide +kernel
theorem dn_M_caseOf_21 : decode bn_M_caseOf 21 = .ok (.iadd, 1) := by decide +kernel
theorem dn_M_caseOf_22 : decode bn_M_caseOf 22 = .ok (.putfield 263, 3) := by decide +kernel
theorem dn_M_caseOf_25 : decode bn_M_caseOf 25 = .ok (.iconst (-1), 1) := by decide +kernel
theorem dn_M_caseOf_26 : decode bn_M_caseOf 26 = .ok (.istore_n 2, 1) := by decide +kernel
theorem dn_M_caseOf_27 : decode bn_M_caseOf 27 = .ok (.aload_n 0, 1) := by decide +kernel
theorem dn_M_caseOf_28 : decode bn_M_caseOf 28 = .ok (.sipush 402, 3) := by decide +kernel
theorem dn_M_caseOf_31 : decode bn_M_caseOf 31 = .ok (.invokevirtual 273, 3) := by decide +kernel
theorem dn_M_caseOf_34 : decode bn_M_caseOf 34 = .ok (.ifCond .eq 180, 3) := by decide +kernel
theorem dn_M_caseOf_37 : decode bn_M_caseOf 37 = .ok (.iconst (-1), 1) := by decide +kernel
theorem dn_M_caseOf_38 : decode bn_M_caseOf 38 = .ok (.istore_n 3, 1) := by decide +kernel
theorem dn_M_caseOf_39 : decode bn_M_caseOf 39 = .ok (.iconst 1, 1) := by decide +kernel
theorem dn_M_caseOf_40 : decode bn_M_caseOf 40 = .ok (.istore 4, 2) := by decide +kernel
theorem dn_M_caseOf_42 : decode bn_M_caseOf 42 = .ok (.iload 4, 2) := by decide +kernel
theorem dn_M_caseOf_44 : decode bn_M_caseOf 44 = .ok (.ifCond .eq 108, 3) := by decide +kernel
theorem dn_M_caseOf_47 : decode bn_M_caseOf 47 = .ok (.aload_n 0, 1) := by decide +kernel
theorem dn_M_caseOf_48 : decode bn_M_caseOf 48 = .ok (.getfield 257, 3) := by decide +kernel
theorem dn_M_caseOf_51 : decode bn_M_caseOf 51 = .ok (.ifCond .ne 101, 3) := by decide +kernel
theorem dn_M_caseOf_54 : decode bn_M_caseOf 54 = .ok (.aload_n 0, 1) := by decide +kernel
theorem dn_M_caseOf_55 : decode bn_M_caseOf 55 = .ok (.aload_n 0, 1) := by decide +kernel
theorem dn_M_caseOf_56 : decode bn_M_caseOf 56 = .ok (.getfield 263, 3) := by decide +kernel
theorem dn_M_caseOf_59 : decode bn_M_caseOf 59 = .ok (.invokevirtual 394, 3) := by decide +kernel
theorem dn_M_caseOf_62 : decode bn_M_caseOf 62 = .ok (.iload_n 1, 1) := by decide +kernel
theorem dn_M_caseOf_63 : decode bn_M_caseOf 63 = .ok (.if_icmp .eq 18, 3) := by decide +kernel
theorem dn_M_caseOf_66 : decode bn_M_caseOf 66 = .ok (.aload_n 0, 1) := by decide +kernel
theorem dn_M_caseOf_67 : decode bn_M_caseOf 67 = .ok (.bipush 30, 2) := by decide +kernel
theorem dn_M_caseOf_69 : decode bn_M_caseOf 69 = .ok (.aload_n 0, 1) := by decide +kernel
theorem dn_M_caseOf_70 : decode bn_M_caseOf 70 = .ok (.getfield 19, 3) := by decide +kernel
theorem dn_M_caseOf_73 : decode bn_M_caseOf 73 = .ok (.aload_n 0, 1) := by decide +kernel
theorem dn_M_caseOf_74 : decode bn_M_caseOf 74 = .ok (.getfield 263, 3) := by decide +kernel
theorem dn_M_caseOf_77 : decode bn_M_caseOf 77 = .ok (.iaload, 1) := by decide +kernel
theorem dn_M_caseOf_78 : decode bn_M_caseOf 78 = .ok (.invokevirtual 266, 3) := by decide +kernel
theorem dn_M_caseOf_81 : decode bn_M_caseOf 81 = .ok (.aload_n 0, 1) := by decide +kernel
theorem dn_M_caseOf_82 : decode bn_M_caseOf 82 = .ok (.iload_n 1, 1) := by decide +kernel
theorem dn_M_caseOf_83 : decode bn_M_caseOf 83 = .ok (.i2l, 1) := by decide +kernel
theorem dn_M_caseOf_84 : decode bn_M_caseOf 84 = .ok (.invokevirtual 361, 3) := by decide +kernel
theorem dn_M_caseOf_87 : decode bn_M_caseOf 87 = .ok (.aload_n 0, 1) := by decide +kernel
theorem dn_M_caseOf_88 : decode bn_M_caseOf 88 = .ok (.bipush 12, 2) := by decide +kernel
theorem dn_M_caseOf_90 : decode bn_M_caseOf 90 = .ok (.iload_n 3, 1) := by decide +kernel
theorem dn_M_caseOf_91 : decode bn_M_caseOf 91 = .ok (.aload_n 0, 1) := by decide +kernel
theorem dn_M_caseOf_92 : decode bn_M_caseOf 92 = .ok (.aload_n 0, 1) := by decide +kernel
theorem dn_M_caseOf_93 : decode bn_M_caseOf 93 = .ok (.aload_n 0, 1) := by decide +kernel
theorem dn_M_caseOf_94 : decode bn_M_caseOf 94 = .ok (.getfield 263, 3) := by decide +kernel
theorem dn_M_caseOf_97 : decode bn_M_caseOf 97 = .ok (.invokevirtual 386, 3) := by decide +kernel
theorem dn_M_caseOf_100 : decode bn_M_caseOf 100 = .ok (.invokevirtual 390, 3) := by decide +kernel
theorem dn_M_caseOf_103 : decode bn_M_caseOf 103 = .ok (.invokevirtual 365, 3) := by decide +kernel
theorem dn_M_caseOf_106 : decode bn_M_caseOf 106 = .ok (.aload_n 0, 1) := by decide +kernel
theorem dn_M_caseOf_107 : decode bn_M_caseOf 107 = .ok (.getfield 349, 3) := by decide +kernel
theorem dn_M_caseOf_110 : decode bn_M_caseOf 110 = .ok (.iconst 3, 1) := by decide +kernel
theorem dn_M_caseOf_111 : decode bn_M_caseOf 111 = .ok (.isub, 1) := by decide +kernel
theorem dn_M_caseOf_112 : decode bn_M_caseOf 112 = .ok (.istore_n 3, 1) := by decide +kernel
theorem dn_M_caseOf_113 : decode bn_M_caseOf 113 = .ok (.aload_n 0, 1) := by decide +kernel
theorem dn_M_caseOf_114 : decode bn_M_caseOf 114 = .ok (.dup, 1) := by decide +kernel
theorem dn_M_caseOf_115 : decode bn_M_caseOf 115 = .ok (.getfield 263, 3) := by decide +kernel
theorem dn_M_caseOf_118 : decode bn_M_caseOf 118 = .ok (.iconst 1, 1) := by decide +kernel
theorem dn_M_caseOf_119 : decode bn_M_caseOf 119 = .ok (.iadd, 1) := by decide +kernel
theorem dn_M_caseOf_120 : decode bn_M_caseOf 120 = .ok (.putfield 263, 3) := by decide +kernel
theorem dn_M_caseOf_123 : decode bn_M_caseOf 123 = .ok (.aload_n 0, 1) := by decide +kernel
theorem dn_M_caseOf_124 : decode bn_M_caseOf 124 = .ok (.invokevirtual 286, 3) := by decide +kernel
theorem dn_M_caseOf_127 : decode bn_M_caseOf 127 = .ok (.bipush 44, 2) := by decide +kernel
theorem dn_M_caseOf_129 : decode bn_M_caseOf 129 = .ok (.if_icmp .ne 7, 3) := by decide +kernel
theorem dn_M_caseOf_132 : decode bn_M_caseOf 132 = .ok (.iconst 1, 1) := by decide +kernel
theorem dn_M_caseOf_133 : decode bn_M_caseOf 133 = .ok (.goto 4, 3) := by decide +kernel
theorem dn_M_caseOf_136 : decode bn_M_caseOf 136 = .ok (.iconst 0, 1) := by decide +kernel
theorem dn_M_caseOf_137 : decode bn_M_caseOf 137 = .ok (.istore 4, 2) := by decide +kernel
theorem dn_M_caseOf_139 : decode bn_M_caseOf 139 = .ok (.aload_n 0, 1) := by decide +kernel
theorem dn_M_caseOf_140 : decode bn_M_caseOf 140 = .ok (.dup, 1) := by decide +kernel
theorem dn_M_caseOf_141 : decode bn_M_caseOf 141 = .ok (.getfield 263, 3) := by decide +kernel
theorem dn_M_caseOf_144 : decode bn_M_caseOf 144 = .ok (.iconst 1, 1) := by decide +kernel
theorem dn_M_caseOf_145 : decode bn_M_caseOf 145 = .ok (.iadd, 1) := by decide +kernel
theorem dn_M_caseOf_146 : decode bn_M_caseOf 146 = .ok (.putfield 263, 3) := by decide +kernel
theorem dn_M_caseOf_149 : decode bn_M_caseOf 149 = .ok (.goto (-107), 3) := by decide +kernel
theorem dn_M_caseOf_152 : decode bn_M_caseOf 152 = .ok (.aload_n 0, 1) := by decide +kernel
theorem dn_M_caseOf_153 : decode bn_M_caseOf 153 = .ok (.getfield 349, 3) := by decide +kernel
theorem dn_M_caseOf_156 : decode bn_M_caseOf 156 = .ok (.istore 5, 2) := by decide +kernel
theorem dn_M_caseOf_158 : decode bn_M_caseOf 158 = .ok (.aload_n 0, 1) := by decide +kernel
theorem dn_M_caseOf_159 : decode bn_M_caseOf 159 = .ok (.bipush 11, 2) := by decide +kernel
theorem dn_M_caseOf_161 : decode bn_M_caseOf 161 = .ok (.iconst 0, 1) := by decide +kernel
theorem dn_M_caseOf_162 : decode bn_M_caseOf 162 = .ok (.iconst 0, 1) := by decide +kernel
theorem dn_M_caseOf_163 : decode bn_M_caseOf 163 = .ok (.invokevirtual 365, 3) := by decide +kernel
theorem dn_M_caseOf_166 : decode bn_M_caseOf 166 = .ok (.aload_n 0, 1) := by decide +kernel
theorem dn_M_caseOf_167 : decode bn_M_caseOf 167 = .ok (.iload_n 3, 1) := by decide +kernel
theorem dn_M_caseOf_168 : decode bn_M_caseOf 168 = .ok (.invokevirtual 429, 3) := by decide +kernel
theorem dn_M_caseOf_171 : decode bn_M_caseOf 171 = .ok (.aload_n 0, 1) := by decide +kernel
theorem dn_M_caseOf_172 : decode bn_M_caseOf 172 = .ok (.bipush 13, 2) := by decide +kernel
theorem dn_M_caseOf_174 : decode bn_M_caseOf 174 = .ok (.iconst 0, 1) := by decide +kernel
theorem dn_M_caseOf_175 : decode bn_M_caseOf 175 = .ok (.iconst 0, 1) := by decide +kernel
theorem dn_M_caseOf_176 : decode bn_M_caseOf 176 = .ok (.invokevirtual 365, 3) := by decide +kernel
theorem dn_M_caseOf_179 : decode bn_M_caseOf 179 = .ok (.aload_n 0, 1) := by decide +kernel
theorem dn_M_caseOf_180 : decode bn_M_caseOf 180 = .ok (.invokevirtual 420, 3) := by decide +kernel
theorem dn_M_caseOf_183 : decode bn_M_caseOf 183 = .ok (.aload_n 0, 1) := by decide +kernel
theorem dn_M_caseOf_184 : decode bn_M_caseOf 184 = .ok (.bipush 11, 2) := by decide +kernel
theorem dn_M_caseOf_186 : decode bn_M_caseOf 186 = .ok (.iload_n 2, 1) := by decide +kernel
theorem dn_M_caseOf_187 : decode bn_M_caseOf 187 = .ok (.iconst 0, 1) := by decide +kernel
theorem dn_M_caseOf_188 : decode bn_M_caseOf 188 = .ok (.invokevirtual 365, 3) := by decide +kernel
theorem dn_M_caseOf_191 : decode bn_M_caseOf 191 = .ok (.aload_n 0, 1) := by decide +kernel
theorem dn_M_caseOf_192 : decode bn_M_caseOf 192 = .ok (.getfield 349, 3) := by decide +kernel
theorem dn_M_caseOf_195 : decode bn_M_caseOf 195 = .ok (.iconst 3, 1) := by decide +kernel
theorem dn_M_caseOf_196 : decode bn_M_caseOf 196 = .ok (.isub, 1) := by decide +kernel
theorem dn_M_caseOf_197 : decode bn_M_caseOf 197 = .ok (.istore_n 2, 1) := by decide +kernel
theorem dn_M_caseOf_198 : decode bn_M_caseOf 198 = .ok (.aload_n 0, 1) := by decide +kernel
theorem dn_M_caseOf_199 : decode bn_M_caseOf 199 = .ok (.getfield 95, 3) := by decide +kernel
theorem dn_M_caseOf_202 : decode bn_M_caseOf 202 = .ok (.iload 5, 2) := by decide +kernel
theorem dn_M_caseOf_204 : decode bn_M_caseOf 204 = .ok (.iconst 1, 1) := by decide +kernel
theorem dn_M_caseOf_205 : decode bn_M_caseOf 205 = .ok (.iadd, 1) := by decide +kernel
theorem dn_M_caseOf_206 : decode bn_M_caseOf 206 = .ok (.aload_n 0, 1) := by decide +kernel
theorem dn_M_caseOf_207 : decode bn_M_caseOf 207 = .ok (.getfield 349, 3) := by decide +kernel
theorem dn_M_caseOf_210 : decode bn_M_caseOf 210 = .ok (.iastore, 1) := by decide +kernel
theorem dn_M_caseOf_211 : decode bn_M_caseOf 211 = .ok (.goto (-184), 3) := by decide +kernel
theorem dn_M_caseOf_214 : decode bn_M_caseOf 214 = .ok (.aload_n 0, 1) := by decide +kernel
theorem dn_M_caseOf_215 : decode bn_M_caseOf 215 = .ok (.bipush 13, 2) := by decide +kernel
theorem dn_M_caseOf_217 : decode bn_M_caseOf 217 = .ok (.iconst 0, 1) := by decide +kernel
theorem dn_M_caseOf_218 : decode bn_M_caseOf 218 = .ok (.iconst 0, 1) := by decide +kernel
theorem dn_M_caseOf_219 : decode bn_M_caseOf 219 = .ok (.invokevirtual 365, 3) := by decide +kernel
theorem dn_M_caseOf_222 : decode bn_M_caseOf 222 = .ok (.aload_n 0, 1) := by decide +kernel
theorem dn_M_caseOf_223 : decode bn_M_caseOf 223 = .ok (.sipush 316, 3) := by decide +kernel
theorem dn_M_caseOf_226 : decode bn_M_caseOf 226 = .ok (.invokevirtual 273, 3) := by decide +kernel
theorem dn_M_caseOf_229 : decode bn_M_caseOf 229 = .ok (.ifCond .eq 17, 3) := by decide +kernel
theorem dn_M_caseOf_232 : decode bn_M_caseOf 232 = .ok (.aload_n 0, 1) := by decide +kernel
theorem dn_M_caseOf_233 : decode bn_M_caseOf 233 = .ok (.aload_n 0, 1) := by decide +kernel
theorem dn_M_caseOf_234 : decode bn_M_caseOf 234 = .ok (.getfield 263, 3) := by decide +kernel
theorem dn_M_caseOf_237 : decode bn_M_caseOf 237 = .ok (.iconst 2, 1) := by decide +kernel
theorem dn_M_caseOf_238 : decode bn_M_caseOf 238 = .ok (.iadd, 1) := by decide +kernel
theorem dn_M_caseOf_239 : decode bn_M_caseOf 239 = .ok (.putfield 263, 3) := by decide +kernel
theorem dn_M_caseOf_242 : decode bn_M_caseOf 242 = .ok (.aload_n 0, 1) := by decide +kernel
theorem dn_M_caseOf_243 : decode bn_M_caseOf 243 = .ok (.invokevirtual 420, 3) := by decide +kernel
theorem dn_M_caseOf_246 : decode bn_M_caseOf 246 = .ok (.aload_n 0, 1) := by decide +kernel
theorem dn_M_caseOf_247 : decode bn_M_caseOf 247 = .ok (.iload_n 2, 1) := by decide +kernel
theorem dn_M_caseOf_248 : decode bn_M_caseOf 248 = .ok (.invokevirtual 429, 3) := by decide +kernel
theorem dn_M_caseOf_251 : decode bn_M_caseOf 251 = .ok (.aload_n 0, 1) := by decide +kernel
theorem dn_M_caseOf_252 : decode bn_M_caseOf 252 = .ok (.dup, 1) := by decide +kernel
theorem dn_M_caseOf_253 : decode bn_M_caseOf 253 = .ok (.getfield 263, 3) := by decide +kernel
theorem dn_M_caseOf_256 : decode bn_M_caseOf 256 = .ok (.iconst 1, 1) := by decide +kernel
theorem dn_M_caseOf_257 : decode bn_M_caseOf 257 = .ok (.iadd, 1) := by decide +kernel
theorem dn_M_caseOf_258 : decode bn_M_caseOf 258 = .ok (.putfield 263, 3) := by decide +kernel
theorem dn_M_caseOf_261 : decode bn_M_caseOf 261 = .ok (.return_, 1) := by decide +kernel
theorem dn_M_cost_0 : decode bn_M_cost 0 = .ok (.aload_n 0, 1) := by decide +kernel
theorem dn_M_cost_1 : decode bn_M_cost 1 = .ok (.getfield 101, 3) := by decide +kernel
theorem dn_M_cost_4 : decode bn_M_cost 4 = .ok (.aload_n 0, 1) := by decide +kernel
theorem dn_M_cost_5 : decode bn_M_cost 5 = .ok (.getfield 336, 3) := by decide +kernel
theorem dn_M_cost_8 : decode bn_M_cost 8 = .ok (.aload_n 0, 1) := by decide +kernel
theorem dn_M_cost_9 : decode bn_M_cost 9 = .ok (.getfield 101, 3) := by decide +kernel
theorem dn_M_cost_12 : decode bn_M_cost 12 = .ok (.aload_n 0, 1) := by decide +kernel
theorem dn_M_cost_13 : decode bn_M_cost 13 = .ok (.getfield 336, 3) := by decide +kernel
theorem dn_M_cost_16 : decode bn_M_cost 16 = .ok (.laload, 1) := by decide +kernel
theorem dn_M_cost_17 : decode bn_M_cost 17 = .ok (.lload_n 1, 1) := by decide +kernel
theorem dn_M_cost_18 : decode bn_M_cost 18 = .ok (.ladd, 1) := by decide +kernel
theorem dn_M_cost_19 : decode bn_M_cost 19 = .ok (.lastore, 1) := by decide +kernel
theorem dn_M_cost_20 : decode bn_M_cost 20 = .ok (.return_, 1) := by decide +kernel
theorem dn_M_count_0 : decode bn_M_count 0 = .ok (.aload_n 0, 1) := by decide +kernel
theorem dn_M_count_1 : decode bn_M_count 1 = .ok (.aload_n 0, 1) := by decide +kernel
theorem dn_M_count_2 : decode bn_M_count 2 = .ok (.getfield 545, 3) := by decide +kernel
theorem dn_M_count_5 : decode bn_M_count 5 = .ok (.ifCond .ne 7, 3) := by decide +kernel
theorem dn_M_count_8 : decode bn_M_count 8 = .ok (.iconst 1, 1) := by decide +kernel
theorem dn_M_count_9 : decode bn_M_count 9 = .ok (.goto 18, 3) := by decide +kernel
theorem dn_M_count_12 : decode bn_M_count 12 = .ok (.iload_n 1, 1) := by decide +kernel
theorem dn_M_count_13 : decode bn_M_count 13 = .ok (.ifCond .lt 9, 3) := by decide +kernel
theorem dn_M_count_16 : decode bn_M_count 16 = .ok (.iload_n 1, 1) := by decide +kernel
theorem dn_M_count_17 : decode bn_M_count 17 = .ok (.bipush 6, 2) := by decide +kernel
theorem dn_M_count_19 : decode bn_M_count 19 = .ok (.if_icmp .le 7, 3) := by decide +kernel
theorem dn_M_count_22 : decode bn_M_count 22 = .ok (.iconst 2, 1) := by decide +kernel
theorem dn_M_count_23 : decode bn_M_count 23 = .ok (.goto 4, 3) := by decide +kernel
theorem dn_M_count_26 : decode bn_M_count 26 = .ok (.iconst 0, 1) := by decide +kernel
theorem dn_M_count_27 : decode bn_M_count 27 = .ok (.putfield 192, 3) := by decide +kernel
theorem dn_M_count_30 : decode bn_M_count 30 = .ok (.aload_n 0, 1) := by decide +kernel
theorem dn_M_count_31 : decode bn_M_count 31 = .ok (.getfield 192, 3) := by decide +kernel
theorem dn_M_count_34 : decode bn_M_count 34 = .ok (.ifCond .le 5, 3) := by decide +kernel
theorem dn_M_count_37 : decode bn_M_count 37 = .ok (.iconst 0, 1) := by decide +kernel
theorem dn_M_count_38 : decode bn_M_count 38 = .ok (.ireturn, 1) := by decide +kernel
theorem dn_M_count_39 : decode bn_M_count 39 = .ok (.iload_n 1, 1) := by decide +kernel
theorem dn_M_count_40 : decode bn_M_count 40 = .ok (.tableswitch 72 0 5 #[40, 45, 52, 57, 62, 67], 40) := by decide +kernel
theorem dn_M_count_80 : decode bn_M_count 80 = .ok (.aload_n 0, 1) := by decide +kernel
theorem dn_M_count_81 : decode bn_M_count 81 = .ok (.getfield 557, 3) := by decide +kernel
theorem dn_M_count_84 : decode bn_M_count 84 = .ok (.ireturn, 1) := by decide +kernel
theorem dn_M_count_85 : decode bn_M_count 85 = .ok (.aload_n 0, 1) := by decide +kernel
theorem dn_M_count_86 : decode bn_M_count 86 = .ok (.getfield 494, 3) := by decide +kernel
theorem dn_M_count_89 : decode bn_M_count 89 = .ok (.iconst 1, 1) := by decide +kernel
theorem dn_M_count_90 : decode bn_M_count 90 = .ok (.isub, 1) := by decide +kernel
theorem dn_M_count_91 : decode bn_M_count 91 = .ok (.ireturn, 1) := by decide +kernel
theorem dn_M_count_92 : decode bn_M_count 92 = .ok (.aload_n 0, 1) := by decide +kernel
theorem dn_M_count_93 : decode bn_M_count 93 = .ok (.getfield 497, 3) := by decide +kernel
theorem dn_M_count_96 : decode bn_M_count 96 = .ok (.ireturn, 1) := by decide +kernel
theorem dn_M_count_97 : decode bn_M_count 97 = .ok (.aload_n 0, 1) := by decide +kernel
theorem dn_M_count_98 : decode bn_M_count 98 = .ok (.getfield 560, 3) := by decide +kernel
theorem dn_M_count_101 : decode bn_M_count 101 = .ok (.ireturn, 1) := by decide +kernel
theorem dn_M_count_102 : decode bn_M_count 102 = .ok (.aload_n 0, 1) := by decide +kernel
theorem dn_M_count_103 : decode bn_M_count 103 = .ok (.getfield 567, 3) := by decide +kernel
theorem dn_M_count_106 : decode bn_M_count 106 = .ok (.ireturn, 1) := by decide +kernel
theorem dn_M_count_107 : decode bn_M_count 107 = .ok (.aload_n 0, 1) := by decide +kernel
theorem dn_M_count_108 : decode bn_M_count 108 = .ok (.getfield 570, 3) := by decide +kernel
theorem dn_M_count_111 : decode bn_M_count 111 = .ok (.ireturn, 1) := by decide +kernel
theorem dn_M_count_112 : decode bn_M_count 112 = .ok (.aload_n 0, 1) := by decide +kernel
theorem dn_M_count_113 : decode bn_M_count 113 = .ok (.getfield 563, 3) := by decide +kernel
theorem dn_M_count_116 : decode bn_M_count 116 = .ok (.l2i, 1) := by decide +kernel
theorem dn_M_count_117 : decode bn_M_count 117 = .ok (.ireturn, 1) := by decide +kernel
theorem dn_M_cutTokens_0 : decode bn_M_cutTokens 0 = .ok (.aload_n 0, 1) := by decide +kernel
theorem dn_M_cutTokens_1 : decode bn_M_cutTokens 1 = .ok (.iconst 0, 1) := by decide +kernel
theorem dn_M_cutTokens_2 : decode bn_M_cutTokens 2 = .ok (.putfield 231, 3) := by decide +kernel
theorem dn_M_cutTokens_5 : decode bn_M_cutTokens 5 = .ok (.iconst 0, 1) := by decide +kernel
theorem dn_M_cutTokens_6 : decode bn_M_cutTokens 6 = .ok (.istore_n 1, 1) := by decide +kernel
theorem dn_M_cutTokens_7 : decode bn_M_cutTokens 7 = .ok (.aload_n 0, 1) := by decide +kernel
theorem dn_M_cutTokens_8 : decode bn_M_cutTokens 8 = .ok (.iload_n 1, 1) := by decide +kernel
theorem dn_M_cutTokens_9 : decode bn_M_cutTokens 9 = .ok (.invokevirtual 234, 3) := by decide +kernel
theorem dn_M_cutTokens_12 : decode bn_M_cutTokens 12 = .ok (.istore_n 2, 1) := by decide +kernel
theorem dn_M_cutTokens_13 : decode bn_M_cutTokens 13 = .ok (.iload_n 2, 1) := by decide +kernel
theorem dn_M_cutTokens_14 : decode bn_M_cutTokens 14 = .ok (.ifCond .ge 18, 3) := by decide +kernel
theorem dn_M_cutTokens_17 : decode bn_M_cutTokens 17 = .ok (.aload_n 0, 1) := by decide +kernel
theorem dn_M_cutTokens_18 : decode bn_M_cutTokens 18 = .ok (.sipush 404, 3) := by decide +kernel
theorem dn_M_cutTokens_21 : decode bn_M_cutTokens 21 = .ok (.iconst (-1), 1) := by decide +kernel
theorem dn_M_cutTokens_22 : decode bn_M_cutTokens 22 = .ok (.iload_n 2, 1) := by decide +kernel
theorem dn_M_cutTokens_23 : decode bn_M_cutTokens 23 = .ok (.isub, 1) := by decide +kernel
theorem dn_M_cutTokens_24 : decode bn_M_cutTokens 24 = .ok (.aload_n 0, 1) := by decide +kernel
theorem dn_M_cutTokens_25 : decode bn_M_cutTokens 25 = .ok (.getfield 196, 3) := by decide +kernel
theorem dn_M_cutTokens_28 : decode bn_M_cutTokens 28 = .ok (.invokevirtual 237, 3) := by decide +kernel
theorem dn_M_cutTokens_31 : decode bn_M_cutTokens 31 = .ok (.return_, 1) := by decide +kernel
theorem dn_M_cutTokens_32 : decode bn_M_cutTokens 32 = .ok (.iload_n 2, 1) := by decide +kernel
theorem dn_M_cutTokens_33 : decode bn_M_cutTokens 33 = .ok (.aload_n 0, 1) := by decide +kernel
theorem dn_M_cutTokens_34 : decode bn_M_cutTokens 34 = .ok (.getfield 196, 3) := by decide +kernel
theorem dn_M_cutTokens_37 : decode bn_M_cutTokens 37 = .ok (.if_icmp .lt 19, 3) := by decide +kernel
theorem dn_M_cutTokens_40 : decode bn_M_cutTokens 40 = .ok (.aload_n 0, 1) := by decide +kernel
theorem dn_M_cutTokens_41 : decode bn_M_cutTokens 41 = .ok (.sipush 403, 3) := by decide +kernel
theorem dn_M_cutTokens_44 : decode bn_M_cutTokens 44 = .ok (.aload_n 0, 1) := by decide +kernel
theorem dn_M_cutTokens_45 : decode bn_M_cutTokens 45 = .ok (.getfield 196, 3) := by decide +kernel
theorem dn_M_cutTokens_48 : decode bn_M_cutTokens 48 = .ok (.aload_n 0, 1) := by decide +kernel
theorem dn_M_cutTokens_49 : decode bn_M_cutTokens 49 = .ok (.getfield 196, 3) := by decide +kernel
theorem dn_M_cutTokens_52 : decode bn_M_cutTokens 52 = .ok (.invokevirtual 237, 3) := by decide +kernel
theorem dn_M_cutTokens_55 : decode bn_M_cutTokens 55 = .ok (.return_, 1) := by decide +kernel
theorem dn_M_cutTokens_56 : decode bn_M_cutTokens 56 = .ok (.aload_n 0, 1) := by decide +kernel
theorem dn_M_cutTokens_57 : decode bn_M_cutTokens 57 = .ok (.iload_n 2, 1) := by decide +kernel
theorem dn_M_cutTokens_58 : decode bn_M_cutTokens 58 = .ok (.invokevirtual 206, 3) := by decide +kernel
theorem dn_M_cutTokens_61 : decode bn_M_cutTokens 61 = .ok (.istore_n 3, 1) := by decide +kernel
theorem dn_M_cutTokens_62 : decode bn_M_cutTokens 62 = .ok (.iload_n 3, 1) := by decide +kernel
theorem dn_M_cutTokens_63 : decode bn_M_cutTokens 63 = .ok (.invokestatic 199, 3) := by decide +kernel
theorem dn_M_cutTokens_66 : decode bn_M_cutTokens 66 = .ok (.ifCond .eq 37, 3) := by decide +kernel
theorem dn_M_cutTokens_69 : decode bn_M_cutTokens 69 = .ok (.iload_n 2, 1) := by decide +kernel
theorem dn_M_cutTokens_70 : decode bn_M_cutTokens 70 = .ok (.istore_n 1, 1) := by decide +kernel
theorem dn_M_cutTokens_71 : decode bn_M_cutTokens 71 = .ok (.aload_n 0, 1) := by decide +kernel
theorem dn_M_cutTokens_72 : decode bn_M_cutTokens 72 = .ok (.iload_n 1, 1) := by decide +kernel
theorem dn_M_cutTokens_73 : decode bn_M_cutTokens 73 = .ok (.invokevirtual 206, 3) := by decide +kernel
theorem dn_M_cutTokens_76 : decode bn_M_cutTokens 76 = .ok (.invokestatic 228, 3) := by decide +kernel
theorem dn_M_cutTokens_79 : decode bn_M_cutTokens 79 = .ok (.ifCond .eq 9, 3) := by decide +kernel
theorem dn_M_cutTokens_82 : decode bn_M_cutTokens 82 = .ok (.iinc 1 1, 3) := by decide +kernel
theorem dn_M_cutTokens_85 : decode bn_M_cutTokens 85 = .ok (.goto (-14), 3) := by decide +kernel
theorem dn_M_cutTokens_88 : decode bn_M_cutTokens 88 = .ok (.aload_n 0, 1) := by decide +kernel
theorem dn_M_cutTokens_89 : decode bn_M_cutTokens 89 = .ok (.aload_n 0, 1) := by decide +kernel
theorem dn_M_cutTokens_90 : decode bn_M_cutTokens 90 = .ok (.iload_n 2, 1) := by decide +kernel
theorem dn_M_cutTokens_91 : decode bn_M_cutTokens 91 = .ok (.iload_n 1, 1) := by decide +kernel
theorem dn_M_cutTokens_92 : decode bn_M_cutTokens 92 = .ok (.invokevirtual 241, 3) := by decide +kernel
theorem dn_M_cutTokens_95 : decode bn_M_cutTokens 95 = .ok (.iload_n 2, 1) := by decide +kernel
theorem dn_M_cutTokens_96 : decode bn_M_cutTokens 96 = .ok (.iload_n 1, 1) := by decide +kernel
theorem dn_M_cutTokens_97 : decode bn_M_cutTokens 97 = .ok (.invokevirtual 237, 3) := by decide +kernel
theorem dn_M_cutTokens_100 : decode bn_M_cutTokens 100 = .ok (.goto 93, 3) := by decide +kernel
theorem dn_M_cutTokens_103 : decode bn_M_cutTokens 103 = .ok (.iload_n 3, 1) := by decide +kernel
theorem dn_M_cutTokens_104 : decode bn_M_cutTokens 104 = .ok (.invokestatic 203, 3) := by decide +kernel
theorem dn_M_cutTokens_107 : decode bn_M_cutTokens 107 = .ok (.ifCond .eq 24, 3) := by decide +kernel
theorem dn_M_cutTokens_110 : decode bn_M_cutTokens 110 = .ok (.aload_n 0, 1) := by decide +kernel
theorem dn_M_cutTokens_111 : decode bn_M_cutTokens 111 = .ok (.iload_n 2, 1) := by decide +kernel
theorem dn_M_cutTokens_112 : decode bn_M_cutTokens 112 = .ok (.invokevirtual 245, 3) := by decide +kernel
theorem dn_M_cutTokens_115 : decode bn_M_cutTokens 115 = .ok (.istore_n 1, 1) := by decide +kernel
theorem dn_M_cutTokens_116 : decode bn_M_cutTokens 116 = .ok (.aload_n 0, 1) := by decide +kernel
theorem dn_M_cutTokens_117 : decode bn_M_cutTokens 117 = .ok (.aload_n 0, 1) := by decide +kernel
theorem dn_M_cutTokens_118 : decode bn_M_cutTokens 118 = .ok (.iload_n 2, 1) := by decide +kernel
theorem dn_M_cutTokens_119 : decode bn_M_cutTokens 119 = .ok (.iload_n 1, 1) := by decide +kernel
theorem dn_M_cutTokens_120 : decode bn_M_cutTokens 120 = .ok (.invokevirtual 248, 3) := by decide +kernel
theorem dn_M_cutTokens_123 : decode bn_M_cutTokens 123 = .ok (.iload_n 2, 1) := by decide +kernel
theorem dn_M_cutTokens_124 : decode bn_M_cutTokens 124 = .ok (.iload_n 1, 1) := by decide +kernel
theorem dn_M_cutTokens_125 : decode bn_M_cutTokens 125 = .ok (.invokevirtual 237, 3) := by decide +kernel
theorem dn_M_cutTokens_128 : decode bn_M_cutTokens 128 = .ok (.goto 65, 3) := by decide +kernel
theorem dn_M_cutTokens_131 : decode bn_M_cutTokens 131 = .ok (.iload_n 3, 1) := by decide +kernel
theorem dn_M_cutTokens_132 : decode bn_M_cutTokens 132 = .ok (.aload_n 0, 1) := by decide +kernel
theorem dn_M_cutTokens_133 : decode bn_M_cutTokens 133 = .ok (.iload_n 2, 1) := by decide +kernel
theorem dn_M_cutTokens_134 : decode bn_M_cutTokens 134 = .ok (.iconst 1, 1) := by decide +kernel
theorem dn_M_cutTokens_135 : decode bn_M_cutTokens 135 = .ok (.iadd, 1) := by decide +kernel
theorem dn_M_cutTokens_136 : decode bn_M_cutTokens 136 = .ok (.invokevirtual 206, 3) := by decide +kernel
theorem dn_M_cutTokens_139 : decode bn_M_cutTokens 139 = .ok (.invokestatic 251, 3) := by decide +kernel
theorem dn_M_cutTokens_142 : decode bn_M_cutTokens 142 = .ok (.ifCond .le 27, 3) := by decide +kernel
theorem dn_M_cutTokens_145 : decode bn_M_cutTokens 145 = .ok (.iload_n 2, 1) := by decide +kernel
theorem dn_M_cutTokens_146 : decode bn_M_cutTokens 146 = .ok (.iconst 2, 1) := by decide +kernel
theorem dn_M_cutTokens_147 : decode bn_M_cutTokens 147 = .ok (.iadd, 1) := by decide +kernel
theorem dn_M_cutTokens_148 : decode bn_M_cutTokens 148 = .ok (.istore_n 1, 1) := by decide +kernel
theorem dn_M_cutTokens_149 : decode bn_M_cutTokens 149 = .ok (.aload_n 0, 1) := by decide +kernel
theorem dn_M_cutTokens_150 : decode bn_M_cutTokens 150 = .ok (.iload_n 3, 1) := by decide +kernel
theorem dn_M_cutTokens_151 : decode bn_M_cutTokens 151 = .ok (.aload_n 0, 1) := by decide +kernel
theorem dn_M_cutTokens_152 : decode bn_M_cutTokens 152 = .ok (.iload_n 2, 1) := by decide +kernel
theorem dn_M_cutTokens_153 : decode bn_M_cutTokens 153 = .ok (.iconst 1, 1) := by decide +kernel
theorem dn_M_cutTokens_154 : decode bn_M_cutTokens 154 = .ok (.iadd, 1) := by decide +kernel
theorem dn_M_cutTokens_155 : decode bn_M_cutTokens 155 = .ok (.invokevirtual 206, 3) := by decide +kernel
theorem dn_M_cutTokens_158 : decode bn_M_cutTokens 158 = .ok (.invokestatic 251, 3) := by decide +kernel
theorem dn_M_cutTokens_161 : decode bn_M_cutTokens 161 = .ok (.iload_n 2, 1) := by decide +kernel
theorem dn_M_cutTokens_162 : decode bn_M_cutTokens 162 = .ok (.iload_n 1, 1) := by decide +kernel
theorem dn_M_cutTokens_163 : decode bn_M_cutTokens 163 = .ok (.invokevirtual 237, 3) := by decide +kernel
theorem dn_M_cutTokens_166 : decode bn_M_cutTokens 166 = .ok (.goto 27, 3) := by decide +kernel
theorem dn_M_cutTokens_169 : decode bn_M_cutTokens 169 = .ok (.iload_n 2, 1) := by decide +kernel
theorem dn_M_cutTokens_170 : decode bn_M_cutTokens 170 = .ok (.iconst 1, 1) := by decide +kernel
theorem dn_M_cutTokens_171 : decode bn_M_cutTokens 171 = .ok (.iadd, 1) := by decide +kernel
theorem dn_M_cutTokens_172 : decode bn_M_cutTokens 172 = .ok (.istore_n 1, 1) := by decide +kernel
theorem dn_M_cutTokens_173 : decode bn_M_cutTokens 173 = .ok (.aload_n 0, 1) := by decide +kernel
theorem dn_M_cutTokens_174 : decode bn_M_cutTokens 174 = .ok (.iload_n 3, 1) := by decide +kernel
theorem dn_M_cutTokens_175 : decode bn_M_cutTokens 175 = .ok (.invokestatic 254, 3) := by decide +kernel
theorem dn_M_cutTokens_178 : decode bn_M_cutTokens 178 = .ok (.ifCond .eq 7, 3) := by decide +kernel
theorem dn_M_cutTokens_181 : decode bn_M_cutTokens 181 = .ok (.iload_n 3, 1) := by decide +kernel
theorem dn_M_cutTokens_182 : decode bn_M_cutTokens 182 = .ok (.goto 6, 3) := by decide +kernel
theorem dn_M_cutTokens_185 : decode bn_M_cutTokens 185 = .ok (.sipush 404, 3) := by decide +kernel
theorem dn_M_cutTokens_188 : decode bn_M_cutTokens 188 = .ok (.iload_n 2, 1) := by decide +kernel
theorem dn_M_cutTokens_189 : decode bn_M_cutTokens 189 = .ok (.iload_n 1, 1) := by decide +kernel
theorem dn_M_cutTokens_190 : decode bn_M_cutTokens 190 = .ok (.invokevirtual 237, 3) := by decide +kernel
theorem dn_M_cutTokens_193 : decode bn_M_cutTokens 193 = .ok (.aload_n 0, 1) := by decide +kernel
theorem dn_M_cutTokens_194 : decode bn_M_cutTokens 194 = .ok (.getfield 15, 3) := by decide +kernel
theorem dn_M_cutTokens_197 : decode bn_M_cutTokens 197 = .ok (.aload_n 0, 1) := by decide +kernel
theorem dn_M_cutTokens_198 : decode bn_M_cutTokens 198 = .ok (.getfield 231, 3) := by decide +kernel
theorem dn_M_cutTokens_201 : decode bn_M_cutTokens 201 = .ok (.iconst 1, 1) := by decide +kernel
theorem dn_M_cutTokens_202 : decode bn_M_cutTokens 202 = .ok (.isub, 1) := by decide +kernel
theorem dn_M_cutTokens_203 : decode bn_M_cutTokens 203 = .ok (.iaload, 1) := by decide +kernel
theorem dn_M_cutTokens_204 : decode bn_M_cutTokens 204 = .ok (.sipush 404, 3) := by decide +kernel
theorem dn_M_cutTokens_207 : decode bn_M_cutTokens 207 = .ok (.if_icmp .ne 4, 3) := by decide +kernel
theorem dn_M_cutTokens_210 : decode bn_M_cutTokens 210 = .ok (.return_, 1) := by decide +kernel
theorem dn_M_cutTokens_211 : decode bn_M_cutTokens 211 = .ok (.goto (-204), 3) := by decide +kernel
theorem dn_M_declare_0 : decode bn_M_declare 0 = .ok (.aload_n 0, 1) := by decide +kernel
theorem dn_M_declare_1 : decode bn_M_declare 1 = .ok (.getfield 257, 3) := by decide +kernel
theorem dn_M_declare_4 : decode bn_M_declare 4 = .ok (.ifCond .ne 40, 3) := by decide +kernel
theorem dn_M_declare_7 : decode bn_M_declare 7 = .ok (.aload_n 0, 1) := by decide +kernel
theorem dn_M_declare_8 : decode bn_M_declare 8 = .ok (.aload_n 0, 1) := by decide +kernel
theorem dn_M_declare_9 : decode bn_M_declare 9 = .ok (.getfield 263, 3) := by decide +kernel
theorem dn_M_declare_12 : decode bn_M_declare 12 = .ok (.invokevirtual 400, 3) := by decide +kernel
theorem dn_M_declare_15 : decode bn_M_declare 15 = .ok (.ifCond .ge 14, 3) := by decide +kernel
theorem dn_M_declare_18 : decode bn_M_declare 18 = .ok (.aload_n 0, 1) := by decide +kernel
theorem dn_M_declare_19 : decode bn_M_declare 19 = .ok (.aload_n 0, 1) := by decide +kernel
theorem dn_M_declare_20 : decode bn_M_declare 20 = .ok (.getfield 263, 3) := by decide +kernel
theorem dn_M_declare_23 : decode bn_M_declare 23 = .ok (.invokevirtual 408, 3) := by decide +kernel
theorem dn_M_declare_26 : decode bn_M_declare 26 = .ok (.ifCond .eq 18, 3) := by decide +kernel
theorem dn_M_declare_29 : decode bn_M_declare 29 = .ok (.aload_n 0, 1) := by decide +kernel
theorem dn_M_declare_30 : decode bn_M_declare 30 = .ok (.bipush 21, 2) := by decide +kernel
theorem dn_M_declare_32 : decode bn_M_declare 32 = .ok (.aload_n 0, 1) := by decide +kernel
theorem dn_M_declare_33 : decode bn_M_declare 33 = .ok (.getfield 19, 3) := by decide +kernel
theorem dn_M_declare_36 : decode bn_M_declare 36 = .ok (.aload_n 0, 1) := by decide +kernel
theorem dn_M_declare_37 : decode bn_M_declare 37 = .ok (.getfield 263, 3) := by decide +kernel
theorem dn_M_declare_40 : decode bn_M_declare 40 = .ok (.iaload, 1) := by decide +kernel
theorem dn_M_declare_41 : decode bn_M_declare 41 = .ok (.invokevirtual 266, 3) := by decide +kernel
theorem dn_M_declare_44 : decode bn_M_declare 44 = .ok (.aload_n 0, 1) := by decide +kernel
theorem dn_M_declare_45 : decode bn_M_declare 45 = .ok (.getfield 40, 3) := by decide +kernel
theorem dn_M_declare_48 : decode bn_M_declare 48 = .ok (.aload_n 0, 1) := by decide +kernel
theorem dn_M_declare_49 : decode bn_M_declare 49 = .ok (.getfield 339, 3) := by decide +kernel
theorem dn_M_declare_52 : decode bn_M_declare 52 = .ok (.aload_n 0, 1) := by decide +kernel
theorem dn_M_declare_53 : decode bn_M_declare 53 = .ok (.getfield 263, 3) := by decide +kernel
theorem dn_M_declare_56 : decode bn_M_declare 56 = .ok (.iastore, 1) := by decide +kernel
theorem dn_M_declare_57 : decode bn_M_declare 57 = .ok (.aload_n 0, 1) := by decide +kernel
theorem dn_M_declare_58 : decode bn_M_declare 58 = .ok (.getfield 43, 3) := by decide +kernel
theorem dn_M_declare_61 : decode bn_M_declare 61 = .ok (.aload_n 0, 1) := by decide +kernel
theorem dn_M_declare_62 : decode bn_M_declare 62 = .ok (.getfield 339, 3) := by decide +kernel
theorem dn_M_declare_65 : decode bn_M_declare 65 = .ok (.iload_n 2, 1) := by decide +kernel
theorem dn_M_declare_66 : decode bn_M_declare 66 = .ok (.iastore, 1) := by decide +kernel
theorem dn_M_declare_67 : decode bn_M_declare 67 = .ok (.aload_n 0, 1) := by decide +kernel
theorem dn_M_declare_68 : decode bn_M_declare 68 = .ok (.getfield 46, 3) := by decide +kernel
theorem dn_M_declare_71 : decode bn_M_declare 71 = .ok (.aload_n 0, 1) := by decide +kernel
theorem dn_M_declare_72 : decode bn_M_declare 72 = .ok (.getfield 339, 3) := by decide +kernel
theorem dn_M_declare_75 : decode bn_M_declare 75 = .ok (.iload_n 1, 1) := by decide +kernel
theorem dn_M_declare_76 : decode bn_M_declare 76 = .ok (.iastore, 1) := by decide +kernel
theorem dn_M_declare_77 : decode bn_M_declare 77 = .ok (.aload_n 0, 1) := by decide +kernel
theorem dn_M_declare_78 : decode bn_M_declare 78 = .ok (.getfield 49, 3) := by decide +kernel
theorem dn_M_declare_81 : decode bn_M_declare 81 = .ok (.aload_n 0, 1) := by decide +kernel
theorem dn_M_declare_82 : decode bn_M_declare 82 = .ok (.getfield 339, 3) := by decide +kernel
theorem dn_M_declare_85 : decode bn_M_declare 85 = .ok (.lconst 0, 1) := by decide +kernel
theorem dn_M_declare_86 : decode bn_M_declare 86 = .ok (.lastore, 1) := by decide +kernel
theorem dn_M_declare_87 : decode bn_M_declare 87 = .ok (.aload_n 0, 1) := by decide +kernel
theorem dn_M_declare_88 : decode bn_M_declare 88 = .ok (.getfield 53, 3) := by decide +kernel
theorem dn_M_declare_91 : decode bn_M_declare 91 = .ok (.aload_n 0, 1) := by decide +kernel
theorem dn_M_declare_92 : decode bn_M_declare 92 = .ok (.getfield 339, 3) := by decide +kernel
theorem dn_M_declare_95 : decode bn_M_declare 95 = .ok (.iconst 0, 1) := by decide +kernel
theorem dn_M_declare_96 : decode bn_M_declare 96 = .ok (.iastore, 1) := by decide +kernel
theorem dn_M_declare_97 : decode bn_M_declare 97 = .ok (.aload_n 0, 1) := by decide +kernel
theorem dn_M_declare_98 : decode bn_M_declare 98 = .ok (.getfield 62, 3) := by decide +kernel
theorem dn_M_declare_101 : decode bn_M_declare 101 = .ok (.aload_n 0, 1) := by decide +kernel
theorem dn_M_declare_102 : decode bn_M_declare 102 = .ok (.getfield 339, 3) := by decide +kernel
theorem dn_M_declare_105 : decode bn_M_declare 105 = .ok (.iconst 0, 1) := by decide +kernel
theorem dn_M_declare_106 : decode bn_M_declare 106 = .ok (.iastore, 1) := by decide +kernel
theorem dn_M_declare_107 : decode bn_M_declare 107 = .ok (.aload_n 0, 1) := by decide +kernel
theorem dn_M_declare_108 : decode bn_M_declare 108 = .ok (.dup, 1) := by decide +kernel
theorem dn_M_declare_109 : decode bn_M_declare 109 = .ok (.getfield 339, 3) := by decide +kernel
theorem dn_M_declare_112 : decode bn_M_declare 112 = .ok (.iconst 1, 1) := by decide +kernel
theorem dn_M_declare_113 : decode bn_M_declare 113 = .ok (.iadd, 1) := by decide +kernel
theorem dn_M_declare_114 : decode bn_M_declare 114 = .ok (.putfield 339, 3) := by decide +kernel
theorem dn_M_declare_117 : decode bn_M_declare 117 = .ok (.aload_n 0, 1) := by decide +kernel
theorem dn_M_declare_118 : decode bn_M_declare 118 = .ok (.dup, 1) := by decide +kernel
theorem dn_M_declare_119 : decode bn_M_declare 119 = .ok (.getfield 263, 3) := by decide +kernel
theorem dn_M_declare_122 : decode bn_M_declare 122 = .ok (.iconst 1, 1) := by decide +kernel
theorem dn_M_declare_123 : decode bn_M_declare 123 = .ok (.iadd, 1) := by decide +kernel
theorem dn_M_declare_124 : decode bn_M_declare 124 = .ok (.putfield 263, 3) := by decide +kernel
theorem dn_M_declare_127 : decode bn_M_declare 127 = .ok (.aload_n 0, 1) := by decide +kernel
theorem dn_M_declare_128 : decode bn_M_declare 128 = .ok (.bipush 61, 2) := by decide +kernel
theorem dn_M_declare_130 : decode bn_M_declare 130 = .ok (.invokevirtual 273, 3) := by decide +kernel
theorem dn_M_declare_133 : decode bn_M_declare 133 = .ok (.ifCond .eq 69, 3) := by decide +kernel
theorem dn_M_declare_136 : decode bn_M_declare 136 = .ok (.aload_n 0, 1) := by decide +kernel
theorem dn_M_declare_137 : decode bn_M_declare 137 = .ok (.dup, 1) := by decide +kernel
theorem dn_M_declare_138 : decode bn_M_declare 138 = .ok (.getfield 263, 3) := by decide +kernel
theorem dn_M_declare_141 : decode bn_M_declare 141 = .ok (.iconst 1, 1) := by decide +kernel
theorem dn_M_declare_142 : decode bn_M_declare 142 = .ok (.iadd, 1) := by decide +kernel
theorem dn_M_declare_143 : decode bn_M_declare 143 = .ok (.putfield 263, 3) := by decide +kernel
theorem dn_M_declare_146 : decode bn_M_declare 146 = .ok (.aload_n 0, 1) := by decide +kernel
theorem dn_M_declare_147 : decode bn_M_declare 147 = .ok (.aload_n 0, 1) := by decide +kernel
theorem dn_M_declare_148 : decode bn_M_declare 148 = .ok (.getfield 263, 3) := by decide +kernel
theorem dn_M_declare_151 : decode bn_M_declare 151 = .ok (.invokevirtual 394, 3) := by decide +kernel
theorem dn_M_declare_154 : decode bn_M_declare 154 = .ok (.iload_n 2, 1) := by decide +kernel
theorem dn_M_declare_155 : decode bn_M_declare 155 = .ok (.if_icmp .eq 18, 3) := by decide +kernel
theorem dn_M_declare_158 : decode bn_M_declare 158 = .ok (.aload_n 0, 1) := by decide +kernel
theorem dn_M_declare_159 : decode bn_M_declare 159 = .ok (.bipush 30, 2) := by decide +kernel
theorem dn_M_declare_161 : decode bn_M_declare 161 = .ok (.aload_n 0, 1) := by decide +kernel
theorem dn_M_declare_162 : decode bn_M_declare 162 = .ok (.getfield 19, 3) := by decide +kernel
theorem dn_M_declare_165 : decode bn_M_declare 165 = .ok (.aload_n 0, 1) := by decide +kernel
theorem dn_M_declare_166 : decode bn_M_declare 166 = .ok (.getfield 263, 3) := by decide +kernel
theorem dn_M_declare_169 : decode bn_M_declare 169 = .ok (.iaload, 1) := by decide +kernel
theorem dn_M_declare_170 : decode bn_M_declare 170 = .ok (.invokevirtual 266, 3) := by decide +kernel
theorem dn_M_declare_173 : decode bn_M_declare 173 = .ok (.aload_n 0, 1) := by decide +kernel
theorem dn_M_declare_174 : decode bn_M_declare 174 = .ok (.getfield 49, 3) := by decide +kernel
theorem dn_M_declare_177 : decode bn_M_declare 177 = .ok (.aload_n 0, 1) := by decide +kernel
theorem dn_M_declare_178 : decode bn_M_declare 178 = .ok (.getfield 339, 3) := by decide +kernel
theorem dn_M_declare_181 : decode bn_M_declare 181 = .ok (.iconst 1, 1) := by decide +kernel
theorem dn_M_declare_182 : decode bn_M_declare 182 = .ok (.isub, 1) := by decide +kernel
theorem dn_M_declare_183 : decode bn_M_declare 183 = .ok (.aload_n 0, 1) := by decide +kernel
theorem dn_M_declare_184 : decode bn_M_declare 184 = .ok (.aload_n 0, 1) := by decide +kernel
theorem dn_M_declare_185 : decode bn_M_declare 185 = .ok (.getfield 263, 3) := by decide +kernel
theorem dn_M_declare_188 : decode bn_M_declare 188 = .ok (.invokevirtual 386, 3) := by decide +kernel
theorem dn_M_declare_191 : decode bn_M_declare 191 = .ok (.lastore, 1) := by decide +kernel
theorem dn_M_declare_192 : decode bn_M_declare 192 = .ok (.aload_n 0, 1) := by decide +kernel
theorem dn_M_declare_193 : decode bn_M_declare 193 = .ok (.dup, 1) := by decide +kernel
theorem dn_M_declare_194 : decode bn_M_declare 194 = .ok (.getfield 263, 3) := by decide +kernel
theorem dn_M_declare_197 : decode bn_M_declare 197 = .ok (.iconst 1, 1) := by decide +kernel
theorem dn_M_declare_198 : decode bn_M_declare 198 = .ok (.iadd, 1) := by decide +kernel
theorem dn_M_declare_199 : decode bn_M_declare 199 = .ok (.putfield 263, 3) := by decide +kernel
theorem dn_M_declare_202 : decode bn_M_declare 202 = .ok (.return_, 1) := by decide +kernel
theorem dn_M_dependsOnItself_0 : decode bn_M_dependsOnItself 0 = .ok (.iconst 0, 1) := by decide +kernel
theorem dn_M_dependsOnItself_1 : decode bn_M_dependsOnItself 1 = .ok (.istore_n 2, 1) := by decide +kernel
theorem dn_M_dependsOnItself_2 : decode bn_M_dependsOnItself 2 = .ok (.iload_n 2, 1) := by decide +kernel
theorem dn_M_dependsOnItself_3 : decode bn_M_dependsOnItself 3 = .ok (.aload_n 0, 1) := by decide +kernel
theorem dn_M_dependsOnItself_4 : decode bn_M_dependsOnItself 4 = .ok (.getfield 497, 3) := by decide +kernel
theorem dn_M_dependsOnItself_7 : decode bn_M_dependsOnItself 7 = .ok (.if_icmp .ge 16, 3) := by decide +kernel
theorem dn_M_dependsOnItself_10 : decode bn_M_dependsOnItself 10 = .ok (.aload_n 0, 1) := by decide +kernel
theorem dn_M_dependsOnItself_11 : decode bn_M_dependsOnItself 11 = .ok (.getfield 168, 3) := by decide +kernel
theorem dn_M_dependsOnItself_14 : decode bn_M_dependsOnItself 14 = .ok (.iload_n 2, 1) := by decide +kernel
theorem dn_M_dependsOnItself_15 : decode bn_M_dependsOnItself 15 = .ok (.iconst 0, 1) := by decide +kernel
theorem dn_M_dependsOnItself_16 : decode bn_M_dependsOnItself 16 = .ok (.bastore, 1) := by decide +kernel
theorem dn_M_dependsOnItself_17 : decode bn_M_dependsOnItself 17 = .ok (.iinc 2 1, 3) := by decide +kernel
theorem dn_M_dependsOnItself_20 : decode bn_M_dependsOnItself 20 = .ok (.goto (-18), 3) := by decide +kernel
theorem dn_M_dependsOnItself_23 : decode bn_M_dependsOnItself 23 = .ok (.iconst 1, 1) := by decide +kernel
theorem dn_M_dependsOnItself_24 : decode bn_M_dependsOnItself 24 = .ok (.istore_n 2, 1) := by decide +kernel
theorem dn_M_dependsOnItself_25 : decode bn_M_dependsOnItself 25 = .ok (.aload_n 0, 1) := by decide +kernel
theorem dn_M_dependsOnItself_26 : decode bn_M_dependsOnItself 26 = .ok (.getfield 171, 3) := by decide +kernel
theorem dn_M_dependsOnItself_29 : decode bn_M_dependsOnItself 29 = .ok (.iconst 0, 1) := by decide +kernel
theorem dn_M_dependsOnItself_30 : decode bn_M_dependsOnItself 30 = .ok (.iload_n 1, 1) := by decide +kernel
theorem dn_M_dependsOnItself_31 : decode bn_M_dependsOnItself 31 = .ok (.iastore, 1) := by decide +kernel
theorem dn_M_dependsOnItself_32 : decode bn_M_dependsOnItself 32 = .ok (.iconst 0, 1) := by decide +kernel
theorem dn_M_dependsOnItself_33 : decode bn_M_dependsOnItself 33 = .ok (.istore_n 3, 1) := by decide +kernel
theorem dn_M_dependsOnItself_34 : decode bn_M_dependsOnItself 34 = .ok (.iload_n 3, 1) := by decide +kernel
theorem dn_M_dependsOnItself_35 : decode bn_M_dependsOnItself 35 = .ok (.iload_n 2, 1) := by decide +kernel
theorem dn_M_dependsOnItself_36 : decode bn_M_dependsOnItself 36 = .ok (.if_icmp .ge 197, 3) := by decide +kernel
theorem dn_M_dependsOnItself_39 : decode bn_M_dependsOnItself 39 = .ok (.aload_n 0, 1) := by decide +kernel
theorem dn_M_dependsOnItself_40 : decode bn_M_dependsOnItself 40 = .ok (.getfield 171, 3) := by decide +kernel
theorem dn_M_dependsOnItself_43 : decode bn_M_dependsOnItself 43 = .ok (.iload_n 3, 1) := by decide +kernel
theorem dn_M_dependsOnItself_44 : decode bn_M_dependsOnItself 44 = .ok (.iaload, 1) := by decide +kernel
theorem dn_M_dependsOnItself_45 : decode bn_M_dependsOnItself 45 = .ok (.istore 4, 2) := by decide +kernel
theorem dn_M_dependsOnItself_47 : decode bn_M_dependsOnItself 47 = .ok (.aload_n 0, 1) := by decide +kernel
theorem dn_M_dependsOnItself_48 : decode bn_M_dependsOnItself 48 = .ok (.getfield 149, 3) := by decide +kernel
theorem dn_M_dependsOnItself_51 : decode bn_M_dependsOnItself 51 = .ok (.iload 4, 2) := by decide +kernel
theorem dn_M_dependsOnItself_53 : decode bn_M_dependsOnItself 53 = .ok (.iaload, 1) := by decide +kernel
theorem dn_M_dependsOnItself_54 : decode bn_M_dependsOnItself 54 = .ok (.iconst 1, 1) := by decide +kernel
theorem dn_M_dependsOnItself_55 : decode bn_M_dependsOnItself 55 = .ok (.if_icmp .ne 13, 3) := by decide +kernel
theorem dn_M_dependsOnItself_58 : decode bn_M_dependsOnItself 58 = .ok (.aload_n 0, 1) := by decide +kernel
theorem dn_M_dependsOnItself_59 : decode bn_M_dependsOnItself 59 = .ok (.getfield 152, 3) := by decide +kernel
theorem dn_M_dependsOnItself_62 : decode bn_M_dependsOnItself 62 = .ok (.iload 4, 2) := by decide +kernel
theorem dn_M_dependsOnItself_64 : decode bn_M_dependsOnItself 64 = .ok (.iaload, 1) := by decide +kernel
theorem dn_M_dependsOnItself_65 : decode bn_M_dependsOnItself 65 = .ok (.goto 4, 3) := by decide +kernel
theorem dn_M_dependsOnItself_68 : decode bn_M_dependsOnItself 68 = .ok (.iconst 0, 1) := by decide +kernel
theorem dn_M_dependsOnItself_69 : decode bn_M_dependsOnItself 69 = .ok (.istore 5, 2) := by decide +kernel
theorem dn_M_dependsOnItself_71 : decode bn_M_dependsOnItself 71 = .ok (.aload_n 0, 1) := by decide +kernel
theorem dn_M_dependsOnItself_72 : decode bn_M_dependsOnItself 72 = .ok (.getfield 149, 3) := by decide +kernel
theorem dn_M_dependsOnItself_75 : decode bn_M_dependsOnItself 75 = .ok (.iload 4, 2) := by decide +kernel
theorem dn_M_dependsOnItself_77 : decode bn_M_dependsOnItself 77 = .ok (.iaload, 1) := by decide +kernel
theorem dn_M_dependsOnItself_78 : decode bn_M_dependsOnItself 78 = .ok (.iconst 1, 1) := by decide +kernel
theorem dn_M_dependsOnItself_79 : decode bn_M_dependsOnItself 79 = .ok (.if_icmp .ne 13, 3) := by decide +kernel
theorem dn_M_dependsOnItself_82 : decode bn_M_dependsOnItself 82 = .ok (.aload_n 0, 1) := by decide +kernel
theorem dn_M_dependsOnItself_83 : decode bn_M_dependsOnItself 83 = .ok (.getfield 155, 3) := by decide +kernel
theorem dn_M_dependsOnItself_86 : decode bn_M_dependsOnItself 86 = .ok (.iload 4, 2) := by decide +kernel
theorem dn_M_dependsOnItself_88 : decode bn_M_dependsOnItself 88 = .ok (.iaload, 1) := by decide +kernel
theorem dn_M_dependsOnItself_89 : decode bn_M_dependsOnItself 89 = .ok (.goto 19, 3) := by decide +kernel
theorem dn_M_dependsOnItself_92 : decode bn_M_dependsOnItself 92 = .ok (.aload_n 0, 1) := by decide +kernel
theorem dn_M_dependsOnItself_93 : decode bn_M_dependsOnItself 93 = .ok (.getfield 149, 3) := by decide +kernel
theorem dn_M_dependsOnItself_96 : decode bn_M_dependsOnItself 96 = .ok (.iload 4, 2) := by decide +kernel
theorem dn_M_dependsOnItself_98 : decode bn_M_dependsOnItself 98 = .ok (.iaload, 1) := by decide +kernel
theorem dn_M_dependsOnItself_99 : decode bn_M_dependsOnItself 99 = .ok (.iconst 2, 1) := by decide +kernel
theorem dn_M_dependsOnItself_100 : decode bn_M_dependsOnItself 100 = .ok (.if_icmp .ne 7, 3) := by decide +kernel
theorem dn_M_dependsOnItself_103 : decode bn_M_dependsOnItself 103 = .ok (.iconst 3, 1) := by decide +kernel
theorem dn_M_dependsOnItself_104 : decode bn_M_dependsOnItself 104 = .ok (.goto 4, 3) := by decide +kernel
theorem dn_M_dependsOnItself_107 : decode bn_M_dependsOnItself 107 = .ok (.iconst 0, 1) := by decide +kernel
theorem dn_M_dependsOnItself_108 : decode bn_M_dependsOnItself 108 = .ok (.istore 6, 2) := by decide +kernel
theorem dn_M_dependsOnItself_110 : decode bn_M_dependsOnItself 110 = .ok (.iload 5, 2) := by decide +kernel
theorem dn_M_dependsOnItself_112 : decode bn_M_dependsOnItself 112 = .ok (.istore 7, 2) := by decide +kernel
theorem dn_M_dependsOnItself_114 : decode bn_M_dependsOnItself 114 = .ok (.iload 7, 2) := by decide +kernel
theorem dn_M_dependsOnItself_116 : decode bn_M_dependsOnItself 116 = .ok (.iload 6, 2) := by decide +kernel
theorem dn_M_dependsOnItself_118 : decode bn_M_dependsOnItself 118 = .ok (.if_icmp .ge 109, 3) := by decide +kernel
theorem dn_M_dependsOnItself_121 : decode bn_M_dependsOnItself 121 = .ok (.aload_n 0, 1) := by decide +kernel
theorem dn_M_dependsOnItself_122 : decode bn_M_dependsOnItself 122 = .ok (.getfield 149, 3) := by decide +kernel
theorem dn_M_dependsOnItself_125 : decode bn_M_dependsOnItself 125 = .ok (.iload 4, 2) := by decide +kernel
theorem dn_M_dependsOnItself_127 : decode bn_M_dependsOnItself 127 = .ok (.iaload, 1) := by decide +kernel
theorem dn_M_dependsOnItself_128 : decode bn_M_dependsOnItself 128 = .ok (.iconst 2, 1) := by decide +kernel
theorem dn_M_dependsOnItself_129 : decode bn_M_dependsOnItself 129 = .ok (.if_icmp .ne 13, 3) := by decide +kernel
theorem dn_M_dependsOnItself_132 : decode bn_M_dependsOnItself 132 = .ok (.aload_n 0, 1) := by decide +kernel
theorem dn_M_dependsOnItself_133 : decode bn_M_dependsOnItself 133 = .ok (.getfield 152, 3) := by decide +kernel
theorem dn_M_dependsOnItself_136 : decode bn_M_dependsOnItself 136 = .ok (.iload 4, 2) := by decide +kernel
theorem dn_M_dependsOnItself_138 : decode bn_M_dependsOnItself 138 = .ok (.iaload, 1) := by decide +kernel
theorem dn_M_dependsOnItself_139 : decode bn_M_dependsOnItself 139 = .ok (.goto 38, 3) := by decide +kernel
theorem dn_M_dependsOnItself_142 : decode bn_M_dependsOnItself 142 = .ok (.aload_n 0, 1) := by decide +kernel
theorem dn_M_dependsOnItself_143 : decode bn_M_dependsOnItself 143 = .ok (.getfield 95, 3) := by decide +kernel
theorem dn_M_dependsOnItself_146 : decode bn_M_dependsOnItself 146 = .ok (.iload 7, 2) := by decide +kernel
theorem dn_M_dependsOnItself_148 : decode bn_M_dependsOnItself 148 = .ok (.iaload, 1) := by decide +kernel
theorem dn_M_dependsOnItself_149 : decode bn_M_dependsOnItself 149 = .ok (.iconst 1, 1) := by decide +kernel
theorem dn_M_dependsOnItself_150 : decode bn_M_dependsOnItself 150 = .ok (.if_icmp .ne 26, 3) := by decide +kernel
theorem dn_M_dependsOnItself_153 : decode bn_M_dependsOnItself 153 = .ok (.aload_n 0, 1) := by decide +kernel
theorem dn_M_dependsOnItself_154 : decode bn_M_dependsOnItself 154 = .ok (.aload_n 0, 1) := by decide +kernel
theorem dn_M_dependsOnItself_155 : decode bn_M_dependsOnItself 155 = .ok (.getfield 158, 3) := by decide +kernel
theorem dn_M_dependsOnItself_158 : decode bn_M_dependsOnItself 158 = .ok (.iload 4, 2) := by decide +kernel
theorem dn_M_dependsOnItself_160 : decode bn_M_dependsOnItself 160 = .ok (.iaload, 1) := by decide +kernel
theorem dn_M_dependsOnItself_161 : decode bn_M_dependsOnItself 161 = .ok (.aload_n 0, 1) := by decide +kernel
theorem dn_M_dependsOnItself_162 : decode bn_M_dependsOnItself 162 = .ok (.getfield 95, 3) := by decide +kernel
theorem dn_M_dependsOnItself_165 : decode bn_M_dependsOnItself 165 = .ok (.iload 7, 2) := by decide +kernel
theorem dn_M_dependsOnItself_167 : decode bn_M_dependsOnItself 167 = .ok (.iconst 1, 1) := by decide +kernel
theorem dn_M_dependsOnItself_168 : decode bn_M_dependsOnItself 168 = .ok (.iadd, 1) := by decide +kernel
theorem dn_M_dependsOnItself_169 : decode bn_M_dependsOnItself 169 = .ok (.iaload, 1) := by decide +kernel
theorem dn_M_dependsOnItself_170 : decode bn_M_dependsOnItself 170 = .ok (.invokevirtual 506, 3) := by decide +kernel
theorem dn_M_dependsOnItself_173 : decode bn_M_dependsOnItself 173 = .ok (.goto 4, 3) := by decide +kernel
theorem dn_M_dependsOnItself_176 : decode bn_M_dependsOnItself 176 = .ok (.iconst (-1), 1) := by decide +kernel
theorem dn_M_dependsOnItself_177 : decode bn_M_dependsOnItself 177 = .ok (.istore 8, 2) := by decide +kernel
theorem dn_M_dependsOnItself_179 : decode bn_M_dependsOnItself 179 = .ok (.iload 8, 2) := by decide +kernel
theorem dn_M_dependsOnItself_181 : decode bn_M_dependsOnItself 181 = .ok (.iload_n 1, 1) := by decide +kernel
theorem dn_M_dependsOnItself_182 : decode bn_M_dependsOnItself 182 = .ok (.if_icmp .ne 5, 3) := by decide +kernel
theorem dn_M_dependsOnItself_185 : decode bn_M_dependsOnItself 185 = .ok (.iconst 1, 1) := by decide +kernel
theorem dn_M_dependsOnItself_186 : decode bn_M_dependsOnItself 186 = .ok (.ireturn, 1) := by decide +kernel
theorem dn_M_dependsOnItself_187 : decode bn_M_dependsOnItself 187 = .ok (.iload 8, 2) := by decide +kernel
theorem dn_M_dependsOnItself_189 : decode bn_M_dependsOnItself 189 = .ok (.ifCond .lt 32, 3) := by decide +kernel
theorem dn_M_dependsOnItself_192 : decode bn_M_dependsOnItself 192 = .ok (.aload_n 0, 1) := by decide +kernel
theorem dn_M_dependsOnItself_193 : decode bn_M_dependsOnItself 193 = .ok (.getfield 168, 3) := by decide +kernel
theorem dn_M_dependsOnItself_196 : decode bn_M_dependsOnItself 196 = .ok (.iload 8, 2) := by decide +kernel
theorem dn_M_dependsOnItself_198 : decode bn_M_dependsOnItself 198 = .ok (.baload, 1) := by decide +kernel
theorem dn_M_dependsOnItself_199 : decode bn_M_dependsOnItself 199 = .ok (.ifCond .ne 22, 3) := by decide +kernel
theorem dn_M_dependsOnItself_202 : decode bn_M_dependsOnItself 202 = .ok (.aload_n 0, 1) := by decide +kernel
theorem dn_M_dependsOnItself_203 : decode bn_M_dependsOnItself 203 = .ok (.getfield 168, 3) := by decide +kernel
theorem dn_M_dependsOnItself_206 : decode bn_M_dependsOnItself 206 = .ok (.iload 8, 2) := by decide +kernel
theorem dn_M_dependsOnItself_208 : decode bn_M_dependsOnItself 208 = .ok (.iconst 1, 1) := by decide +kernel
theorem dn_M_dependsOnItself_209 : decode bn_M_dependsOnItself 209 = .ok (.bastore, 1) := by decide +kernel
theorem dn_M_dependsOnItself_210 : decode bn_M_dependsOnItself 210 = .ok (.aload_n 0, 1) := by decide +kernel
theorem dn_M_dependsOnItself_211 : decode bn_M_dependsOnItself 211 = .ok (.getfield 171, 3) := by decide +kernel
theorem dn_M_dependsOnItself_214 : decode bn_M_dependsOnItself 214 = .ok (.iload_n 2, 1) := by decide +kernel
theorem dn_M_dependsOnItself_215 : decode bn_M_dependsOnItself 215 = .ok (.iload 8, 2) := by decide +kernel
theorem dn_M_dependsOnItself_217 : decode bn_M_dependsOnItself 217 = .ok (.iastore, 1) := by decide +kernel
theorem dn_M_dependsOnItself_218 : decode bn_M_dependsOnItself 218 = .ok (.iinc 2 1, 3) := by decide +kernel
theorem dn_M_dependsOnItself_221 : decode bn_M_dependsOnItself 221 = .ok (.iinc 7 3, 3) := by decide +kernel
theorem dn_M_dependsOnItself_224 : decode bn_M_dependsOnItself 224 = .ok (.goto (-110), 3) := by decide +kernel
theorem dn_M_dependsOnItself_227 : decode bn_M_dependsOnItself 227 = .ok (.iinc 3 1, 3) := by decide +kernel
theorem dn_M_dependsOnItself_230 : decode bn_M_dependsOnItself 230 = .ok (.goto (-196), 3) := by decide +kernel
theorem dn_M_dependsOnItself_233 : decode bn_M_dependsOnItself 233 = .ok (.iconst 0, 1) := by decide +kernel
theorem dn_M_dependsOnItself_234 : decode bn_M_dependsOnItself 234 = .ok (.ireturn, 1) := by decide +kernel
theorem dn_M_design_0 : decode bn_M_design 0 = .ok (.aload_n 0, 1) := by decide +kernel
theorem dn_M_design_1 : decode bn_M_design 1 = .ok (.iconst 0, 1) := by decide +kernel
theorem dn_M_design_2 : decode bn_M_design 2 = .ok (.putfield 263, 3) := by decide +kernel
theorem dn_M_design_5 : decode bn_M_design 5 = .ok (.aload_n 0, 1) := by decide +kernel
theorem dn_M_design_6 : decode bn_M_design 6 = .ok (.iconst 0, 1) := by decide +kernel
theorem dn_M_design_7 : decode bn_M_design 7 = .ok (.putfield 336, 3) := by decide +kernel
theorem dn_M_design_10 : decode bn_M_design 10 = .ok (.aload_n 0, 1) := by decide +kernel
theorem dn_M_design_11 : decode bn_M_design 11 = .ok (.iconst 0, 1) := by decide +kernel
theorem dn_M_design_12 : decode bn_M_design 12 = .ok (.putfield 339, 3) := by decide +kernel
theorem dn_M_design_15 : decode bn_M_design 15 = .ok (.aload_n 0, 1) := by decide +kernel
theorem dn_M_design_16 : decode bn_M_design 16 = .ok (.iconst 0, 1) := by decide +kernel
theorem dn_M_design_17 : decode bn_M_design 17 = .ok (.putfield 346, 3) := by decide +kernel
theorem dn_M_design_20 : decode bn_M_design 20 = .ok (.aload_n 0, 1) := by decide +kernel
theorem dn_M_design_21 : decode bn_M_design 21 = .ok (.iconst 0, 1) := by decide +kernel
theorem dn_M_design_22 : decode bn_M_design 22 = .ok (.putfield 441, 3) := by decide +kernel
theorem dn_M_design_25 : decode bn_M_design 25 = .ok (.aload_n 0, 1) := by decide +kernel
theorem dn_M_design_26 : decode bn_M_design 26 = .ok (.iconst 0, 1) := by decide +kernel
theorem dn_M_design_27 : decode bn_M_design 27 = .ok (.putfield 453, 3) := by decide +kernel
theorem dn_M_design_30 : decode bn_M_design 30 = .ok (.aload_n 0, 1) := by decide +kernel
theorem dn_M_design_31 : decode bn_M_design 31 = .ok (.iconst 0, 1) := by decide +kernel
theorem dn_M_design_32 : decode bn_M_design 32 = .ok (.putfield 435, 3) := by decide +kernel
theorem dn_M_design_35 : decode bn_M_design 35 = .ok (.aload_n 0, 1) := by decide +kernel
theorem dn_M_design_36 : decode bn_M_design 36 = .ok (.iconst 0, 1) := by decide +kernel
theorem dn_M_design_37 : decode bn_M_design 37 = .ok (.putfield 349, 3) := by decide +kernel
theorem dn_M_design_40 : decode bn_M_design 40 = .ok (.aload_n 0, 1) := by decide +kernel
theorem dn_M_design_41 : decode bn_M_design 41 = .ok (.iconst 0, 1) := by decide +kernel
theorem dn_M_design_42 : decode bn_M_design 42 = .ok (.putfield 352, 3) := by decide +kernel
theorem dn_M_design_45 : decode bn_M_design 45 = .ok (.aload_n 0, 1) := by decide +kernel
theorem dn_M_design_46 : decode bn_M_design 46 = .ok (.iconst 0, 1) := by decide +kernel
theorem dn_M_design_47 : decode bn_M_design 47 = .ok (.putfield 368, 3) := by decide +kernel
theorem dn_M_design_50 : decode bn_M_design 50 = .ok (.aload_n 0, 1) := by decide +kernel
theorem dn_M_design_51 : decode bn_M_design 51 = .ok (.iconst 0, 1) := by decide +kernel
theorem dn_M_design_52 : decode bn_M_design 52 = .ok (.putfield 380, 3) := by decide +kernel
theorem dn_M_design_55 : decode bn_M_design 55 = .ok (.aload_n 0, 1) := by decide +kernel
theorem dn_M_design_56 : decode bn_M_design 56 = .ok (.getfield 71, 3) := by decide +kernel
theorem dn_M_design_59 : decode bn_M_design 59 = .ok (.iconst 0, 1) := by decide +kernel
theorem dn_M_design_60 : decode bn_M_design 60 = .ok (.iconst 0, 1) := by decide +kernel
theorem dn_M_design_61 : decode bn_M_design 61 = .ok (.iastore, 1) := by decide +kernel
theorem dn_M_design_62 : decode bn_M_design 62 = .ok (.aload_n 0, 1) := by decide +kernel
theorem dn_M_design_63 : decode bn_M_design 63 = .ok (.getfield 257, 3) := by decide +kernel
theorem dn_M_design_66 : decode bn_M_design 66 = .ok (.ifCond .ne 20, 3) := by decide +kernel
theorem dn_M_design_69 : decode bn_M_design 69 = .ok (.aload_n 0, 1) := by decide +kernel
theorem dn_M_design_70 : decode bn_M_design 70 = .ok (.invokevirtual 286, 3) := by decide +kernel
theorem dn_M_design_73 : decode bn_M_design 73 = .ok (.sipush 403, 3) := by decide +kernel
theorem dn_M_design_76 : decode bn_M_design 76 = .ok (.if_icmp .eq 10, 3) := by decide +kernel
theorem dn_M_design_79 : decode bn_M_design 79 = .ok (.aload_n 0, 1) := by decide +kernel
theorem dn_M_design_80 : decode bn_M_design 80 = .ok (.invokevirtual 471, 3) := by decide +kernel
theorem dn_M_design_83 : decode bn_M_design 83 = .ok (.goto (-21), 3) := by decide +kernel
theorem dn_M_design_86 : decode bn_M_design 86 = .ok (.return_, 1) := by decide +kernel
theorem dn_M_designGrammar_0 : decode bn_M_designGrammar 0 = .ok (.aload_n 0, 1) := by decide +kernel
theorem dn_M_designGrammar_1 : decode bn_M_designGrammar 1 = .ok (.iconst 0, 1) := by decide +kernel
theorem dn_M_designGrammar_2 : decode bn_M_designGrammar 2 = .ok (.putfield 263, 3) := by decide +kernel
theorem dn_M_designGrammar_5 : decode bn_M_designGrammar 5 = .ok (.aload_n 0, 1) := by decide +kernel
theorem dn_M_designGrammar_6 : decode bn_M_designGrammar 6 = .ok (.iconst 0, 1) := by decide +kernel
theorem dn_M_designGrammar_7 : decode bn_M_designGrammar 7 = .ok (.putfield 276, 3) := by decide +kernel
theorem dn_M_designGrammar_10 : decode bn_M_designGrammar 10 = .ok (.iconst 1, 1) := by decide +kernel
theorem dn_M_designGrammar_11 : decode bn_M_designGrammar 11 = .ok (.istore_n 1, 1) := by decide +kernel
theorem dn_M_designGrammar_12 : decode bn_M_designGrammar 12 = .ok (.iload_n 1, 1) := by decide +kernel
theorem dn_M_designGrammar_13 : decode bn_M_designGrammar 13 = .ok (.ifCond .eq 149, 3) := by decide +kernel
theorem dn_M_designGrammar_16 : decode bn_M_designGrammar 16 = .ok (.aload_n 0, 1) := by decide +kernel
theorem dn_M_designGrammar_17 : decode bn_M_designGrammar 17 = .ok (.getfield 257, 3) := by decide +kernel
theorem dn_M_designGrammar_20 : decode bn_M_designGrammar 20 = .ok (.ifCond .ne 142, 3) := by decide +kernel
theorem dn_M_designGrammar_23 : decode bn_M_designGrammar 23 = .ok (.aload_n 0, 1) := by decide +kernel
theorem dn_M_designGrammar_24 : decode bn_M_designGrammar 24 = .ok (.sipush 300, 3) := by decide +kernel
theorem dn_M_designGrammar_27 : decode bn_M_designGrammar 27 = .ok (.invokevirtual 279, 3) := by decide +kernel
theorem dn_M_designGrammar_30 : decode bn_M_designGrammar 30 = .ok (.aload_n 0, 1) := by decide +kernel
theorem dn_M_designGrammar_31 : decode bn_M_designGrammar 31 = .ok (.sipush 400, 3) := by decide +kernel
theorem dn_M_designGrammar_34 : decode bn_M_designGrammar 34 = .ok (.invokevirtual 279, 3) := by decide +kernel
theorem dn_M_designGrammar_37 : decode bn_M_designGrammar 37 = .ok (.aload_n 0, 1) := by decide +kernel
theorem dn_M_designGrammar_38 : decode bn_M_designGrammar 38 = .ok (.bipush 40, 2) := by decide +kernel
theorem dn_M_designGrammar_40 : decode bn_M_designGrammar 40 = .ok (.invokevirtual 293, 3) := by decide +kernel
theorem dn_M_designGrammar_43 : decode bn_M_designGrammar 43 = .ok (.aload_n 0, 1) := by decide +kernel
theorem dn_M_designGrammar_44 : decode bn_M_designGrammar 44 = .ok (.sipush 302, 3) := by decide +kernel
theorem dn_M_designGrammar_47 : decode bn_M_designGrammar 47 = .ok (.invokevirtual 273, 3) := by decide +kernel
theorem dn_M_designGrammar_50 : decode bn_M_designGrammar 50 = .ok (.ifCond .ne 13, 3) := by decide +kernel
theorem dn_M_designGrammar_53 : decode bn_M_designGrammar 53 = .ok (.aload_n 0, 1) := by decide +kernel
theorem dn_M_designGrammar_54 : decode bn_M_designGrammar 54 = .ok (.sipush 303, 3) := by decide +kernel
theorem dn_M_designGrammar_57 : decode bn_M_designGrammar 57 = .ok (.invokevirtual 273, 3) := by decide +kernel
theorem dn_M_designGrammar_60 : decode bn_M_designGrammar 60 = .ok (.ifCond .eq 33, 3) := by decide +kernel
theorem dn_M_designGrammar_63 : decode bn_M_designGrammar 63 = .ok (.aload_n 0, 1) := by decide +kernel
theorem dn_M_designGrammar_64 : decode bn_M_designGrammar 64 = .ok (.invokevirtual 326, 3) := by decide +kernel
theorem dn_M_designGrammar_67 : decode bn_M_designGrammar 67 = .ok (.aload_n 0, 1) := by decide +kernel
theorem dn_M_designGrammar_68 : decode bn_M_designGrammar 68 = .ok (.bipush 44, 2) := by decide +kernel
theorem dn_M_designGrammar_70 : decode bn_M_designGrammar 70 = .ok (.invokevirtual 273, 3) := by decide +kernel
theorem dn_M_designGrammar_73 : decode bn_M_designGrammar 73 = .ok (.ifCond .eq 20, 3) := by decide +kernel
theorem dn_M_designGrammar_76 : decode bn_M_designGrammar 76 = .ok (.aload_n 0, 1) := by decide +kernel
theorem dn_M_designGrammar_77 : decode bn_M_designGrammar 77 = .ok (.dup, 1) := by decide +kernel
theorem dn_M_designGrammar_78 : decode bn_M_designGrammar 78 = .ok (.getfield 263, 3) := by decide +kernel
theorem dn_M_designGrammar_81 : decode bn_M_designGrammar 81 = .ok (.iconst 1, 1) := by decide +kernel
theorem dn_M_designGrammar_82 : decode bn_M_designGrammar 82 = .ok (.iadd, 1) := by decide +kernel
theorem dn_M_designGrammar_83 : decode bn_M_designGrammar 83 = .ok (.putfield 263, 3) := by decide +kernel
theorem dn_M_designGrammar_86 : decode bn_M_designGrammar 86 = .ok (.aload_n 0, 1) := by decide +kernel
theorem dn_M_designGrammar_87 : decode bn_M_designGrammar 87 = .ok (.invokevirtual 326, 3) := by decide +kernel
theorem dn_M_designGrammar_90 : decode bn_M_designGrammar 90 = .ok (.goto (-23), 3) := by decide +kernel
theorem dn_M_designGrammar_93 : decode bn_M_designGrammar 93 = .ok (.aload_n 0, 1) := by decide +kernel
theorem dn_M_designGrammar_94 : decode bn_M_designGrammar 94 = .ok (.bipush 41, 2) := by decide +kernel
theorem dn_M_designGrammar_96 : decode bn_M_designGrammar 96 = .ok (.invokevirtual 305, 3) := by decide +kernel
theorem dn_M_designGrammar_99 : decode bn_M_designGrammar 99 = .ok (.aload_n 0, 1) := by decide +kernel
theorem dn_M_designGrammar_100 : decode bn_M_designGrammar 100 = .ok (.bipush 59, 2) := by decide +kernel
theorem dn_M_designGrammar_102 : decode bn_M_designGrammar 102 = .ok (.invokevirtual 279, 3) := by decide +kernel
theorem dn_M_designGrammar_105 : decode bn_M_designGrammar 105 = .ok (.aload_n 0, 1) := by decide +kernel
theorem dn_M_designGrammar_106 : decode bn_M_designGrammar 106 = .ok (.getfield 257, 3) := by decide +kernel
theorem dn_M_designGrammar_109 : decode bn_M_designGrammar 109 = .ok (.ifCond .ne 20, 3) := by decide +kernel
theorem dn_M_designGrammar_112 : decode bn_M_designGrammar 112 = .ok (.aload_n 0, 1) := by decide +kernel
theorem dn_M_designGrammar_113 : decode bn_M_designGrammar 113 = .ok (.invokevirtual 286, 3) := by decide +kernel
theorem dn_M_designGrammar_116 : decode bn_M_designGrammar 116 = .ok (.sipush 301, 3) := by decide +kernel
theorem dn_M_designGrammar_119 : decode bn_M_designGrammar 119 = .ok (.if_icmp .eq 10, 3) := by decide +kernel
theorem dn_M_designGrammar_122 : decode bn_M_designGrammar 122 = .ok (.aload_n 0, 1) := by decide +kernel
theorem dn_M_designGrammar_123 : decode bn_M_designGrammar 123 = .ok (.invokevirtual 329, 3) := by decide +kernel
theorem dn_M_designGrammar_126 : decode bn_M_designGrammar 126 = .ok (.goto (-21), 3) := by decide +kernel
theorem dn_M_designGrammar_129 : decode bn_M_designGrammar 129 = .ok (.aload_n 0, 1) := by decide +kernel
theorem dn_M_designGrammar_130 : decode bn_M_designGrammar 130 = .ok (.sipush 301, 3) := by decide +kernel
theorem dn_M_designGrammar_133 : decode bn_M_designGrammar 133 = .ok (.invokevirtual 279, 3) := by decide +kernel
theorem dn_M_designGrammar_136 : decode bn_M_designGrammar 136 = .ok (.aload_n 0, 1) := by decide +kernel
theorem dn_M_designGrammar_137 : decode bn_M_designGrammar 137 = .ok (.getfield 257, 3) := by decide +kernel
theorem dn_M_designGrammar_140 : decode bn_M_designGrammar 140 = .ok (.ifCond .ne 17, 3) := by decide +kernel
theorem dn_M_designGrammar_143 : decode bn_M_designGrammar 143 = .ok (.aload_n 0, 1) := by decide +kernel
theorem dn_M_designGrammar_144 : decode bn_M_designGrammar 144 = .ok (.invokevirtual 286, 3) := by decide +kernel
theorem dn_M_designGrammar_147 : decode bn_M_designGrammar 147 = .ok (.sipush 403, 3) := by decide +kernel
theorem dn_M_designGrammar_150 : decode bn_M_designGrammar 150 = .ok (.if_icmp .eq 7, 3) := by decide +kernel
theorem dn_M_designGrammar_153 : decode bn_M_designGrammar 153 = .ok (.iconst 1, 1) := by decide +kernel
theorem dn_M_designGrammar_154 : decode bn_M_designGrammar 154 = .ok (.goto 4, 3) := by decide +kernel
theorem dn_M_designGrammar_157 : decode bn_M_designGrammar 157 = .ok (.iconst 0, 1) := by decide +kernel
theorem dn_M_designGrammar_158 : decode bn_M_designGrammar 158 = .ok (.istore_n 1, 1) := by decide +kernel
theorem dn_M_designGrammar_159 : decode bn_M_designGrammar 159 = .ok (.goto (-147), 3) := by decide +kernel
theorem dn_M_designGrammar_162 : decode bn_M_designGrammar 162 = .ok (.return_, 1) := by decide +kernel
theorem dn_M_digit_0 : decode bn_M_digit 0 = .ok (.iload_n 0, 1) := by decide +kernel
theorem dn_M_digit_1 : decode bn_M_digit 1 = .ok (.invokestatic 203, 3) := by decide +kernel
theorem dn_M_digit_4 : decode bn_M_digit 4 = .ok (.ifCond .eq 10, 3) := by decide +kernel
theorem dn_M_digit_7 : decode bn_M_digit 7 = .ok (.iload_n 0, 1) := by decide +kernel
theorem dn_M_digit_8 : decode bn_M_digit 8 = .ok (.bipush 48, 2) := by decide +kernel
theorem dn_M_digit_10 : decode bn_M_digit 10 = .ok (.isub, 1) := by decide +kernel
theorem dn_M_digit_11 : decode bn_M_digit 11 = .ok (.goto 49, 3) := by decide +kernel
theorem dn_M_digit_14 : decode bn_M_digit 14 = .ok (.iload_n 0, 1) := by decide +kernel
theorem dn_M_digit_15 : decode bn_M_digit 15 = .ok (.bipush 97, 2) := by decide +kernel
theorem dn_M_digit_17 : decode bn_M_digit 17 = .ok (.if_icmp .lt 19, 3) := by decide +kernel
theorem dn_M_digit_20 : decode bn_M_digit 20 = .ok (.iload_n 0, 1) := by decide +kernel
theorem dn_M_digit_21 : decode bn_M_digit 21 = .ok (.bipush 102, 2) := by decide +kernel
theorem dn_M_digit_23 : decode bn_M_digit 23 = .ok (.if_icmp .gt 13, 3) := by decide +kernel
theorem dn_M_digit_26 : decode bn_M_digit 26 = .ok (.iload_n 0, 1) := by decide +kernel
theorem dn_M_digit_27 : decode bn_M_digit 27 = .ok (.bipush 97, 2) := by decide +kernel
theorem dn_M_digit_29 : decode bn_M_digit 29 = .ok (.isub, 1) := by decide +kernel
theorem dn_M_digit_30 : decode bn_M_digit 30 = .ok (.bipush 10, 2) := by decide +kernel
theorem dn_M_digit_32 : decode bn_M_digit 32 = .ok (.iadd, 1) := by decide +kernel
theorem dn_M_digit_33 : decode bn_M_digit 33 = .ok (.goto 27, 3) := by decide +kernel
theorem dn_M_digit_36 : decode bn_M_digit 36 = .ok (.iload_n 0, 1) := by decide +kernel
theorem dn_M_digit_37 : decode bn_M_digit 37 = .ok (.bipush 65, 2) := by decide +kernel
theorem dn_M_digit_39 : decode bn_M_digit 39 = .ok (.if_icmp .lt 19, 3) := by decide +kernel
theorem dn_M_digit_42 : decode bn_M_digit 42 = .ok (.iload_n 0, 1) := by decide +kernel
theorem dn_M_digit_43 : decode bn_M_digit 43 = .ok (.bipush 70, 2) := by decide +kernel
theorem dn_M_digit_45 : decode bn_M_digit 45 = .ok (.if_icmp .gt 13, 3) := by decide +kernel
theorem dn_M_digit_48 : decode bn_M_digit 48 = .ok (.iload_n 0, 1) := by decide +kernel
theorem dn_M_digit_49 : decode bn_M_digit 49 = .ok (.bipush 65, 2) := by decide +kernel
theorem dn_M_digit_51 : decode bn_M_digit 51 = .ok (.isub, 1) := by decide +kernel
theorem dn_M_digit_52 : decode bn_M_digit 52 = .ok (.bipush 10, 2) := by decide +kernel
theorem dn_M_digit_54 : decode bn_M_digit 54 = .ok (.iadd, 1) := by decide +kernel
theorem dn_M_digit_55 : decode bn_M_digit 55 = .ok (.goto 5, 3) := by decide +kernel
theorem dn_M_digit_58 : decode bn_M_digit 58 = .ok (.bipush 99, 2) := by decide +kernel
theorem dn_M_digit_60 : decode bn_M_digit 60 = .ok (.ireturn, 1) := by decide +kernel
theorem dn_M_end_0 : decode bn_M_end 0 = .ok (.aload_n 0, 1) := by decide +kernel
theorem dn_M_end_1 : decode bn_M_end 1 = .ok (.iload_n 1, 1) := by decide +kernel
theorem dn_M_end_2 : decode bn_M_end 2 = .ok (.ifCond .lt 11, 3) := by decide +kernel
theorem dn_M_end_5 : decode bn_M_end 5 = .ok (.iload_n 1, 1) := by decide +kernel
theorem dn_M_end_6 : decode bn_M_end 6 = .ok (.aload_n 0, 1) := by decide +kernel
theorem dn_M_end_7 : decode bn_M_end 7 = .ok (.getfield 536, 3) := by decide +kernel
theorem dn_M_end_10 : decode bn_M_end 10 = .ok (.if_icmp .le 7, 3) := by decide +kernel
theorem dn_M_end_13 : decode bn_M_end 13 = .ok (.iconst 1, 1) := by decide +kernel
theorem dn_M_end_14 : decode bn_M_end 14 = .ok (.goto 4, 3) := by decide +kernel
theorem dn_M_end_17 : decode bn_M_end 17 = .ok (.iconst 0, 1) := by decide +kernel
theorem dn_M_end_18 : decode bn_M_end 18 = .ok (.putfield 192, 3) := by decide +kernel
theorem dn_M_end_21 : decode bn_M_end 21 = .ok (.aload_n 0, 1) := by decide +kernel
theorem dn_M_end_22 : decode bn_M_end 22 = .ok (.aload_n 0, 1) := by decide +kernel
theorem dn_M_end_23 : decode bn_M_end 23 = .ok (.getfield 192, 3) := by decide +kernel
theorem dn_M_end_26 : decode bn_M_end 26 = .ok (.ifCond .le 10, 3) := by decide +kernel
theorem dn_M_end_29 : decode bn_M_end 29 = .ok (.aload_n 0, 1) := by decide +kernel
theorem dn_M_end_30 : decode bn_M_end 30 = .ok (.getfield 536, 3) := by decide +kernel
theorem dn_M_end_33 : decode bn_M_end 33 = .ok (.goto 4, 3) := by decide +kernel
theorem dn_M_end_36 : decode bn_M_end 36 = .ok (.iload_n 1, 1) := by decide +kernel
theorem dn_M_end_37 : decode bn_M_end 37 = .ok (.putfield 536, 3) := by decide +kernel
theorem dn_M_end_40 : decode bn_M_end 40 = .ok (.return_, 1) := by decide +kernel
theorem dn_M_exp_0 : decode bn_M_exp 0 = .ok (.aload_n 0, 1) := by decide +kernel
theorem dn_M_exp_1 : decode bn_M_exp 1 = .ok (.invokevirtual 355, 3) := by decide +kernel
theorem dn_M_exp_4 : decode bn_M_exp 4 = .ok (.istore_n 1, 1) := by decide +kernel
theorem dn_M_exp_5 : decode bn_M_exp 5 = .ok (.aload_n 0, 1) := by decide +kernel
theorem dn_M_exp_6 : decode bn_M_exp 6 = .ok (.bipush 63, 2) := by decide +kernel
theorem dn_M_exp_8 : decode bn_M_exp 8 = .ok (.invokevirtual 273, 3) := by decide +kernel
theorem dn_M_exp_11 : decode bn_M_exp 11 = .ok (.ifCond .ne 5, 3) := by decide +kernel
theorem dn_M_exp_14 : decode bn_M_exp 14 = .ok (.iload_n 1, 1) := by decide +kernel
theorem dn_M_exp_15 : decode bn_M_exp 15 = .ok (.ireturn, 1) := by decide +kernel
theorem dn_M_exp_16 : decode bn_M_exp 16 = .ok (.aload_n 0, 1) := by decide +kernel
theorem dn_M_exp_17 : decode bn_M_exp 17 = .ok (.getfield 19, 3) := by decide +kernel
theorem dn_M_exp_20 : decode bn_M_exp 20 = .ok (.aload_n 0, 1) := by decide +kernel
theorem dn_M_exp_21 : decode bn_M_exp 21 = .ok (.getfield 263, 3) := by decide +kernel
theorem dn_M_exp_24 : decode bn_M_exp 24 = .ok (.iaload, 1) := by decide +kernel
theorem dn_M_exp_25 : decode bn_M_exp 25 = .ok (.istore_n 2, 1) := by decide +kernel
theorem dn_M_exp_26 : decode bn_M_exp 26 = .ok (.aload_n 0, 1) := by decide +kernel
theorem dn_M_exp_27 : decode bn_M_exp 27 = .ok (.dup, 1) := by decide +kernel
theorem dn_M_exp_28 : decode bn_M_exp 28 = .ok (.getfield 263, 3) := by decide +kernel
theorem dn_M_exp_31 : decode bn_M_exp 31 = .ok (.iconst 1, 1) := by decide +kernel
theorem dn_M_exp_32 : decode bn_M_exp 32 = .ok (.iadd, 1) := by decide +kernel
theorem dn_M_exp_33 : decode bn_M_exp 33 = .ok (.putfield 263, 3) := by decide +kernel
theorem dn_M_exp_36 : decode bn_M_exp 36 = .ok (.aload_n 0, 1) := by decide +kernel
theorem dn_M_exp_37 : decode bn_M_exp 37 = .ok (.invokevirtual 358, 3) := by decide +kernel
theorem dn_M_exp_40 : decode bn_M_exp 40 = .ok (.istore_n 3, 1) := by decide +kernel
theorem dn_M_exp_41 : decode bn_M_exp 41 = .ok (.aload_n 0, 1) := by decide +kernel
theorem dn_M_exp_42 : decode bn_M_exp 42 = .ok (.dup, 1) := by decide +kernel
theorem dn_M_exp_43 : decode bn_M_exp 43 = .ok (.getfield 263, 3) := by decide +kernel
theorem dn_M_exp_46 : decode bn_M_exp 46 = .ok (.iconst 1, 1) := by decide +kernel
theorem dn_M_exp_47 : decode bn_M_exp 47 = .ok (.iadd, 1) := by decide +kernel
theorem dn_M_exp_48 : decode bn_M_exp 48 = .ok (.putfield 263, 3) := by decide +kernel
theorem dn_M_exp_51 : decode bn_M_exp 51 = .ok (.aload_n 0, 1) := by decide +kernel
theorem dn_M_exp_52 : decode bn_M_exp 52 = .ok (.invokevirtual 358, 3) := by decide +kernel
theorem dn_M_exp_55 : decode bn_M_exp 55 = .ok (.istore 4, 2) := by decide +kernel
theorem dn_M_exp_57 : decode bn_M_exp 57 = .ok (.aload_n 0, 1) := by decide +kernel
theorem dn_M_exp_58 : decode bn_M_exp 58 = .ok (.getfield 257, 3) := by decide +kernel
theorem dn_M_exp_61 : decode bn_M_exp 61 = .ok (.ifCond .ne 16, 3) := by decide +kernel
theorem dn_M_exp_64 : decode bn_M_exp 64 = .ok (.iload_n 3, 1) := by decide +kernel
theorem dn_M_exp_65 : decode bn_M_exp 65 = .ok (.iload 4, 2) := by decide +kernel
theorem dn_M_exp_67 : decode bn_M_exp 67 = .ok (.if_icmp .eq 10, 3) := by decide +kernel
theorem dn_M_exp_70 : decode bn_M_exp 70 = .ok (.aload_n 0, 1) := by decide +kernel
theorem dn_M_exp_71 : decode bn_M_exp 71 = .ok (.bipush 30, 2) := by decide +kernel
theorem dn_M_exp_73 : decode bn_M_exp 73 = .ok (.iload_n 2, 1) := by decide +kernel
theorem dn_M_exp_74 : decode bn_M_exp 74 = .ok (.invokevirtual 266, 3) := by decide +kernel
theorem dn_M_exp_77 : decode bn_M_exp 77 = .ok (.aload_n 0, 1) := by decide +kernel
theorem dn_M_exp_78 : decode bn_M_exp 78 = .ok (.iload_n 3, 1) := by decide +kernel
theorem dn_M_exp_79 : decode bn_M_exp 79 = .ok (.iload_n 1, 1) := by decide +kernel
theorem dn_M_exp_80 : decode bn_M_exp 80 = .ok (.if_icmp .le 8, 3) := by decide +kernel
theorem dn_M_exp_83 : decode bn_M_exp 83 = .ok (.iload_n 3, 1) := by decide +kernel
theorem dn_M_exp_84 : decode bn_M_exp 84 = .ok (.i2l, 1) := by decide +kernel
theorem dn_M_exp_85 : decode bn_M_exp 85 = .ok (.goto 5, 3) := by decide +kernel
theorem dn_M_exp_88 : decode bn_M_exp 88 = .ok (.iload_n 1, 1) := by decide +kernel
theorem dn_M_exp_89 : decode bn_M_exp 89 = .ok (.i2l, 1) := by decide +kernel
theorem dn_M_exp_90 : decode bn_M_exp 90 = .ok (.invokevirtual 361, 3) := by decide +kernel
theorem dn_M_exp_93 : decode bn_M_exp 93 = .ok (.aload_n 0, 1) := by decide +kernel
theorem dn_M_exp_94 : decode bn_M_exp 94 = .ok (.bipush 6, 2) := by decide +kernel
theorem dn_M_exp_96 : decode bn_M_exp 96 = .ok (.iconst 0, 1) := by decide +kernel
theorem dn_M_exp_97 : decode bn_M_exp 97 = .ok (.iconst 0, 1) := by decide +kernel
theorem dn_M_exp_98 : decode bn_M_exp 98 = .ok (.invokevirtual 365, 3) := by decide +kernel
theorem dn_M_exp_101 : decode bn_M_exp 101 = .ok (.iload_n 3, 1) := by decide +kernel
theorem dn_M_exp_102 : decode bn_M_exp 102 = .ok (.ireturn, 1) := by decide +kernel
theorem dn_M_expGrammar_0 : decode bn_M_expGrammar 0 = .ok (.aload_n 0, 1) := by decide +kernel
theorem dn_M_expGrammar_1 : decode bn_M_expGrammar 1 = .ok (.invokevirtual 283, 3) := by decide +kernel
theorem dn_M_expGrammar_4 : decode bn_M_expGrammar 4 = .ok (.aload_n 0, 1) := by decide +kernel
theorem dn_M_expGrammar_5 : decode bn_M_expGrammar 5 = .ok (.getfield 257, 3) := by decide +kernel
theorem dn_M_expGrammar_8 : decode bn_M_expGrammar 8 = .ok (.ifCond .ne 30, 3) := by decide +kernel
theorem dn_M_expGrammar_11 : decode bn_M_expGrammar 11 = .ok (.aload_n 0, 1) := by decide +kernel
theorem dn_M_expGrammar_12 : decode bn_M_expGrammar 12 = .ok (.invokevirtual 286, 3) := by decide +kernel
theorem dn_M_expGrammar_15 : decode bn_M_expGrammar 15 = .ok (.invokestatic 290, 3) := by decide +kernel
theorem dn_M_expGrammar_18 : decode bn_M_expGrammar 18 = .ok (.ifCond .le 20, 3) := by decide +kernel
theorem dn_M_expGrammar_21 : decode bn_M_expGrammar 21 = .ok (.aload_n 0, 1) := by decide +kernel
theorem dn_M_expGrammar_22 : decode bn_M_expGrammar 22 = .ok (.dup, 1) := by decide +kernel
theorem dn_M_expGrammar_23 : decode bn_M_expGrammar 23 = .ok (.getfield 263, 3) := by decide +kernel
theorem dn_M_expGrammar_26 : decode bn_M_expGrammar 26 = .ok (.iconst 1, 1) := by decide +kernel
theorem dn_M_expGrammar_27 : decode bn_M_expGrammar 27 = .ok (.iadd, 1) := by decide +kernel
theorem dn_M_expGrammar_28 : decode bn_M_expGrammar 28 = .ok (.putfield 263, 3) := by decide +kernel
theorem dn_M_expGrammar_31 : decode bn_M_expGrammar 31 = .ok (.aload_n 0, 1) := by decide +kernel
theorem dn_M_expGrammar_32 : decode bn_M_expGrammar 32 = .ok (.invokevirtual 283, 3) := by decide +kernel
theorem dn_M_expGrammar_35 : decode bn_M_expGrammar 35 = .ok (.goto (-31), 3) := by decide +kernel
theorem dn_M_expGrammar_38 : decode bn_M_expGrammar 38 = .ok (.aload_n 0, 1) := by decide +kernel
theorem dn_M_expGrammar_39 : decode bn_M_expGrammar 39 = .ok (.bipush 63, 2) := by decide +kernel
theorem dn_M_expGrammar_41 : decode bn_M_expGrammar 41 = .ok (.invokevirtual 273, 3) := by decide +kernel
theorem dn_M_expGrammar_44 : decode bn_M_expGrammar 44 = .ok (.ifCond .eq 33, 3) := by decide +kernel
theorem dn_M_expGrammar_47 : decode bn_M_expGrammar 47 = .ok (.aload_n 0, 1) := by decide +kernel
theorem dn_M_expGrammar_48 : decode bn_M_expGrammar 48 = .ok (.bipush 63, 2) := by decide +kernel
theorem dn_M_expGrammar_50 : decode bn_M_expGrammar 50 = .ok (.invokevirtual 293, 3) := by decide +kernel
theorem dn_M_expGrammar_53 : decode bn_M_expGrammar 53 = .ok (.aload_n 0, 1) := by decide +kernel
theorem dn_M_expGrammar_54 : decode bn_M_expGrammar 54 = .ok (.invokevirtual 296, 3) := by decide +kernel
theorem dn_M_expGrammar_57 : decode bn_M_expGrammar 57 = .ok (.aload_n 0, 1) := by decide +kernel
theorem dn_M_expGrammar_58 : decode bn_M_expGrammar 58 = .ok (.bipush 58, 2) := by decide +kernel
theorem dn_M_expGrammar_60 : decode bn_M_expGrammar 60 = .ok (.invokevirtual 279, 3) := by decide +kernel
theorem dn_M_expGrammar_63 : decode bn_M_expGrammar 63 = .ok (.aload_n 0, 1) := by decide +kernel
theorem dn_M_expGrammar_64 : decode bn_M_expGrammar 64 = .ok (.invokevirtual 296, 3) := by decide +kernel
theorem dn_M_expGrammar_67 : decode bn_M_expGrammar 67 = .ok (.aload_n 0, 1) := by decide +kernel
theorem dn_M_expGrammar_68 : decode bn_M_expGrammar 68 = .ok (.dup, 1) := by decide +kernel
theorem dn_M_expGrammar_69 : decode bn_M_expGrammar 69 = .ok (.getfield 276, 3) := by decide +kernel
theorem dn_M_expGrammar_72 : decode bn_M_expGrammar 72 = .ok (.iconst 1, 1) := by decide +kernel
theorem dn_M_expGrammar_73 : decode bn_M_expGrammar 73 = .ok (.isub, 1) := by decide +kernel
theorem dn_M_expGrammar_74 : decode bn_M_expGrammar 74 = .ok (.putfield 276, 3) := by decide +kernel
theorem dn_M_expGrammar_77 : decode bn_M_expGrammar 77 = .ok (.return_, 1) := by decide +kernel
theorem dn_M_fail_0 : decode bn_M_fail 0 = .ok (.aload_n 0, 1) := by decide +kernel
theorem dn_M_fail_1 : decode bn_M_fail 1 = .ok (.getfield 257, 3) := by decide +kernel
theorem dn_M_fail_4 : decode bn_M_fail 4 = .ok (.ifCond .ne 13, 3) := by decide +kernel
theorem dn_M_fail_7 : decode bn_M_fail 7 = .ok (.aload_n 0, 1) := by decide +kernel
theorem dn_M_fail_8 : decode bn_M_fail 8 = .ok (.iload_n 1, 1) := by decide +kernel
theorem dn_M_fail_9 : decode bn_M_fail 9 = .ok (.putfield 257, 3) := by decide +kernel
theorem dn_M_fail_12 : decode bn_M_fail 12 = .ok (.aload_n 0, 1) := by decide +kernel
theorem dn_M_fail_13 : decode bn_M_fail 13 = .ok (.iload_n 2, 1) := by decide +kernel
theorem dn_M_fail_14 : decode bn_M_fail 14 = .ok (.putfield 260, 3) := by decide +kernel
theorem dn_M_fail_17 : decode bn_M_fail 17 = .ok (.return_, 1) := by decide +kernel
theorem dn_M_failing_0 : decode bn_M_failing 0 = .ok (.aload_n 0, 1) := by decide +kernel
theorem dn_M_failing_1 : decode bn_M_failing 1 = .ok (.aload_n 0, 1) := by decide +kernel
theorem dn_M_failing_2 : decode bn_M_failing 2 = .ok (.getfield 545, 3) := by decide +kernel
theorem dn_M_failing_5 : decode bn_M_failing 5 = .ok (.ifCond .eq 7, 3) := by decide +kernel
theorem dn_M_failing_8 : decode bn_M_failing 8 = .ok (.iconst 0, 1) := by decide +kernel
theorem dn_M_failing_9 : decode bn_M_failing 9 = .ok (.goto 4, 3) := by decide +kernel
theorem dn_M_failing_12 : decode bn_M_failing 12 = .ok (.iconst 1, 1) := by decide +kernel
theorem dn_M_failing_13 : decode bn_M_failing 13 = .ok (.putfield 192, 3) := by decide +kernel
theorem dn_M_failing_16 : decode bn_M_failing 16 = .ok (.aload_n 0, 1) := by decide +kernel
theorem dn_M_failing_17 : decode bn_M_failing 17 = .ok (.getfield 192, 3) := by decide +kernel
theorem dn_M_failing_20 : decode bn_M_failing 20 = .ok (.ifCond .le 7, 3) := by decide +kernel
theorem dn_M_failing_23 : decode bn_M_failing 23 = .ok (.iconst 0, 1) := by decide +kernel
theorem dn_M_failing_24 : decode bn_M_failing 24 = .ok (.goto 7, 3) := by decide +kernel
theorem dn_M_failing_27 : decode bn_M_failing 27 = .ok (.aload_n 0, 1) := by decide +kernel
theorem dn_M_failing_28 : decode bn_M_failing 28 = .ok (.invokevirtual 628, 3) := by decide +kernel
theorem dn_M_failing_31 : decode bn_M_failing 31 = .ok (.ireturn, 1) := by decide +kernel
theorem dn_M_failingNow_0 : decode bn_M_failingNow 0 = .ok (.iconst 0, 1) := by decide +kernel
theorem dn_M_failingNow_1 : decode bn_M_failingNow 1 = .ok (.istore_n 1, 1) := by decide +kernel
theorem dn_M_failingNow_2 : decode bn_M_failingNow 2 = .ok (.iconst 0, 1) := by decide +kernel
theorem dn_M_failingNow_3 : decode bn_M_failingNow 3 = .ok (.istore_n 2, 1) := by decide +kernel
theorem dn_M_failingNow_4 : decode bn_M_failingNow 4 = .ok (.iload_n 2, 1) := by decide +kernel
theorem dn_M_failingNow_5 : decode bn_M_failingNow 5 = .ok (.aload_n 0, 1) := by decide +kernel
theorem dn_M_failingNow_6 : decode bn_M_failingNow 6 = .ok (.getfield 494, 3) := by decide +kernel
theorem dn_M_failingNow_9 : decode bn_M_failingNow 9 = .ok (.if_icmp .ge 79, 3) := by decide +kernel
theorem dn_M_failingNow_12 : decode bn_M_failingNow 12 = .ok (.aload_n 0, 1) := by decide +kernel
theorem dn_M_failingNow_13 : decode bn_M_failingNow 13 = .ok (.getfield 125, 3) := by decide +kernel
theorem dn_M_failingNow_16 : decode bn_M_failingNow 16 = .ok (.iload_n 2, 1) := by decide +kernel
theorem dn_M_failingNow_17 : decode bn_M_failingNow 17 = .ok (.iaload, 1) := by decide +kernel
theorem dn_M_failingNow_18 : decode bn_M_failingNow 18 = .ok (.istore_n 3, 1) := by decide +kernel
theorem dn_M_failingNow_19 : decode bn_M_failingNow 19 = .ok (.aload_n 0, 1) := by decide +kernel
theorem dn_M_failingNow_20 : decode bn_M_failingNow 20 = .ok (.getfield 34, 3) := by decide +kernel
theorem dn_M_failingNow_23 : decode bn_M_failingNow 23 = .ok (.iload_n 3, 1) := by decide +kernel
theorem dn_M_failingNow_24 : decode bn_M_failingNow 24 = .ok (.iaload, 1) := by decide +kernel
theorem dn_M_failingNow_25 : decode bn_M_failingNow 25 = .ok (.istore 4, 2) := by decide +kernel
theorem dn_M_failingNow_27 : decode bn_M_failingNow 27 = .ok (.iload 4, 2) := by decide +kernel
theorem dn_M_failingNow_29 : decode bn_M_failingNow 29 = .ok (.aload_n 0, 1) := by decide +kernel
theorem dn_M_failingNow_30 : decode bn_M_failingNow 30 = .ok (.getfield 34, 3) := by decide +kernel
theorem dn_M_failingNow_33 : decode bn_M_failingNow 33 = .ok (.iload_n 3, 1) := by decide +kernel
theorem dn_M_failingNow_34 : decode bn_M_failingNow 34 = .ok (.iconst 1, 1) := by decide +kernel
theorem dn_M_failingNow_35 : decode bn_M_failingNow 35 = .ok (.iadd, 1) := by decide +kernel
theorem dn_M_failingNow_36 : decode bn_M_failingNow 36 = .ok (.iaload, 1) := by decide +kernel
theorem dn_M_failingNow_37 : decode bn_M_failingNow 37 = .ok (.if_icmp .ge 45, 3) := by decide +kernel
theorem dn_M_failingNow_40 : decode bn_M_failingNow 40 = .ok (.aload_n 0, 1) := by decide +kernel
theorem dn_M_failingNow_41 : decode bn_M_failingNow 41 = .ok (.aload_n 0, 1) := by decide +kernel
theorem dn_M_failingNow_42 : decode bn_M_failingNow 42 = .ok (.getfield 83, 3) := by decide +kernel
theorem dn_M_failingNow_45 : decode bn_M_failingNow 45 = .ok (.iload 4, 2) := by decide +kernel
theorem dn_M_failingNow_47 : decode bn_M_failingNow 47 = .ok (.iaload, 1) := by decide +kernel
theorem dn_M_failingNow_48 : decode bn_M_failingNow 48 = .ok (.aload_n 0, 1) := by decide +kernel
theorem dn_M_failingNow_49 : decode bn_M_failingNow 49 = .ok (.getfield 86, 3) := by decide +kernel
theorem dn_M_failingNow_52 : decode bn_M_failingNow 52 = .ok (.iload 4, 2) := by decide +kernel
theorem dn_M_failingNow_54 : decode bn_M_failingNow 54 = .ok (.iaload, 1) := by decide +kernel
theorem dn_M_failingNow_55 : decode bn_M_failingNow 55 = .ok (.iload_n 2, 1) := by decide +kernel
theorem dn_M_failingNow_56 : decode bn_M_failingNow 56 = .ok (.invokevirtual 602, 3) := by decide +kernel
theorem dn_M_failingNow_59 : decode bn_M_failingNow 59 = .ok (.aload_n 0, 1) := by decide +kernel
theorem dn_M_failingNow_60 : decode bn_M_failingNow 60 = .ok (.invokevirtual 590, 3) := by decide +kernel
theorem dn_M_failingNow_63 : decode bn_M_failingNow 63 = .ok (.lconst 0, 1) := by decide +kernel
theorem dn_M_failingNow_64 : decode bn_M_failingNow 64 = .ok (.lcmp, 1) := by decide +kernel
theorem dn_M_failingNow_65 : decode bn_M_failingNow 65 = .ok (.ifCond .ne 9, 3) := by decide +kernel
theorem dn_M_failingNow_68 : decode bn_M_failingNow 68 = .ok (.iload_n 1, 1) := by decide +kernel
theorem dn_M_failingNow_69 : decode bn_M_failingNow 69 = .ok (.iconst 1, 1) := by decide +kernel
theorem dn_M_failingNow_70 : decode bn_M_failingNow 70 = .ok (.iadd, 1) := by decide +kernel
theorem dn_M_failingNow_71 : decode bn_M_failingNow 71 = .ok (.goto 4, 3) := by decide +kernel
theorem dn_M_failingNow_74 : decode bn_M_failingNow 74 = .ok (.iload_n 1, 1) := by decide +kernel
theorem dn_M_failingNow_75 : decode bn_M_failingNow 75 = .ok (.istore_n 1, 1) := by decide +kernel
theorem dn_M_failingNow_76 : decode bn_M_failingNow 76 = .ok (.iinc 4 1, 3) := by decide +kernel
theorem dn_M_failingNow_79 : decode bn_M_failingNow 79 = .ok (.goto (-52), 3) := by decide +kernel
theorem dn_M_failingNow_82 : decode bn_M_failingNow 82 = .ok (.iinc 2 1, 3) := by decide +kernel
theorem dn_M_failingNow_85 : decode bn_M_failingNow 85 = .ok (.goto (-81), 3) := by decide +kernel
theorem dn_M_failingNow_88 : decode bn_M_failingNow 88 = .ok (.iload_n 1, 1) := by decide +kernel
theorem dn_M_failingNow_89 : decode bn_M_failingNow 89 = .ok (.ireturn, 1) := by decide +kernel
theorem dn_M_fault_0 : decode bn_M_fault 0 = .ok (.aload_n 0, 1) := by decide +kernel
theorem dn_M_fault_1 : decode bn_M_fault 1 = .ok (.iconst 0, 1) := by decide +kernel
theorem dn_M_fault_2 : decode bn_M_fault 2 = .ok (.putfield 192, 3) := by decide +kernel
theorem dn_M_fault_5 : decode bn_M_fault 5 = .ok (.aload_n 0, 1) := by decide +kernel
theorem dn_M_fault_6 : decode bn_M_fault 6 = .ok (.getfield 542, 3) := by decide +kernel
theorem dn_M_fault_9 : decode bn_M_fault 9 = .ok (.ireturn, 1) := by decide +kernel
theorem dn_M_feed_0 : decode bn_M_feed 0 = .ok (.aload_n 0, 1) := by decide +kernel
theorem dn_M_feed_1 : decode bn_M_feed 1 = .ok (.aload_n 0, 1) := by decide +kernel
theorem dn_M_feed_2 : decode bn_M_feed 2 = .ok (.getfield 536, 3) := by decide +kernel
theorem dn_M_feed_5 : decode bn_M_feed 5 = .ok (.bipush 20, 2) := by decide +kernel
theorem dn_M_feed_7 : decode bn_M_feed 7 = .ok (.iadd, 1) := by decide +kernel
theorem dn_M_feed_8 : decode bn_M_feed 8 = .ok (.aload_n 0, 1) := by decide +kernel
theorem dn_M_feed_9 : decode bn_M_feed 9 = .ok (.getfield 8, 3) := by decide +kernel
theorem dn_M_feed_12 : decode bn_M_feed 12 = .ok (.arraylength, 1) := by decide +kernel
theorem dn_M_feed_13 : decode bn_M_feed 13 = .ok (.if_icmp .le 7, 3) := by decide +kernel
theorem dn_M_feed_16 : decode bn_M_feed 16 = .ok (.iconst 1, 1) := by decide +kernel
theorem dn_M_feed_17 : decode bn_M_feed 17 = .ok (.goto 4, 3) := by decide +kernel
theorem dn_M_feed_20 : decode bn_M_feed 20 = .ok (.iconst 0, 1) := by decide +kernel
theorem dn_M_feed_21 : decode bn_M_feed 21 = .ok (.putfield 192, 3) := by decide +kernel
theorem dn_M_feed_24 : decode bn_M_feed 24 = .ok (.aload_n 0, 1) := by decide +kernel
theorem dn_M_feed_25 : decode bn_M_feed 25 = .ok (.getfield 192, 3) := by decide +kernel
theorem dn_M_feed_28 : decode bn_M_feed 28 = .ok (.ifCond .le 5, 3) := by decide +kernel
theorem dn_M_feed_31 : decode bn_M_feed 31 = .ok (.iconst 0, 1) := by decide +kernel
theorem dn_M_feed_32 : decode bn_M_feed 32 = .ok (.ireturn, 1) := by decide +kernel
theorem dn_M_feed_33 : decode bn_M_feed 33 = .ok (.iconst 0, 1) := by decide +kernel
theorem dn_M_feed_34 : decode bn_M_feed 34 = .ok (.istore 6, 2) := by decide +kernel
theorem dn_M_feed_36 : decode bn_M_feed 36 = .ok (.iload 6, 2) := by decide +kernel
theorem dn_M_feed_38 : decode bn_M_feed 38 = .ok (.bipush 20, 2) := by decide +kernel
theorem dn_M_feed_40 : decode bn_M_feed 40 = .ok (.if_icmp .ge 83, 3) := by decide +kernel
theorem dn_M_feed_43 : decode bn_M_feed 43 = .ok (.iload 6, 2) := by decide +kernel
theorem dn_M_feed_45 : decode bn_M_feed 45 = .ok (.iconst 4, 1) := by decide +kernel
theorem dn_M_feed_46 : decode bn_M_feed 46 = .ok (.if_icmp .ge 7, 3) := by decide +kernel
theorem dn_M_feed_49 : decode bn_M_feed 49 = .ok (.iload_n 1, 1) := by decide +kernel
theorem dn_M_feed_50 : decode bn_M_feed 50 = .ok (.goto 39, 3) := by decide +kernel
theorem dn_M_feed_53 : decode bn_M_feed 53 = .ok (.iload 6, 2) := by decide +kernel
theorem dn_M_feed_55 : decode bn_M_feed 55 = .ok (.bipush 8, 2) := by decide +kernel
theorem dn_M_feed_57 : decode bn_M_feed 57 = .ok (.if_icmp .ge 7, 3) := by decide +kernel
theorem dn_M_feed_60 : decode bn_M_feed 60 = .ok (.iload_n 2, 1) := by decide +kernel
theorem dn_M_feed_61 : decode bn_M_feed 61 = .ok (.goto 28, 3) := by decide +kernel
theorem dn_M_feed_64 : decode bn_M_feed 64 = .ok (.iload 6, 2) := by decide +kernel
theorem dn_M_feed_66 : decode bn_M_feed 66 = .ok (.bipush 12, 2) := by decide +kernel
theorem dn_M_feed_68 : decode bn_M_feed 68 = .ok (.if_icmp .ge 7, 3) := by decide +kernel
theorem dn_M_feed_71 : decode bn_M_feed 71 = .ok (.iload_n 3, 1) := by decide +kernel
theorem dn_M_feed_72 : decode bn_M_feed 72 = .ok (.goto 17, 3) := by decide +kernel
theorem dn_M_feed_75 : decode bn_M_feed 75 = .ok (.iload 6, 2) := by decide +kernel
theorem dn_M_feed_77 : decode bn_M_feed 77 = .ok (.bipush 16, 2) := by decide +kernel
theorem dn_M_feed_79 : decode bn_M_feed 79 = .ok (.if_icmp .ge 8, 3) := by decide +kernel
theorem dn_M_feed_82 : decode bn_M_feed 82 = .ok (.iload 4, 2) := by decide +kernel
theorem dn_M_feed_84 : decode bn_M_feed 84 = .ok (.goto 5, 3) := by decide +kernel
theorem dn_M_feed_87 : decode bn_M_feed 87 = .ok (.iload 5, 2) := by decide +kernel
theorem dn_M_feed_89 : decode bn_M_feed 89 = .ok (.istore 7, 2) := by decide +kernel
theorem dn_M_feed_91 : decode bn_M_feed 91 = .ok (.aload_n 0, 1) := by decide +kernel
theorem dn_M_feed_92 : decode bn_M_feed 92 = .ok (.getfield 8, 3) := by decide +kernel
theorem dn_M_feed_95 : decode bn_M_feed 95 = .ok (.aload_n 0, 1) := by decide +kernel
theorem dn_M_feed_96 : decode bn_M_feed 96 = .ok (.getfield 536, 3) := by decide +kernel
theorem dn_M_feed_99 : decode bn_M_feed 99 = .ok (.iload 6, 2) := by decide +kernel
theorem dn_M_feed_101 : decode bn_M_feed 101 = .ok (.iadd, 1) := by decide +kernel
theorem dn_M_feed_102 : decode bn_M_feed 102 = .ok (.iload 7, 2) := by decide +kernel
theorem dn_M_feed_104 : decode bn_M_feed 104 = .ok (.bipush 24, 2) := by decide +kernel
theorem dn_M_feed_106 : decode bn_M_feed 106 = .ok (.bipush 8, 2) := by decide +kernel
theorem dn_M_feed_108 : decode bn_M_feed 108 = .ok (.iload 6, 2) := by decide +kernel
theorem dn_M_feed_110 : decode bn_M_feed 110 = .ok (.iconst 4, 1) := by decide +kernel
theorem dn_M_feed_111 : decode bn_M_feed 111 = .ok (.irem, 1) := by decide +kernel
theorem dn_M_feed_112 : decode bn_M_feed 112 = .ok (.imul, 1) := by decide +kernel
theorem dn_M_feed_113 : decode bn_M_feed 113 = .ok (.isub, 1) := by decide +kernel
theorem dn_M_feed_114 : decode bn_M_feed 114 = .ok (.ishr, 1) := by decide +kernel
theorem dn_M_feed_115 : decode bn_M_feed 115 = .ok (.i2b, 1) := by decide +kernel
theorem dn_M_feed_116 : decode bn_M_feed 116 = .ok (.bastore, 1) := by decide +kernel
theorem dn_M_feed_117 : decode bn_M_feed 117 = .ok (.iinc 6 1, 3) := by decide +kernel
theorem dn_M_feed_120 : decode bn_M_feed 120 = .ok (.goto (-84), 3) := by decide +kernel
theorem dn_M_feed_123 : decode bn_M_feed 123 = .ok (.aload_n 0, 1) := by decide +kernel
theorem dn_M_feed_124 : decode bn_M_feed 124 = .ok (.aload_n 0, 1) := by decide +kernel
theorem dn_M_feed_125 : decode bn_M_feed 125 = .ok (.getfield 536, 3) := by decide +kernel
theorem dn_M_feed_128 : decode bn_M_feed 128 = .ok (.bipush 20, 2) := by decide +kernel
theorem dn_M_feed_130 : decode bn_M_feed 130 = .ok (.iadd, 1) := by decide +kernel
theorem dn_M_feed_131 : decode bn_M_feed 131 = .ok (.putfield 536, 3) := by decide +kernel
theorem dn_M_feed_134 : decode bn_M_feed 134 = .ok (.aload_n 0, 1) := by decide +kernel
theorem dn_M_feed_135 : decode bn_M_feed 135 = .ok (.getfield 536, 3) := by decide +kernel
theorem dn_M_feed_138 : decode bn_M_feed 138 = .ok (.ireturn, 1) := by decide +kernel
theorem dn_M_find_0 : decode bn_M_find 0 = .ok (.aload_n 0, 1) := by decide +kernel
theorem dn_M_find_1 : decode bn_M_find 1 = .ok (.aload_n 0, 1) := by decide +kernel
theorem dn_M_find_2 : decode bn_M_find 2 = .ok (.getfield 545, 3) := by decide +kernel
theorem dn_M_find_5 : decode bn_M_find 5 = .ok (.ifCond .eq 7, 3) := by decide +kernel
theorem dn_M_find_8 : decode bn_M_find 8 = .ok (.iconst 0, 1) := by decide +kernel
theorem dn_M_find_9 : decode bn_M_find 9 = .ok (.goto 4, 3) := by decide +kernel
theorem dn_M_find_12 : decode bn_M_find 12 = .ok (.iconst 1, 1) := by decide +kernel
theorem dn_M_find_13 : decode bn_M_find 13 = .ok (.putfield 192, 3) := by decide +kernel
theorem dn_M_find_16 : decode bn_M_find 16 = .ok (.aload_n 0, 1) := by decide +kernel
theorem dn_M_find_17 : decode bn_M_find 17 = .ok (.getfield 192, 3) := by decide +kernel
theorem dn_M_find_20 : decode bn_M_find 20 = .ok (.ifCond .le 5, 3) := by decide +kernel
theorem dn_M_find_23 : decode bn_M_find 23 = .ok (.iconst 0, 1) := by decide +kernel
theorem dn_M_find_24 : decode bn_M_find 24 = .ok (.ireturn, 1) := by decide +kernel
theorem dn_M_find_25 : decode bn_M_find 25 = .ok (.iconst (-1), 1) := by decide +kernel
theorem dn_M_find_26 : decode bn_M_find 26 = .ok (.istore_n 1, 1) := by decide +kernel
theorem dn_M_find_27 : decode bn_M_find 27 = .ok (.iconst 0, 1) := by decide +kernel
theorem dn_M_find_28 : decode bn_M_find 28 = .ok (.istore_n 2, 1) := by decide +kernel
theorem dn_M_find_29 : decode bn_M_find 29 = .ok (.iload_n 2, 1) := by decide +kernel
theorem dn_M_find_30 : decode bn_M_find 30 = .ok (.aload_n 0, 1) := by decide +kernel
theorem dn_M_find_31 : decode bn_M_find 31 = .ok (.getfield 497, 3) := by decide +kernel
theorem dn_M_find_34 : decode bn_M_find 34 = .ok (.if_icmp .ge 27, 3) := by decide +kernel
theorem dn_M_find_37 : decode bn_M_find 37 = .ok (.iload_n 1, 1) := by decide +kernel
theorem dn_M_find_38 : decode bn_M_find 38 = .ok (.ifCond .ge 15, 3) := by decide +kernel
theorem dn_M_find_41 : decode bn_M_find 41 = .ok (.aload_n 0, 1) := by decide +kernel
theorem dn_M_find_42 : decode bn_M_find 42 = .ok (.iload_n 2, 1) := by decide +kernel
theorem dn_M_find_43 : decode bn_M_find 43 = .ok (.invokevirtual 615, 3) := by decide +kernel
theorem dn_M_find_46 : decode bn_M_find 46 = .ok (.ifCond .eq 7, 3) := by decide +kernel
theorem dn_M_find_49 : decode bn_M_find 49 = .ok (.iload_n 2, 1) := by decide +kernel
theorem dn_M_find_50 : decode bn_M_find 50 = .ok (.goto 4, 3) := by decide +kernel
theorem dn_M_find_53 : decode bn_M_find 53 = .ok (.iload_n 1, 1) := by decide +kernel
theorem dn_M_find_54 : decode bn_M_find 54 = .ok (.istore_n 1, 1) := by decide +kernel
theorem dn_M_find_55 : decode bn_M_find 55 = .ok (.iinc 2 1, 3) := by decide +kernel
theorem dn_M_find_58 : decode bn_M_find 58 = .ok (.goto (-29), 3) := by decide +kernel
theorem dn_M_find_61 : decode bn_M_find 61 = .ok (.aload_n 0, 1) := by decide +kernel
theorem dn_M_find_62 : decode bn_M_find 62 = .ok (.iconst 0, 1) := by decide +kernel
theorem dn_M_find_63 : decode bn_M_find 63 = .ok (.putfield 536, 3) := by decide +kernel
theorem dn_M_find_66 : decode bn_M_find 66 = .ok (.iload_n 1, 1) := by decide +kernel
theorem dn_M_find_67 : decode bn_M_find 67 = .ok (.ireturn, 1) := by decide +kernel
theorem dn_M_findRule_0 : decode bn_M_findRule 0 = .ok (.aload_n 0, 1) := by decide +kernel
theorem dn_M_findRule_1 : decode bn_M_findRule 1 = .ok (.getfield 143, 3) := by decide +kernel
theorem dn_M_findRule_4 : decode bn_M_findRule 4 = .ok (.iload_n 1, 1) := by decide +kernel
theorem dn_M_findRule_5 : decode bn_M_findRule 5 = .ok (.iaload, 1) := by decide +kernel
theorem dn_M_findRule_6 : decode bn_M_findRule 6 = .ok (.istore_n 2, 1) := by decide +kernel
theorem dn_M_findRule_7 : decode bn_M_findRule 7 = .ok (.aload_n 0, 1) := by decide +kernel
theorem dn_M_findRule_8 : decode bn_M_findRule 8 = .ok (.getfield 146, 3) := by decide +kernel
theorem dn_M_findRule_11 : decode bn_M_findRule 11 = .ok (.iload_n 1, 1) := by decide +kernel
theorem dn_M_findRule_12 : decode bn_M_findRule 12 = .ok (.iaload, 1) := by decide +kernel
theorem dn_M_findRule_13 : decode bn_M_findRule 13 = .ok (.istore_n 3, 1) := by decide +kernel
theorem dn_M_findRule_14 : decode bn_M_findRule 14 = .ok (.aload_n 0, 1) := by decide +kernel
theorem dn_M_findRule_15 : decode bn_M_findRule 15 = .ok (.getfield 149, 3) := by decide +kernel
theorem dn_M_findRule_18 : decode bn_M_findRule 18 = .ok (.iload_n 1, 1) := by decide +kernel
theorem dn_M_findRule_19 : decode bn_M_findRule 19 = .ok (.iconst 0, 1) := by decide +kernel
theorem dn_M_findRule_20 : decode bn_M_findRule 20 = .ok (.iastore, 1) := by decide +kernel
theorem dn_M_findRule_21 : decode bn_M_findRule 21 = .ok (.aload_n 0, 1) := by decide +kernel
theorem dn_M_findRule_22 : decode bn_M_findRule 22 = .ok (.getfield 46, 3) := by decide +kernel
theorem dn_M_findRule_25 : decode bn_M_findRule 25 = .ok (.iload_n 2, 1) := by decide +kernel
theorem dn_M_findRule_26 : decode bn_M_findRule 26 = .ok (.iaload, 1) := by decide +kernel
theorem dn_M_findRule_27 : decode bn_M_findRule 27 = .ok (.ifCond .ne 81, 3) := by decide +kernel
theorem dn_M_findRule_30 : decode bn_M_findRule 30 = .ok (.iload_n 3, 1) := by decide +kernel
theorem dn_M_findRule_31 : decode bn_M_findRule 31 = .ok (.ifCond .le 77, 3) := by decide +kernel
theorem dn_M_findRule_34 : decode bn_M_findRule 34 = .ok (.aload_n 0, 1) := by decide +kernel
theorem dn_M_findRule_35 : decode bn_M_findRule 35 = .ok (.aload_n 0, 1) := by decide +kernel
theorem dn_M_findRule_36 : decode bn_M_findRule 36 = .ok (.getfield 134, 3) := by decide +kernel
theorem dn_M_findRule_39 : decode bn_M_findRule 39 = .ok (.iload_n 3, 1) := by decide +kernel
theorem dn_M_findRule_40 : decode bn_M_findRule 40 = .ok (.iaload, 1) := by decide +kernel
theorem dn_M_findRule_41 : decode bn_M_findRule 41 = .ok (.aload_n 0, 1) := by decide +kernel
theorem dn_M_findRule_42 : decode bn_M_findRule 42 = .ok (.getfield 71, 3) := by decide +kernel
theorem dn_M_findRule_45 : decode bn_M_findRule 45 = .ok (.aload_n 0, 1) := by decide +kernel
theorem dn_M_findRule_46 : decode bn_M_findRule 46 = .ok (.getfield 134, 3) := by decide +kernel
theorem dn_M_findRule_49 : decode bn_M_findRule 49 = .ok (.iload_n 3, 1) := by decide +kernel
theorem dn_M_findRule_50 : decode bn_M_findRule 50 = .ok (.iaload, 1) := by decide +kernel
theorem dn_M_findRule_51 : decode bn_M_findRule 51 = .ok (.iconst 1, 1) := by decide +kernel
theorem dn_M_findRule_52 : decode bn_M_findRule 52 = .ok (.iadd, 1) := by decide +kernel
theorem dn_M_findRule_53 : decode bn_M_findRule 53 = .ok (.iaload, 1) := by decide +kernel
theorem dn_M_findRule_54 : decode bn_M_findRule 54 = .ok (.iload_n 2, 1) := by decide +kernel
theorem dn_M_findRule_55 : decode bn_M_findRule 55 = .ok (.invokevirtual 447, 3) := by decide +kernel
theorem dn_M_findRule_58 : decode bn_M_findRule 58 = .ok (.istore 4, 2) := by decide +kernel
theorem dn_M_findRule_60 : decode bn_M_findRule 60 = .ok (.aload_n 0, 1) := by decide +kernel
theorem dn_M_findRule_61 : decode bn_M_findRule 61 = .ok (.getfield 149, 3) := by decide +kernel
theorem dn_M_findRule_64 : decode bn_M_findRule 64 = .ok (.iload_n 1, 1) := by decide +kernel
theorem dn_M_findRule_65 : decode bn_M_findRule 65 = .ok (.iconst 1, 1) := by decide +kernel
theorem dn_M_findRule_66 : decode bn_M_findRule 66 = .ok (.iastore, 1) := by decide +kernel
theorem dn_M_findRule_67 : decode bn_M_findRule 67 = .ok (.aload_n 0, 1) := by decide +kernel
theorem dn_M_findRule_68 : decode bn_M_findRule 68 = .ok (.getfield 152, 3) := by decide +kernel
theorem dn_M_findRule_71 : decode bn_M_findRule 71 = .ok (.iload_n 1, 1) := by decide +kernel
theorem dn_M_findRule_72 : decode bn_M_findRule 72 = .ok (.aload_n 0, 1) := by decide +kernel
theorem dn_M_findRule_73 : decode bn_M_findRule 73 = .ok (.getfield 77, 3) := by decide +kernel
theorem dn_M_findRule_76 : decode bn_M_findRule 76 = .ok (.iload 4, 2) := by decide +kernel
theorem dn_M_findRule_78 : decode bn_M_findRule 78 = .ok (.iaload, 1) := by decide +kernel
theorem dn_M_findRule_79 : decode bn_M_findRule 79 = .ok (.iastore, 1) := by decide +kernel
theorem dn_M_findRule_80 : decode bn_M_findRule 80 = .ok (.aload_n 0, 1) := by decide +kernel
theorem dn_M_findRule_81 : decode bn_M_findRule 81 = .ok (.getfield 155, 3) := by decide +kernel
theorem dn_M_findRule_84 : decode bn_M_findRule 84 = .ok (.iload_n 1, 1) := by decide +kernel
theorem dn_M_findRule_85 : decode bn_M_findRule 85 = .ok (.aload_n 0, 1) := by decide +kernel
theorem dn_M_findRule_86 : decode bn_M_findRule 86 = .ok (.getfield 80, 3) := by decide +kernel
theorem dn_M_findRule_89 : decode bn_M_findRule 89 = .ok (.iload 4, 2) := by decide +kernel
theorem dn_M_findRule_91 : decode bn_M_findRule 91 = .ok (.iaload, 1) := by decide +kernel
theorem dn_M_findRule_92 : decode bn_M_findRule 92 = .ok (.iastore, 1) := by decide +kernel
theorem dn_M_findRule_93 : decode bn_M_findRule 93 = .ok (.aload_n 0, 1) := by decide +kernel
theorem dn_M_findRule_94 : decode bn_M_findRule 94 = .ok (.getfield 158, 3) := by decide +kernel
theorem dn_M_findRule_97 : decode bn_M_findRule 97 = .ok (.iload_n 1, 1) := by decide +kernel
theorem dn_M_findRule_98 : decode bn_M_findRule 98 = .ok (.aload_n 0, 1) := by decide +kernel
theorem dn_M_findRule_99 : decode bn_M_findRule 99 = .ok (.getfield 131, 3) := by decide +kernel
theorem dn_M_findRule_102 : decode bn_M_findRule 102 = .ok (.iload_n 3, 1) := by decide +kernel
theorem dn_M_findRule_103 : decode bn_M_findRule 103 = .ok (.iaload, 1) := by decide +kernel
theorem dn_M_findRule_104 : decode bn_M_findRule 104 = .ok (.iastore, 1) := by decide +kernel
theorem dn_M_findRule_105 : decode bn_M_findRule 105 = .ok (.goto 131, 3) := by decide +kernel
theorem dn_M_findRule_108 : decode bn_M_findRule 108 = .ok (.aload_n 0, 1) := by decide +kernel
theorem dn_M_findRule_109 : decode bn_M_findRule 109 = .ok (.iload_n 2, 1) := by decide +kernel
theorem dn_M_findRule_110 : decode bn_M_findRule 110 = .ok (.invokevirtual 417, 3) := by decide +kernel
theorem dn_M_findRule_113 : decode bn_M_findRule 113 = .ok (.ifCond .eq 54, 3) := by decide +kernel
theorem dn_M_findRule_116 : decode bn_M_findRule 116 = .ok (.aload_n 0, 1) := by decide +kernel
theorem dn_M_findRule_117 : decode bn_M_findRule 117 = .ok (.getfield 53, 3) := by decide +kernel
theorem dn_M_findRule_120 : decode bn_M_findRule 120 = .ok (.iload_n 2, 1) := by decide +kernel
theorem dn_M_findRule_121 : decode bn_M_findRule 121 = .ok (.iaload, 1) := by decide +kernel
theorem dn_M_findRule_122 : decode bn_M_findRule 122 = .ok (.iconst 1, 1) := by decide +kernel
theorem dn_M_findRule_123 : decode bn_M_findRule 123 = .ok (.if_icmp .ne 44, 3) := by decide +kernel
theorem dn_M_findRule_126 : decode bn_M_findRule 126 = .ok (.aload_n 0, 1) := by decide +kernel
theorem dn_M_findRule_127 : decode bn_M_findRule 127 = .ok (.getfield 149, 3) := by decide +kernel
theorem dn_M_findRule_130 : decode bn_M_findRule 130 = .ok (.iload_n 1, 1) := by decide +kernel
theorem dn_M_findRule_131 : decode bn_M_findRule 131 = .ok (.iconst 1, 1) := by decide +kernel
theorem dn_M_findRule_132 : decode bn_M_findRule 132 = .ok (.iastore, 1) := by decide +kernel
theorem dn_M_findRule_133 : decode bn_M_findRule 133 = .ok (.aload_n 0, 1) := by decide +kernel
theorem dn_M_findRule_134 : decode bn_M_findRule 134 = .ok (.getfield 152, 3) := by decide +kernel
theorem dn_M_findRule_137 : decode bn_M_findRule 137 = .ok (.iload_n 1, 1) := by decide +kernel
theorem dn_M_findRule_138 : decode bn_M_findRule 138 = .ok (.aload_n 0, 1) := by decide +kernel
theorem dn_M_findRule_139 : decode bn_M_findRule 139 = .ok (.getfield 56, 3) := by decide +kernel
theorem dn_M_findRule_142 : decode bn_M_findRule 142 = .ok (.iload_n 2, 1) := by decide +kernel
theorem dn_M_findRule_143 : decode bn_M_findRule 143 = .ok (.iaload, 1) := by decide +kernel
theorem dn_M_findRule_144 : decode bn_M_findRule 144 = .ok (.iastore, 1) := by decide +kernel
theorem dn_M_findRule_145 : decode bn_M_findRule 145 = .ok (.aload_n 0, 1) := by decide +kernel
theorem dn_M_findRule_146 : decode bn_M_findRule 146 = .ok (.getfield 155, 3) := by decide +kernel
theorem dn_M_findRule_149 : decode bn_M_findRule 149 = .ok (.iload_n 1, 1) := by decide +kernel
theorem dn_M_findRule_150 : decode bn_M_findRule 150 = .ok (.aload_n 0, 1) := by decide +kernel
theorem dn_M_findRule_151 : decode bn_M_findRule 151 = .ok (.getfield 59, 3) := by decide +kernel
theorem dn_M_findRule_154 : decode bn_M_findRule 154 = .ok (.iload_n 2, 1) := by decide +kernel
theorem dn_M_findRule_155 : decode bn_M_findRule 155 = .ok (.iaload, 1) := by decide +kernel
theorem dn_M_findRule_156 : decode bn_M_findRule 156 = .ok (.iastore, 1) := by decide +kernel
theorem dn_M_findRule_157 : decode bn_M_findRule 157 = .ok (.aload_n 0, 1) := by decide +kernel
theorem dn_M_findRule_158 : decode bn_M_findRule 158 = .ok (.getfield 158, 3) := by decide +kernel
theorem dn_M_findRule_161 : decode bn_M_findRule 161 = .ok (.iload_n 1, 1) := by decide +kernel
theorem dn_M_findRule_162 : decode bn_M_findRule 162 = .ok (.iload_n 3, 1) := by decide +kernel
theorem dn_M_findRule_163 : decode bn_M_findRule 163 = .ok (.iastore, 1) := by decide +kernel
theorem dn_M_findRule_164 : decode bn_M_findRule 164 = .ok (.goto 72, 3) := by decide +kernel
theorem dn_M_findRule_167 : decode bn_M_findRule 167 = .ok (.aload_n 0, 1) := by decide +kernel
theorem dn_M_findRule_168 : decode bn_M_findRule 168 = .ok (.iload_n 2, 1) := by decide +kernel
theorem dn_M_findRule_169 : decode bn_M_findRule 169 = .ok (.invokevirtual 417, 3) := by decide +kernel
theorem dn_M_findRule_172 : decode bn_M_findRule 172 = .ok (.ifCond .eq 64, 3) := by decide +kernel
theorem dn_M_findRule_175 : decode bn_M_findRule 175 = .ok (.iconst 0, 1) := by decide +kernel
theorem dn_M_findRule_176 : decode bn_M_findRule 176 = .ok (.istore 4, 2) := by decide +kernel
theorem dn_M_findRule_178 : decode bn_M_findRule 178 = .ok (.aload_n 0, 1) := by decide +kernel
theorem dn_M_findRule_179 : decode bn_M_findRule 179 = .ok (.getfield 131, 3) := by decide +kernel
theorem dn_M_findRule_182 : decode bn_M_findRule 182 = .ok (.iload 4, 2) := by decide +kernel
theorem dn_M_findRule_184 : decode bn_M_findRule 184 = .ok (.iaload, 1) := by decide +kernel
theorem dn_M_findRule_185 : decode bn_M_findRule 185 = .ok (.iload_n 3, 1) := by decide +kernel
theorem dn_M_findRule_186 : decode bn_M_findRule 186 = .ok (.if_icmp .ne 19, 3) := by decide +kernel
theorem dn_M_findRule_189 : decode bn_M_findRule 189 = .ok (.aload_n 0, 1) := by decide +kernel
theorem dn_M_findRule_190 : decode bn_M_findRule 190 = .ok (.getfield 134, 3) := by decide +kernel
theorem dn_M_findRule_193 : decode bn_M_findRule 193 = .ok (.iload 4, 2) := by decide +kernel
theorem dn_M_findRule_195 : decode bn_M_findRule 195 = .ok (.iaload, 1) := by decide +kernel
theorem dn_M_findRule_196 : decode bn_M_findRule 196 = .ok (.aload_n 0, 1) := by decide +kernel
theorem dn_M_findRule_197 : decode bn_M_findRule 197 = .ok (.getfield 56, 3) := by decide +kernel
theorem dn_M_findRule_200 : decode bn_M_findRule 200 = .ok (.iload_n 2, 1) := by decide +kernel
theorem dn_M_findRule_201 : decode bn_M_findRule 201 = .ok (.iaload, 1) := by decide +kernel
theorem dn_M_findRule_202 : decode bn_M_findRule 202 = .ok (.if_icmp .eq 9, 3) := by decide +kernel
theorem dn_M_findRule_205 : decode bn_M_findRule 205 = .ok (.iinc 4 1, 3) := by decide +kernel
theorem dn_M_findRule_208 : decode bn_M_findRule 208 = .ok (.goto (-30), 3) := by decide +kernel
theorem dn_M_findRule_211 : decode bn_M_findRule 211 = .ok (.aload_n 0, 1) := by decide +kernel
theorem dn_M_findRule_212 : decode bn_M_findRule 212 = .ok (.getfield 149, 3) := by decide +kernel
theorem dn_M_findRule_215 : decode bn_M_findRule 215 = .ok (.iload_n 1, 1) := by decide +kernel
theorem dn_M_findRule_216 : decode bn_M_findRule 216 = .ok (.iconst 2, 1) := by decide +kernel
theorem dn_M_findRule_217 : decode bn_M_findRule 217 = .ok (.iastore, 1) := by decide +kernel
theorem dn_M_findRule_218 : decode bn_M_findRule 218 = .ok (.aload_n 0, 1) := by decide +kernel
theorem dn_M_findRule_219 : decode bn_M_findRule 219 = .ok (.getfield 152, 3) := by decide +kernel
theorem dn_M_findRule_222 : decode bn_M_findRule 222 = .ok (.iload_n 1, 1) := by decide +kernel
theorem dn_M_findRule_223 : decode bn_M_findRule 223 = .ok (.aload_n 0, 1) := by decide +kernel
theorem dn_M_findRule_224 : decode bn_M_findRule 224 = .ok (.iload 4, 2) := by decide +kernel
theorem dn_M_findRule_226 : decode bn_M_findRule 226 = .ok (.aload_n 0, 1) := by decide +kernel
theorem dn_M_findRule_227 : decode bn_M_findRule 227 = .ok (.getfield 59, 3) := by decide +kernel
theorem dn_M_findRule_230 : decode bn_M_findRule 230 = .ok (.iload_n 2, 1) := by decide +kernel
theorem dn_M_findRule_231 : decode bn_M_findRule 231 = .ok (.iaload, 1) := by decide +kernel
theorem dn_M_findRule_232 : decode bn_M_findRule 232 = .ok (.invokevirtual 506, 3) := by decide +kernel
theorem dn_M_findRule_235 : decode bn_M_findRule 235 = .ok (.iastore, 1) := by decide +kernel
theorem dn_M_findRule_236 : decode bn_M_findRule 236 = .ok (.return_, 1) := by decide +kernel
theorem dn_M_goOn_0 : decode bn_M_goOn 0 = .ok (.iconst 0, 1) := by decide +kernel
theorem dn_M_goOn_1 : decode bn_M_goOn 1 = .ok (.istore_n 2, 1) := by decide +kernel
theorem dn_M_goOn_2 : decode bn_M_goOn 2 = .ok (.iload_n 2, 1) := by decide +kernel
theorem dn_M_goOn_3 : decode bn_M_goOn 3 = .ok (.aload_n 0, 1) := by decide +kernel
theorem dn_M_goOn_4 : decode bn_M_goOn 4 = .ok (.getfield 497, 3) := by decide +kernel
theorem dn_M_goOn_7 : decode bn_M_goOn 7 = .ok (.if_icmp .ge 18, 3) := by decide +kernel
theorem dn_M_goOn_10 : decode bn_M_goOn 10 = .ok (.aload_n 0, 1) := by decide +kernel
theorem dn_M_goOn_11 : decode bn_M_goOn 11 = .ok (.getfield 177, 3) := by decide +kernel
theorem dn_M_goOn_14 : decode bn_M_goOn 14 = .ok (.iload_n 2, 1) := by decide +kernel
theorem dn_M_goOn_15 : decode bn_M_goOn 15 = .ok (.aload_n 1, 1) := by decide +kernel
theorem dn_M_goOn_16 : decode bn_M_goOn 16 = .ok (.iload_n 2, 1) := by decide +kernel
theorem dn_M_goOn_17 : decode bn_M_goOn 17 = .ok (.laload, 1) := by decide +kernel
theorem dn_M_goOn_18 : decode bn_M_goOn 18 = .ok (.lastore, 1) := by decide +kernel
theorem dn_M_goOn_19 : decode bn_M_goOn 19 = .ok (.iinc 2 1, 3) := by decide +kernel
theorem dn_M_goOn_22 : decode bn_M_goOn 22 = .ok (.goto (-20), 3) := by decide +kernel
theorem dn_M_goOn_25 : decode bn_M_goOn 25 = .ok (.iconst 0, 1) := by decide +kernel
theorem dn_M_goOn_26 : decode bn_M_goOn 26 = .ok (.istore_n 2, 1) := by decide +kernel
theorem dn_M_goOn_27 : decode bn_M_goOn 27 = .ok (.iload_n 2, 1) := by decide +kernel
theorem dn_M_goOn_28 : decode bn_M_goOn 28 = .ok (.aload_n 0, 1) := by decide +kernel
theorem dn_M_goOn_29 : decode bn_M_goOn 29 = .ok (.getfield 494, 3) := by decide +kernel
theorem dn_M_goOn_32 : decode bn_M_goOn 32 = .ok (.if_icmp .ge 62, 3) := by decide +kernel
theorem dn_M_goOn_35 : decode bn_M_goOn 35 = .ok (.aload_n 0, 1) := by decide +kernel
theorem dn_M_goOn_36 : decode bn_M_goOn 36 = .ok (.getfield 125, 3) := by decide +kernel
theorem dn_M_goOn_39 : decode bn_M_goOn 39 = .ok (.iload_n 2, 1) := by decide +kernel
theorem dn_M_goOn_40 : decode bn_M_goOn 40 = .ok (.iaload, 1) := by decide +kernel
theorem dn_M_goOn_41 : decode bn_M_goOn 41 = .ok (.istore_n 3, 1) := by decide +kernel
theorem dn_M_goOn_42 : decode bn_M_goOn 42 = .ok (.aload_n 0, 1) := by decide +kernel
theorem dn_M_goOn_43 : decode bn_M_goOn 43 = .ok (.getfield 37, 3) := by decide +kernel
theorem dn_M_goOn_46 : decode bn_M_goOn 46 = .ok (.iload_n 3, 1) := by decide +kernel
theorem dn_M_goOn_47 : decode bn_M_goOn 47 = .ok (.iaload, 1) := by decide +kernel
theorem dn_M_goOn_48 : decode bn_M_goOn 48 = .ok (.istore 4, 2) := by decide +kernel
theorem dn_M_goOn_50 : decode bn_M_goOn 50 = .ok (.iload 4, 2) := by decide +kernel
theorem dn_M_goOn_52 : decode bn_M_goOn 52 = .ok (.aload_n 0, 1) := by decide +kernel
theorem dn_M_goOn_53 : decode bn_M_goOn 53 = .ok (.getfield 37, 3) := by decide +kernel
theorem dn_M_goOn_56 : decode bn_M_goOn 56 = .ok (.iload_n 3, 1) := by decide +kernel
theorem dn_M_goOn_57 : decode bn_M_goOn 57 = .ok (.iconst 1, 1) := by decide +kernel
theorem dn_M_goOn_58 : decode bn_M_goOn 58 = .ok (.iadd, 1) := by decide +kernel
theorem dn_M_goOn_59 : decode bn_M_goOn 59 = .ok (.iaload, 1) := by decide +kernel
theorem dn_M_goOn_60 : decode bn_M_goOn 60 = .ok (.if_icmp .ge 28, 3) := by decide +kernel
theorem dn_M_goOn_63 : decode bn_M_goOn 63 = .ok (.aload_n 0, 1) := by decide +kernel
theorem dn_M_goOn_64 : decode bn_M_goOn 64 = .ok (.aload_n 0, 1) := by decide +kernel
theorem dn_M_goOn_65 : decode bn_M_goOn 65 = .ok (.getfield 89, 3) := by decide +kernel
theorem dn_M_goOn_68 : decode bn_M_goOn 68 = .ok (.iload 4, 2) := by decide +kernel
theorem dn_M_goOn_70 : decode bn_M_goOn 70 = .ok (.iaload, 1) := by decide +kernel
theorem dn_M_goOn_71 : decode bn_M_goOn 71 = .ok (.aload_n 0, 1) := by decide +kernel
theorem dn_M_goOn_72 : decode bn_M_goOn 72 = .ok (.getfield 92, 3) := by decide +kernel
theorem dn_M_goOn_75 : decode bn_M_goOn 75 = .ok (.iload 4, 2) := by decide +kernel
theorem dn_M_goOn_77 : decode bn_M_goOn 77 = .ok (.iaload, 1) := by decide +kernel
theorem dn_M_goOn_78 : decode bn_M_goOn 78 = .ok (.iload_n 2, 1) := by decide +kernel
theorem dn_M_goOn_79 : decode bn_M_goOn 79 = .ok (.invokevirtual 602, 3) := by decide +kernel
theorem dn_M_goOn_82 : decode bn_M_goOn 82 = .ok (.iinc 4 1, 3) := by decide +kernel
theorem dn_M_goOn_85 : decode bn_M_goOn 85 = .ok (.goto (-35), 3) := by decide +kernel
theorem dn_M_goOn_88 : decode bn_M_goOn 88 = .ok (.iinc 2 1, 3) := by decide +kernel
theorem dn_M_goOn_91 : decode bn_M_goOn 91 = .ok (.goto (-64), 3) := by decide +kernel
theorem dn_M_goOn_94 : decode bn_M_goOn 94 = .ok (.return_, 1) := by decide +kernel
theorem dn_M_goesOn_0 : decode bn_M_goesOn 0 = .ok (.iload_n 1, 1) := by decide +kernel
theorem dn_M_goesOn_1 : decode bn_M_goesOn 1 = .ok (.aload_n 0, 1) := by decide +kernel
theorem dn_M_goesOn_2 : decode bn_M_goesOn 2 = .ok (.getfield 22, 3) := by decide +kernel
theorem dn_M_goesOn_5 : decode bn_M_goesOn 5 = .ok (.iload_n 2, 1) := by decide +kernel
theorem dn_M_goesOn_6 : decode bn_M_goesOn 6 = .ok (.iaload, 1) := by decide +kernel
theorem dn_M_goesOn_7 : decode bn_M_goesOn 7 = .ok (.iadd, 1) := by decide +kernel
theorem dn_M_goesOn_8 : decode bn_M_goesOn 8 = .ok (.aload_n 0, 1) := by decide +kernel
theorem dn_M_goesOn_9 : decode bn_M_goesOn 9 = .ok (.getfield 19, 3) := by decide +kernel
theorem dn_M_goesOn_12 : decode bn_M_goesOn 12 = .ok (.iload_n 2, 1) := by decide +kernel
theorem dn_M_goesOn_13 : decode bn_M_goesOn 13 = .ok (.iaload, 1) := by decide +kernel
theorem dn_M_goesOn_14 : decode bn_M_goesOn 14 = .ok (.isub, 1) := by decide +kernel
theorem dn_M_goesOn_15 : decode bn_M_goesOn 15 = .ok (.aload_n 0, 1) := by decide +kernel
theorem dn_M_goesOn_16 : decode bn_M_goesOn 16 = .ok (.getfield 536, 3) := by decide +kernel
theorem dn_M_goesOn_19 : decode bn_M_goesOn 19 = .ok (.if_icmp .gt 7, 3) := by decide +kernel
theorem dn_M_goesOn_22 : decode bn_M_goesOn 22 = .ok (.iconst 1, 1) := by decide +kernel
theorem dn_M_goesOn_23 : decode bn_M_goesOn 23 = .ok (.goto 4, 3) := by decide +kernel
theorem dn_M_goesOn_26 : decode bn_M_goesOn 26 = .ok (.iconst 0, 1) := by decide +kernel
theorem dn_M_goesOn_27 : decode bn_M_goesOn 27 = .ok (.istore_n 3, 1) := by decide +kernel
theorem dn_M_goesOn_28 : decode bn_M_goesOn 28 = .ok (.iconst 0, 1) := by decide +kernel
theorem dn_M_goesOn_29 : decode bn_M_goesOn 29 = .ok (.istore 4, 2) := by decide +kernel
theorem dn_M_goesOn_31 : decode bn_M_goesOn 31 = .ok (.iload_n 3, 1) := by decide +kernel
theorem dn_M_goesOn_32 : decode bn_M_goesOn 32 = .ok (.ifCond .eq 59, 3) := by decide +kernel
theorem dn_M_goesOn_35 : decode bn_M_goesOn 35 = .ok (.iload 4, 2) := by decide +kernel
theorem dn_M_goesOn_37 : decode bn_M_goesOn 37 = .ok (.aload_n 0, 1) := by decide +kernel
theorem dn_M_goesOn_38 : decode bn_M_goesOn 38 = .ok (.getfield 22, 3) := by decide +kernel
theorem dn_M_goesOn_41 : decode bn_M_goesOn 41 = .ok (.iload_n 2, 1) := by decide +kernel
theorem dn_M_goesOn_42 : decode bn_M_goesOn 42 = .ok (.iaload, 1) := by decide +kernel
theorem dn_M_goesOn_43 : decode bn_M_goesOn 43 = .ok (.aload_n 0, 1) := by decide +kernel
theorem dn_M_goesOn_44 : decode bn_M_goesOn 44 = .ok (.getfield 19, 3) := by decide +kernel
theorem dn_M_goesOn_47 : decode bn_M_goesOn 47 = .ok (.iload_n 2, 1) := by decide +kernel
theorem dn_M_goesOn_48 : decode bn_M_goesOn 48 = .ok (.iaload, 1) := by decide +kernel
theorem dn_M_goesOn_49 : decode bn_M_goesOn 49 = .ok (.isub, 1) := by decide +kernel
theorem dn_M_goesOn_50 : decode bn_M_goesOn 50 = .ok (.if_icmp .ge 41, 3) := by decide +kernel
theorem dn_M_goesOn_53 : decode bn_M_goesOn 53 = .ok (.aload_n 0, 1) := by decide +kernel
theorem dn_M_goesOn_54 : decode bn_M_goesOn 54 = .ok (.getfield 8, 3) := by decide +kernel
theorem dn_M_goesOn_57 : decode bn_M_goesOn 57 = .ok (.iload_n 1, 1) := by decide +kernel
theorem dn_M_goesOn_58 : decode bn_M_goesOn 58 = .ok (.iload 4, 2) := by decide +kernel
theorem dn_M_goesOn_60 : decode bn_M_goesOn 60 = .ok (.iadd, 1) := by decide +kernel
theorem dn_M_goesOn_61 : decode bn_M_goesOn 61 = .ok (.baload, 1) := by decide +kernel
theorem dn_M_goesOn_62 : decode bn_M_goesOn 62 = .ok (.aload_n 0, 1) := by decide +kernel
theorem dn_M_goesOn_63 : decode bn_M_goesOn 63 = .ok (.getfield 189, 3) := by decide +kernel
theorem dn_M_goesOn_66 : decode bn_M_goesOn 66 = .ok (.aload_n 0, 1) := by decide +kernel
theorem dn_M_goesOn_67 : decode bn_M_goesOn 67 = .ok (.getfield 19, 3) := by decide +kernel
theorem dn_M_goesOn_70 : decode bn_M_goesOn 70 = .ok (.iload_n 2, 1) := by decide +kernel
theorem dn_M_goesOn_71 : decode bn_M_goesOn 71 = .ok (.iaload, 1) := by decide +kernel
theorem dn_M_goesOn_72 : decode bn_M_goesOn 72 = .ok (.iload 4, 2) := by decide +kernel
theorem dn_M_goesOn_74 : decode bn_M_goesOn 74 = .ok (.iadd, 1) := by decide +kernel
theorem dn_M_goesOn_75 : decode bn_M_goesOn 75 = .ok (.baload, 1) := by decide +kernel
theorem dn_M_goesOn_76 : decode bn_M_goesOn 76 = .ok (.if_icmp .ne 7, 3) := by decide +kernel
theorem dn_M_goesOn_79 : decode bn_M_goesOn 79 = .ok (.iconst 1, 1) := by decide +kernel
theorem dn_M_goesOn_80 : decode bn_M_goesOn 80 = .ok (.goto 4, 3) := by decide +kernel
theorem dn_M_goesOn_83 : decode bn_M_goesOn 83 = .ok (.iconst 0, 1) := by decide +kernel
theorem dn_M_goesOn_84 : decode bn_M_goesOn 84 = .ok (.istore_n 3, 1) := by decide +kernel
theorem dn_M_goesOn_85 : decode bn_M_goesOn 85 = .ok (.iinc 4 1, 3) := by decide +kernel
theorem dn_M_goesOn_88 : decode bn_M_goesOn 88 = .ok (.goto (-57), 3) := by decide +kernel
theorem dn_M_goesOn_91 : decode bn_M_goesOn 91 = .ok (.iload_n 3, 1) := by decide +kernel
theorem dn_M_goesOn_92 : decode bn_M_goesOn 92 = .ok (.ireturn, 1) := by decide +kernel
theorem dn_M_here_0 : decode bn_M_here 0 = .ok (.aload_n 0, 1) := by decide +kernel
theorem dn_M_here_1 : decode bn_M_here 1 = .ok (.iload_n 1, 1) := by decide +kernel
theorem dn_M_here_2 : decode bn_M_here 2 = .ok (.aload_n 0, 1) := by decide +kernel
theorem dn_M_here_3 : decode bn_M_here 3 = .ok (.getfield 28, 3) := by decide +kernel
theorem dn_M_here_6 : decode bn_M_here 6 = .ok (.aload_n 0, 1) := by decide +kernel
theorem dn_M_here_7 : decode bn_M_here 7 = .ok (.getfield 336, 3) := by decide +kernel
theorem dn_M_here_10 : decode bn_M_here 10 = .ok (.iaload, 1) := by decide +kernel
theorem dn_M_here_11 : decode bn_M_here 11 = .ok (.aload_n 0, 1) := by decide +kernel
theorem dn_M_here_12 : decode bn_M_here 12 = .ok (.getfield 339, 3) := by decide +kernel
theorem dn_M_here_15 : decode bn_M_here 15 = .ok (.invokevirtual 342, 3) := by decide +kernel
theorem dn_M_here_18 : decode bn_M_here 18 = .ok (.ireturn, 1) := by decide +kernel
theorem dn_M_instance_0 : decode bn_M_instance 0 = .ok (.aload_n 0, 1) := by decide +kernel
theorem dn_M_instance_1 : decode bn_M_instance 1 = .ok (.aload_n 0, 1) := by decide +kernel
theorem dn_M_instance_2 : decode bn_M_instance 2 = .ok (.getfield 263, 3) := by decide +kernel
theorem dn_M_instance_5 : decode bn_M_instance 5 = .ok (.aload_n 0, 1) := by decide +kernel
theorem dn_M_instance_6 : decode bn_M_instance 6 = .ok (.getfield 336, 3) := by decide +kernel
theorem dn_M_instance_9 : decode bn_M_instance 9 = .ok (.invokevirtual 438, 3) := by decide +kernel
theorem dn_M_instance_12 : decode bn_M_instance 12 = .ok (.istore_n 1, 1) := by decide +kernel
theorem dn_M_instance_13 : decode bn_M_instance 13 = .ok (.iload_n 1, 1) := by decide +kernel
theorem dn_M_instance_14 : decode bn_M_instance 14 = .ok (.ifCond .ge 19, 3) := by decide +kernel
theorem dn_M_instance_17 : decode bn_M_instance 17 = .ok (.aload_n 0, 1) := by decide +kernel
theorem dn_M_instance_18 : decode bn_M_instance 18 = .ok (.bipush 22, 2) := by decide +kernel
theorem dn_M_instance_20 : decode bn_M_instance 20 = .ok (.aload_n 0, 1) := by decide +kernel
theorem dn_M_instance_21 : decode bn_M_instance 21 = .ok (.getfield 19, 3) := by decide +kernel
theorem dn_M_instance_24 : decode bn_M_instance 24 = .ok (.aload_n 0, 1) := by decide +kernel
theorem dn_M_instance_25 : decode bn_M_instance 25 = .ok (.getfield 263, 3) := by decide +kernel
theorem dn_M_instance_28 : decode bn_M_instance 28 = .ok (.iaload, 1) := by decide +kernel
theorem dn_M_instance_29 : decode bn_M_instance 29 = .ok (.invokevirtual 266, 3) := by decide +kernel
theorem dn_M_instance_32 : decode bn_M_instance 32 = .ok (.return_, 1) := by decide +kernel
theorem dn_M_instance_33 : decode bn_M_instance 33 = .ok (.aload_n 0, 1) := by decide +kernel
theorem dn_M_instance_34 : decode bn_M_instance 34 = .ok (.dup, 1) := by decide +kernel
theorem dn_M_instance_35 : decode bn_M_instance 35 = .ok (.getfield 263, 3) := by decide +kernel
theorem dn_M_instance_38 : decode bn_M_instance 38 = .ok (.iconst 1, 1) := by decide +kernel
theorem dn_M_instance_39 : decode bn_M_instance 39 = .ok (.iadd, 1) := by decide +kernel
theorem dn_M_instance_40 : decode bn_M_instance 40 = .ok (.putfield 263, 3) := by decide +kernel
theorem dn_M_instance_43 : decode bn_M_instance 43 = .ok (.aload_n 0, 1) := by decide +kernel
theorem dn_M_instance_44 : decode bn_M_instance 44 = .ok (.getfield 263, 3) := by decide +kernel
theorem dn_M_instance_47 : decode bn_M_instance 47 = .ok (.istore_n 2, 1) := by decide +kernel
theorem dn_M_instance_48 : decode bn_M_instance 48 = .ok (.aload_n 0, 1) := by decide +kernel
theorem dn_M_instance_49 : decode bn_M_instance 49 = .ok (.aload_n 0, 1) := by decide +kernel
theorem dn_M_instance_50 : decode bn_M_instance 50 = .ok (.getfield 263, 3) := by decide +kernel
theorem dn_M_instance_53 : decode bn_M_instance 53 = .ok (.invokevirtual 400, 3) := by decide +kernel
theorem dn_M_instance_56 : decode bn_M_instance 56 = .ok (.ifCond .ge 14, 3) := by decide +kernel
theorem dn_M_instance_59 : decode bn_M_instance 59 = .ok (.aload_n 0, 1) := by decide +kernel
theorem dn_M_instance_60 : decode bn_M_instance 60 = .ok (.aload_n 0, 1) := by decide +kernel
theorem dn_M_instance_61 : decode bn_M_instance 61 = .ok (.getfield 263, 3) := by decide +kernel
theorem dn_M_instance_64 : decode bn_M_instance 64 = .ok (.invokevirtual 408, 3) := by decide +kernel
theorem dn_M_instance_67 : decode bn_M_instance 67 = .ok (.ifCond .eq 18, 3) := by decide +kernel
theorem dn_M_instance_70 : decode bn_M_instance 70 = .ok (.aload_n 0, 1) := by decide +kernel
theorem dn_M_instance_71 : decode bn_M_instance 71 = .ok (.bipush 21, 2) := by decide +kernel
theorem dn_M_instance_73 : decode bn_M_instance 73 = .ok (.aload_n 0, 1) := by decide +kernel
theorem dn_M_instance_74 : decode bn_M_instance 74 = .ok (.getfield 19, 3) := by decide +kernel
theorem dn_M_instance_77 : decode bn_M_instance 77 = .ok (.aload_n 0, 1) := by decide +kernel
theorem dn_M_instance_78 : decode bn_M_instance 78 = .ok (.getfield 263, 3) := by decide +kernel
theorem dn_M_instance_81 : decode bn_M_instance 81 = .ok (.iaload, 1) := by decide +kernel
theorem dn_M_instance_82 : decode bn_M_instance 82 = .ok (.invokevirtual 266, 3) := by decide +kernel
theorem dn_M_instance_85 : decode bn_M_instance 85 = .ok (.aload_n 0, 1) := by decide +kernel
theorem dn_M_instance_86 : decode bn_M_instance 86 = .ok (.getfield 65, 3) := by decide +kernel
theorem dn_M_instance_89 : decode bn_M_instance 89 = .ok (.aload_n 0, 1) := by decide +kernel
theorem dn_M_instance_90 : decode bn_M_instance 90 = .ok (.getfield 346, 3) := by decide +kernel
theorem dn_M_instance_93 : decode bn_M_instance 93 = .ok (.iload_n 1, 1) := by decide +kernel
theorem dn_M_instance_94 : decode bn_M_instance 94 = .ok (.iastore, 1) := by decide +kernel
theorem dn_M_instance_95 : decode bn_M_instance 95 = .ok (.aload_n 0, 1) := by decide +kernel
theorem dn_M_instance_96 : decode bn_M_instance 96 = .ok (.getfield 68, 3) := by decide +kernel
theorem dn_M_instance_99 : decode bn_M_instance 99 = .ok (.aload_n 0, 1) := by decide +kernel
theorem dn_M_instance_100 : decode bn_M_instance 100 = .ok (.getfield 346, 3) := by decide +kernel
theorem dn_M_instance_103 : decode bn_M_instance 103 = .ok (.aload_n 0, 1) := by decide +kernel
theorem dn_M_instance_104 : decode bn_M_instance 104 = .ok (.getfield 263, 3) := by decide +kernel
theorem dn_M_instance_107 : decode bn_M_instance 107 = .ok (.iastore, 1) := by decide +kernel
theorem dn_M_instance_108 : decode bn_M_instance 108 = .ok (.aload_n 0, 1) := by decide +kernel
theorem dn_M_instance_109 : decode bn_M_instance 109 = .ok (.getfield 71, 3) := by decide +kernel
theorem dn_M_instance_112 : decode bn_M_instance 112 = .ok (.aload_n 0, 1) := by decide +kernel
theorem dn_M_instance_113 : decode bn_M_instance 113 = .ok (.getfield 346, 3) := by decide +kernel
theorem dn_M_instance_116 : decode bn_M_instance 116 = .ok (.aload_n 0, 1) := by decide +kernel
theorem dn_M_instance_117 : decode bn_M_instance 117 = .ok (.getfield 441, 3) := by decide +kernel
theorem dn_M_instance_120 : decode bn_M_instance 120 = .ok (.iastore, 1) := by decide +kernel
theorem dn_M_instance_121 : decode bn_M_instance 121 = .ok (.aload_n 0, 1) := by decide +kernel
theorem dn_M_instance_122 : decode bn_M_instance 122 = .ok (.aload_n 0, 1) := by decide +kernel
theorem dn_M_instance_123 : decode bn_M_instance 123 = .ok (.getfield 263, 3) := by decide +kernel
theorem dn_M_instance_126 : decode bn_M_instance 126 = .ok (.iconst 2, 1) := by decide +kernel
theorem dn_M_instance_127 : decode bn_M_instance 127 = .ok (.iadd, 1) := by decide +kernel
theorem dn_M_instance_128 : decode bn_M_instance 128 = .ok (.putfield 263, 3) := by decide +kernel
theorem dn_M_instance_131 : decode bn_M_instance 131 = .ok (.aload_n 0, 1) := by decide +kernel
theorem dn_M_instance_132 : decode bn_M_instance 132 = .ok (.bipush 46, 2) := by decide +kernel
theorem dn_M_instance_134 : decode bn_M_instance 134 = .ok (.invokevirtual 273, 3) := by decide +kernel
theorem dn_M_instance_137 : decode bn_M_instance 137 = .ok (.ifCond .eq 37, 3) := by decide +kernel
theorem dn_M_instance_140 : decode bn_M_instance 140 = .ok (.aload_n 0, 1) := by decide +kernel
theorem dn_M_instance_141 : decode bn_M_instance 141 = .ok (.iload_n 1, 1) := by decide +kernel
theorem dn_M_instance_142 : decode bn_M_instance 142 = .ok (.invokevirtual 444, 3) := by decide +kernel
theorem dn_M_instance_145 : decode bn_M_instance 145 = .ok (.aload_n 0, 1) := by decide +kernel
theorem dn_M_instance_146 : decode bn_M_instance 146 = .ok (.aload_n 0, 1) := by decide +kernel
theorem dn_M_instance_147 : decode bn_M_instance 147 = .ok (.invokevirtual 286, 3) := by decide +kernel
theorem dn_M_instance_150 : decode bn_M_instance 150 = .ok (.bipush 44, 2) := by decide +kernel
theorem dn_M_instance_152 : decode bn_M_instance 152 = .ok (.if_icmp .ne 12, 3) := by decide +kernel
theorem dn_M_instance_155 : decode bn_M_instance 155 = .ok (.aload_n 0, 1) := by decide +kernel
theorem dn_M_instance_156 : decode bn_M_instance 156 = .ok (.getfield 263, 3) := by decide +kernel
theorem dn_M_instance_159 : decode bn_M_instance 159 = .ok (.iconst 1, 1) := by decide +kernel
theorem dn_M_instance_160 : decode bn_M_instance 160 = .ok (.iadd, 1) := by decide +kernel
theorem dn_M_instance_161 : decode bn_M_instance 161 = .ok (.goto 7, 3) := by decide +kernel
theorem dn_M_instance_164 : decode bn_M_instance 164 = .ok (.aload_n 0, 1) := by decide +kernel
theorem dn_M_instance_165 : decode bn_M_instance 165 = .ok (.getfield 263, 3) := by decide +kernel
theorem dn_M_instance_168 : decode bn_M_instance 168 = .ok (.putfield 263, 3) := by decide +kernel
theorem dn_M_instance_171 : decode bn_M_instance 171 = .ok (.goto (-40), 3) := by decide +kernel
theorem dn_M_instance_174 : decode bn_M_instance 174 = .ok (.aload_n 0, 1) := by decide +kernel
theorem dn_M_instance_175 : decode bn_M_instance 175 = .ok (.dup, 1) := by decide +kernel
theorem dn_M_instance_176 : decode bn_M_instance 176 = .ok (.getfield 263, 3) := by decide +kernel
theorem dn_M_instance_179 : decode bn_M_instance 179 = .ok (.iconst 1, 1) := by decide +kernel
theorem dn_M_instance_180 : decode bn_M_instance 180 = .ok (.iadd, 1) := by decide +kernel
theorem dn_M_instance_181 : decode bn_M_instance 181 = .ok (.putfield 263, 3) := by decide +kernel
theorem dn_M_instance_184 : decode bn_M_instance 184 = .ok (.aload_n 0, 1) := by decide +kernel
theorem dn_M_instance_185 : decode bn_M_instance 185 = .ok (.getfield 28, 3) := by decide +kernel
theorem dn_M_instance_188 : decode bn_M_instance 188 = .ok (.iload_n 1, 1) := by decide +kernel
theorem dn_M_instance_189 : decode bn_M_instance 189 = .ok (.iaload, 1) := by decide +kernel
theorem dn_M_instance_190 : decode bn_M_instance 190 = .ok (.istore_n 3, 1) := by decide +kernel
theorem dn_M_instance_191 : decode bn_M_instance 191 = .ok (.iload_n 3, 1) := by decide +kernel
theorem dn_M_instance_192 : decode bn_M_instance 192 = .ok (.aload_n 0, 1) := by decide +kernel
theorem dn_M_instance_193 : decode bn_M_instance 193 = .ok (.getfield 28, 3) := by decide +kernel
theorem dn_M_instance_196 : decode bn_M_instance 196 = .ok (.iload_n 1, 1) := by decide +kernel
theorem dn_M_instance_197 : decode bn_M_instance 197 = .ok (.iconst 1, 1) := by decide +kernel
theorem dn_M_instance_198 : decode bn_M_instance 198 = .ok (.iadd, 1) := by decide +kernel
theorem dn_M_instance_199 : decode bn_M_instance 199 = .ok (.iaload, 1) := by decide +kernel
theorem dn_M_instance_200 : decode bn_M_instance 200 = .ok (.if_icmp .ge 54, 3) := by decide +kernel
theorem dn_M_instance_203 : decode bn_M_instance 203 = .ok (.aload_n 0, 1) := by decide +kernel
theorem dn_M_instance_204 : decode bn_M_instance 204 = .ok (.getfield 257, 3) := by decide +kernel
theorem dn_M_instance_207 : decode bn_M_instance 207 = .ok (.ifCond .ne 47, 3) := by decide +kernel
theorem dn_M_instance_210 : decode bn_M_instance 210 = .ok (.aload_n 0, 1) := by decide +kernel
theorem dn_M_instance_211 : decode bn_M_instance 211 = .ok (.getfield 46, 3) := by decide +kernel
theorem dn_M_instance_214 : decode bn_M_instance 214 = .ok (.iload_n 3, 1) := by decide +kernel
theorem dn_M_instance_215 : decode bn_M_instance 215 = .ok (.iaload, 1) := by decide +kernel
theorem dn_M_instance_216 : decode bn_M_instance 216 = .ok (.iconst 3, 1) := by decide +kernel
theorem dn_M_instance_217 : decode bn_M_instance 217 = .ok (.if_icmp .ge 31, 3) := by decide +kernel
theorem dn_M_instance_220 : decode bn_M_instance 220 = .ok (.aload_n 0, 1) := by decide +kernel
theorem dn_M_instance_221 : decode bn_M_instance 221 = .ok (.aload_n 0, 1) := by decide +kernel
theorem dn_M_instance_222 : decode bn_M_instance 222 = .ok (.getfield 346, 3) := by decide +kernel
theorem dn_M_instance_225 : decode bn_M_instance 225 = .ok (.aload_n 0, 1) := by decide +kernel
theorem dn_M_instance_226 : decode bn_M_instance 226 = .ok (.getfield 441, 3) := by decide +kernel
theorem dn_M_instance_229 : decode bn_M_instance 229 = .ok (.iload_n 3, 1) := by decide +kernel
theorem dn_M_instance_230 : decode bn_M_instance 230 = .ok (.invokevirtual 447, 3) := by decide +kernel
theorem dn_M_instance_233 : decode bn_M_instance 233 = .ok (.ifCond .ge 15, 3) := by decide +kernel
theorem dn_M_instance_236 : decode bn_M_instance 236 = .ok (.aload_n 0, 1) := by decide +kernel
theorem dn_M_instance_237 : decode bn_M_instance 237 = .ok (.bipush 24, 2) := by decide +kernel
theorem dn_M_instance_239 : decode bn_M_instance 239 = .ok (.aload_n 0, 1) := by decide +kernel
theorem dn_M_instance_240 : decode bn_M_instance 240 = .ok (.getfield 19, 3) := by decide +kernel
theorem dn_M_instance_243 : decode bn_M_instance 243 = .ok (.iload_n 2, 1) := by decide +kernel
theorem dn_M_instance_244 : decode bn_M_instance 244 = .ok (.iaload, 1) := by decide +kernel
theorem dn_M_instance_245 : decode bn_M_instance 245 = .ok (.invokevirtual 266, 3) := by decide +kernel
theorem dn_M_instance_248 : decode bn_M_instance 248 = .ok (.iinc 3 1, 3) := by decide +kernel
theorem dn_M_instance_251 : decode bn_M_instance 251 = .ok (.goto (-60), 3) := by decide +kernel
theorem dn_M_instance_254 : decode bn_M_instance 254 = .ok (.aload_n 0, 1) := by decide +kernel
theorem dn_M_instance_255 : decode bn_M_instance 255 = .ok (.dup, 1) := by decide +kernel
theorem dn_M_instance_256 : decode bn_M_instance 256 = .ok (.getfield 263, 3) := by decide +kernel
theorem dn_M_instance_259 : decode bn_M_instance 259 = .ok (.iconst 1, 1) := by decide +kernel
theorem dn_M_instance_260 : decode bn_M_instance 260 = .ok (.iadd, 1) := by decide +kernel
theorem dn_M_instance_261 : decode bn_M_instance 261 = .ok (.putfield 263, 3) := by decide +kernel
theorem dn_M_instance_264 : decode bn_M_instance 264 = .ok (.aload_n 0, 1) := by decide +kernel
theorem dn_M_instance_265 : decode bn_M_instance 265 = .ok (.dup, 1) := by decide +kernel
theorem dn_M_instance_266 : decode bn_M_instance 266 = .ok (.getfield 346, 3) := by decide +kernel
theorem dn_M_instance_269 : decode bn_M_instance 269 = .ok (.iconst 1, 1) := by decide +kernel
theorem dn_M_instance_270 : decode bn_M_instance 270 = .ok (.iadd, 1) := by decide +kernel
theorem dn_M_instance_271 : decode bn_M_instance 271 = .ok (.putfield 346, 3) := by decide +kernel
theorem dn_M_instance_274 : decode bn_M_instance 274 = .ok (.aload_n 0, 1) := by decide +kernel
theorem dn_M_instance_275 : decode bn_M_instance 275 = .ok (.getfield 71, 3) := by decide +kernel
theorem dn_M_instance_278 : decode bn_M_instance 278 = .ok (.aload_n 0, 1) := by decide +kernel
theorem dn_M_instance_279 : decode bn_M_instance 279 = .ok (.getfield 346, 3) := by decide +kernel
theorem dn_M_instance_282 : decode bn_M_instance 282 = .ok (.aload_n 0, 1) := by decide +kernel
theorem dn_M_instance_283 : decode bn_M_instance 283 = .ok (.getfield 441, 3) := by decide +kernel
theorem dn_M_instance_286 : decode bn_M_instance 286 = .ok (.iastore, 1) := by decide +kernel
theorem dn_M_instance_287 : decode bn_M_instance 287 = .ok (.return_, 1) := by decide +kernel
theorem dn_M_is_0 : decode bn_M_is 0 = .ok (.aload_n 0, 1) := by decide +kernel
theorem dn_M_is_1 : decode bn_M_is 1 = .ok (.getfield 257, 3) := by decide +kernel
theorem dn_M_is_4 : decode bn_M_is 4 = .ok (.ifCond .ne 20, 3) := by decide +kernel
theorem dn_M_is_7 : decode bn_M_is 7 = .ok (.aload_n 0, 1) := by decide +kernel
theorem dn_M_is_8 : decode bn_M_is 8 = .ok (.getfield 15, 3) := by decide +kernel
theorem dn_M_is_11 : decode bn_M_is 11 = .ok (.aload_n 0, 1) := by decide +kernel
theorem dn_M_is_12 : decode bn_M_is 12 = .ok (.getfield 263, 3) := by decide +kernel
theorem dn_M_is_15 : decode bn_M_is 15 = .ok (.iaload, 1) := by decide +kernel
theorem dn_M_is_16 : decode bn_M_is 16 = .ok (.iload_n 1, 1) := by decide +kernel
theorem dn_M_is_17 : decode bn_M_is 17 = .ok (.if_icmp .ne 7, 3) := by decide +kernel
theorem dn_M_is_20 : decode bn_M_is 20 = .ok (.iconst 1, 1) := by decide +kernel
theorem dn_M_is_21 : decode bn_M_is 21 = .ok (.goto 4, 3) := by decide +kernel
theorem dn_M_is_24 : decode bn_M_is 24 = .ok (.iconst 0, 1) := by decide +kernel
theorem dn_M_is_25 : decode bn_M_is 25 = .ok (.ireturn, 1) := by decide +kernel
theorem dn_M_isDigit_0 : decode bn_M_isDigit 0 = .ok (.iload_n 0, 1) := by decide +kernel
theorem dn_M_isDigit_1 : decode bn_M_isDigit 1 = .ok (.bipush 48, 2) := by decide +kernel
theorem dn_M_isDigit_3 : decode bn_M_isDigit 3 = .ok (.if_icmp .lt 13, 3) := by decide +kernel
theorem dn_M_isDigit_6 : decode bn_M_isDigit 6 = .ok (.iload_n 0, 1) := by decide +kernel
theorem dn_M_isDigit_7 : decode bn_M_isDigit 7 = .ok (.bipush 57, 2) := by decide +kernel
theorem dn_M_isDigit_9 : decode bn_M_isDigit 9 = .ok (.if_icmp .gt 7, 3) := by decide +kernel
theorem dn_M_isDigit_12 : decode bn_M_isDigit 12 = .ok (.iconst 1, 1) := by decide +kernel
theorem dn_M_isDigit_13 : decode bn_M_isDigit 13 = .ok (.goto 4, 3) := by decide +kernel
theorem dn_M_isDigit_16 : decode bn_M_isDigit 16 = .ok (.iconst 0, 1) := by decide +kernel
theorem dn_M_isDigit_17 : decode bn_M_isDigit 17 = .ok (.ireturn, 1) := by decide +kernel
theorem dn_M_isDriven_0 : decode bn_M_isDriven 0 = .ok (.aload_n 0, 1) := by decide +kernel
theorem dn_M_isDriven_1 : decode bn_M_isDriven 1 = .ok (.getfield 46, 3) := by decide +kernel
theorem dn_M_isDriven_4 : decode bn_M_isDriven 4 = .ok (.iload_n 1, 1) := by decide +kernel
theorem dn_M_isDriven_5 : decode bn_M_isDriven 5 = .ok (.iaload, 1) := by decide +kernel
theorem dn_M_isDriven_6 : decode bn_M_isDriven 6 = .ok (.iconst 1, 1) := by decide +kernel
theorem dn_M_isDriven_7 : decode bn_M_isDriven 7 = .ok (.if_icmp .eq 13, 3) := by decide +kernel
theorem dn_M_isDriven_10 : decode bn_M_isDriven 10 = .ok (.aload_n 0, 1) := by decide +kernel
theorem dn_M_isDriven_11 : decode bn_M_isDriven 11 = .ok (.getfield 46, 3) := by decide +kernel
theorem dn_M_isDriven_14 : decode bn_M_isDriven 14 = .ok (.iload_n 1, 1) := by decide +kernel
theorem dn_M_isDriven_15 : decode bn_M_isDriven 15 = .ok (.iaload, 1) := by decide +kernel
theorem dn_M_isDriven_16 : decode bn_M_isDriven 16 = .ok (.iconst 3, 1) := by decide +kernel
theorem dn_M_isDriven_17 : decode bn_M_isDriven 17 = .ok (.if_icmp .ne 7, 3) := by decide +kernel
theorem dn_M_isDriven_20 : decode bn_M_isDriven 20 = .ok (.iconst 1, 1) := by decide +kernel
theorem dn_M_isDriven_21 : decode bn_M_isDriven 21 = .ok (.goto 4, 3) := by decide +kernel
theorem dn_M_isDriven_24 : decode bn_M_isDriven 24 = .ok (.iconst 0, 1) := by decide +kernel
theorem dn_M_isDriven_25 : decode bn_M_isDriven 25 = .ok (.ireturn, 1) := by decide +kernel
theorem dn_M_isIn_0 : decode bn_M_isIn 0 = .ok (.iload_n 0, 1) := by decide +kernel
theorem dn_M_isIn_1 : decode bn_M_isIn 1 = .ok (.invokestatic 199, 3) := by decide +kernel
theorem dn_M_isIn_4 : decode bn_M_isIn 4 = .ok (.ifCond .ne 16, 3) := by decide +kernel
theorem dn_M_isIn_7 : decode bn_M_isIn 7 = .ok (.iload_n 0, 1) := by decide +kernel
theorem dn_M_isIn_8 : decode bn_M_isIn 8 = .ok (.invokestatic 203, 3) := by decide +kernel
theorem dn_M_isIn_11 : decode bn_M_isIn 11 = .ok (.ifCond .ne 9, 3) := by decide +kernel
theorem dn_M_isIn_14 : decode bn_M_isIn 14 = .ok (.iload_n 0, 1) := by decide +kernel
theorem dn_M_isIn_15 : decode bn_M_isIn 15 = .ok (.bipush 36, 2) := by decide +kernel
theorem dn_M_isIn_17 : decode bn_M_isIn 17 = .ok (.if_icmp .ne 7, 3) := by decide +kernel
theorem dn_M_isIn_20 : decode bn_M_isIn 20 = .ok (.iconst 1, 1) := by decide +kernel
theorem dn_M_isIn_21 : decode bn_M_isIn 21 = .ok (.goto 4, 3) := by decide +kernel
theorem dn_M_isIn_24 : decode bn_M_isIn 24 = .ok (.iconst 0, 1) := by decide +kernel
theorem dn_M_isIn_25 : decode bn_M_isIn 25 = .ok (.ireturn, 1) := by decide +kernel
theorem dn_M_isInstanceName_0 : decode bn_M_isInstanceName 0 = .ok (.iconst 0, 1) := by decide +kernel
theorem dn_M_isInstanceName_1 : decode bn_M_isInstanceName 1 = .ok (.istore_n 2, 1) := by decide +kernel
theorem dn_M_isInstanceName_2 : decode bn_M_isInstanceName 2 = .ok (.aload_n 0, 1) := by decide +kernel
theorem dn_M_isInstanceName_3 : decode bn_M_isInstanceName 3 = .ok (.getfield 31, 3) := by decide +kernel
theorem dn_M_isInstanceName_6 : decode bn_M_isInstanceName 6 = .ok (.aload_n 0, 1) := by decide +kernel
theorem dn_M_isInstanceName_7 : decode bn_M_isInstanceName 7 = .ok (.getfield 336, 3) := by decide +kernel
theorem dn_M_isInstanceName_10 : decode bn_M_isInstanceName 10 = .ok (.iaload, 1) := by decide +kernel
theorem dn_M_isInstanceName_11 : decode bn_M_isInstanceName 11 = .ok (.istore_n 3, 1) := by decide +kernel
theorem dn_M_isInstanceName_12 : decode bn_M_isInstanceName 12 = .ok (.iload_n 3, 1) := by decide +kernel
theorem dn_M_isInstanceName_13 : decode bn_M_isInstanceName 13 = .ok (.aload_n 0, 1) := by decide +kernel
theorem dn_M_isInstanceName_14 : decode bn_M_isInstanceName 14 = .ok (.getfield 346, 3) := by decide +kernel
theorem dn_M_isInstanceName_17 : decode bn_M_isInstanceName 17 = .ok (.if_icmp .ge 33, 3) := by decide +kernel
theorem dn_M_isInstanceName_20 : decode bn_M_isInstanceName 20 = .ok (.iload_n 2, 1) := by decide +kernel
theorem dn_M_isInstanceName_21 : decode bn_M_isInstanceName 21 = .ok (.ifCond .ne 17, 3) := by decide +kernel
theorem dn_M_isInstanceName_24 : decode bn_M_isInstanceName 24 = .ok (.aload_n 0, 1) := by decide +kernel
theorem dn_M_isInstanceName_25 : decode bn_M_isInstanceName 25 = .ok (.aload_n 0, 1) := by decide +kernel
theorem dn_M_isInstanceName_26 : decode bn_M_isInstanceName 26 = .ok (.getfield 68, 3) := by decide +kernel
theorem dn_M_isInstanceName_29 : decode bn_M_isInstanceName 29 = .ok (.iload_n 3, 1) := by decide +kernel
theorem dn_M_isInstanceName_30 : decode bn_M_isInstanceName 30 = .ok (.iaload, 1) := by decide +kernel
theorem dn_M_isInstanceName_31 : decode bn_M_isInstanceName 31 = .ok (.iload_n 1, 1) := by decide +kernel
theorem dn_M_isInstanceName_32 : decode bn_M_isInstanceName 32 = .ok (.invokevirtual 332, 3) := by decide +kernel
theorem dn_M_isInstanceName_35 : decode bn_M_isInstanceName 35 = .ok (.ifCond .eq 7, 3) := by decide +kernel
theorem dn_M_isInstanceName_38 : decode bn_M_isInstanceName 38 = .ok (.iconst 1, 1) := by decide +kernel
theorem dn_M_isInstanceName_39 : decode bn_M_isInstanceName 39 = .ok (.goto 4, 3) := by decide +kernel
theorem dn_M_isInstanceName_42 : decode bn_M_isInstanceName 42 = .ok (.iconst 0, 1) := by decide +kernel
theorem dn_M_isInstanceName_43 : decode bn_M_isInstanceName 43 = .ok (.istore_n 2, 1) := by decide +kernel
theorem dn_M_isInstanceName_44 : decode bn_M_isInstanceName 44 = .ok (.iinc 3 1, 3) := by decide +kernel
theorem dn_M_isInstanceName_47 : decode bn_M_isInstanceName 47 = .ok (.goto (-35), 3) := by decide +kernel
theorem dn_M_isInstanceName_50 : decode bn_M_isInstanceName 50 = .ok (.iload_n 2, 1) := by decide +kernel
theorem dn_M_isInstanceName_51 : decode bn_M_isInstanceName 51 = .ok (.ireturn, 1) := by decide +kernel
theorem dn_M_isLetter_0 : decode bn_M_isLetter 0 = .ok (.iload_n 0, 1) := by decide +kernel
theorem dn_M_isLetter_1 : decode bn_M_isLetter 1 = .ok (.bipush 97, 2) := by decide +kernel
theorem dn_M_isLetter_3 : decode bn_M_isLetter 3 = .ok (.if_icmp .lt 9, 3) := by decide +kernel
theorem dn_M_isLetter_6 : decode bn_M_isLetter 6 = .ok (.iload_n 0, 1) := by decide +kernel
theorem dn_M_isLetter_7 : decode bn_M_isLetter 7 = .ok (.bipush 122, 2) := by decide +kernel
theorem dn_M_isLetter_9 : decode bn_M_isLetter 9 = .ok (.if_icmp .le 21, 3) := by decide +kernel
theorem dn_M_isLetter_12 : decode bn_M_isLetter 12 = .ok (.iload_n 0, 1) := by decide +kernel
theorem dn_M_isLetter_13 : decode bn_M_isLetter 13 = .ok (.bipush 65, 2) := by decide +kernel
theorem dn_M_isLetter_15 : decode bn_M_isLetter 15 = .ok (.if_icmp .lt 9, 3) := by decide +kernel
theorem dn_M_isLetter_18 : decode bn_M_isLetter 18 = .ok (.iload_n 0, 1) := by decide +kernel
theorem dn_M_isLetter_19 : decode bn_M_isLetter 19 = .ok (.bipush 90, 2) := by decide +kernel
theorem dn_M_isLetter_21 : decode bn_M_isLetter 21 = .ok (.if_icmp .le 9, 3) := by decide +kernel
theorem dn_M_isLetter_24 : decode bn_M_isLetter 24 = .ok (.iload_n 0, 1) := by decide +kernel
theorem dn_M_isLetter_25 : decode bn_M_isLetter 25 = .ok (.bipush 95, 2) := by decide +kernel
theorem dn_M_isLetter_27 : decode bn_M_isLetter 27 = .ok (.if_icmp .ne 7, 3) := by decide +kernel
theorem dn_M_isLetter_30 : decode bn_M_isLetter 30 = .ok (.iconst 1, 1) := by decide +kernel
theorem dn_M_isLetter_31 : decode bn_M_isLetter 31 = .ok (.goto 4, 3) := by decide +kernel
theorem dn_M_isLetter_34 : decode bn_M_isLetter 34 = .ok (.iconst 0, 1) := by decide +kernel
theorem dn_M_isLetter_35 : decode bn_M_isLetter 35 = .ok (.ireturn, 1) := by decide +kernel
theorem dn_M_isNamed_0 : decode bn_M_isNamed 0 = .ok (.iconst 0, 1) := by decide +kernel
theorem dn_M_isNamed_1 : decode bn_M_isNamed 1 = .ok (.istore_n 2, 1) := by decide +kernel
theorem dn_M_isNamed_2 : decode bn_M_isNamed 2 = .ok (.aload_n 0, 1) := by decide +kernel
theorem dn_M_isNamed_3 : decode bn_M_isNamed 3 = .ok (.getfield 146, 3) := by decide +kernel
theorem dn_M_isNamed_6 : decode bn_M_isNamed 6 = .ok (.iload_n 1, 1) := by decide +kernel
theorem dn_M_isNamed_7 : decode bn_M_isNamed 7 = .ok (.iaload, 1) := by decide +kernel
theorem dn_M_isNamed_8 : decode bn_M_isNamed 8 = .ok (.istore_n 3, 1) := by decide +kernel
theorem dn_M_isNamed_9 : decode bn_M_isNamed 9 = .ok (.iload_n 3, 1) := by decide +kernel
theorem dn_M_isNamed_10 : decode bn_M_isNamed 10 = .ok (.ifCond .le 28, 3) := by decide +kernel
theorem dn_M_isNamed_13 : decode bn_M_isNamed 13 = .ok (.aload_n 0, 1) := by decide +kernel
theorem dn_M_isNamed_14 : decode bn_M_isNamed 14 = .ok (.getfield 171, 3) := by decide +kernel
theorem dn_M_isNamed_17 : decode bn_M_isNamed 17 = .ok (.iload_n 2, 1) := by decide +kernel
theorem dn_M_isNamed_18 : decode bn_M_isNamed 18 = .ok (.aload_n 0, 1) := by decide +kernel
theorem dn_M_isNamed_19 : decode bn_M_isNamed 19 = .ok (.getfield 134, 3) := by decide +kernel
theorem dn_M_isNamed_22 : decode bn_M_isNamed 22 = .ok (.iload_n 3, 1) := by decide +kernel
theorem dn_M_isNamed_23 : decode bn_M_isNamed 23 = .ok (.iaload, 1) := by decide +kernel
theorem dn_M_isNamed_24 : decode bn_M_isNamed 24 = .ok (.iastore, 1) := by decide +kernel
theorem dn_M_isNamed_25 : decode bn_M_isNamed 25 = .ok (.iinc 2 1, 3) := by decide +kernel
theorem dn_M_isNamed_28 : decode bn_M_isNamed 28 = .ok (.aload_n 0, 1) := by decide +kernel
theorem dn_M_isNamed_29 : decode bn_M_isNamed 29 = .ok (.getfield 131, 3) := by decide +kernel
theorem dn_M_isNamed_32 : decode bn_M_isNamed 32 = .ok (.iload_n 3, 1) := by decide +kernel
theorem dn_M_isNamed_33 : decode bn_M_isNamed 33 = .ok (.iaload, 1) := by decide +kernel
theorem dn_M_isNamed_34 : decode bn_M_isNamed 34 = .ok (.istore_n 3, 1) := by decide +kernel
theorem dn_M_isNamed_35 : decode bn_M_isNamed 35 = .ok (.goto (-26), 3) := by decide +kernel
theorem dn_M_isNamed_38 : decode bn_M_isNamed 38 = .ok (.iconst 0, 1) := by decide +kernel
theorem dn_M_isNamed_39 : decode bn_M_isNamed 39 = .ok (.istore 4, 2) := by decide +kernel
theorem dn_M_isNamed_41 : decode bn_M_isNamed 41 = .ok (.iconst 1, 1) := by decide +kernel
theorem dn_M_isNamed_42 : decode bn_M_isNamed 42 = .ok (.istore 5, 2) := by decide +kernel
theorem dn_M_isNamed_44 : decode bn_M_isNamed 44 = .ok (.iload_n 2, 1) := by decide +kernel
theorem dn_M_isNamed_45 : decode bn_M_isNamed 45 = .ok (.iconst 1, 1) := by decide +kernel
theorem dn_M_isNamed_46 : decode bn_M_isNamed 46 = .ok (.isub, 1) := by decide +kernel
theorem dn_M_isNamed_47 : decode bn_M_isNamed 47 = .ok (.istore 6, 2) := by decide +kernel
theorem dn_M_isNamed_49 : decode bn_M_isNamed 49 = .ok (.iload 6, 2) := by decide +kernel
theorem dn_M_isNamed_51 : decode bn_M_isNamed 51 = .ok (.ifCond .lt 94, 3) := by decide +kernel
theorem dn_M_isNamed_54 : decode bn_M_isNamed 54 = .ok (.iload 5, 2) := by decide +kernel
theorem dn_M_isNamed_56 : decode bn_M_isNamed 56 = .ok (.ifCond .eq 89, 3) := by decide +kernel
theorem dn_M_isNamed_59 : decode bn_M_isNamed 59 = .ok (.aload_n 0, 1) := by decide +kernel
theorem dn_M_isNamed_60 : decode bn_M_isNamed 60 = .ok (.getfield 68, 3) := by decide +kernel
theorem dn_M_isNamed_63 : decode bn_M_isNamed 63 = .ok (.aload_n 0, 1) := by decide +kernel
theorem dn_M_isNamed_64 : decode bn_M_isNamed 64 = .ok (.getfield 171, 3) := by decide +kernel
theorem dn_M_isNamed_67 : decode bn_M_isNamed 67 = .ok (.iload 6, 2) := by decide +kernel
theorem dn_M_isNamed_69 : decode bn_M_isNamed 69 = .ok (.iaload, 1) := by decide +kernel
theorem dn_M_isNamed_70 : decode bn_M_isNamed 70 = .ok (.iaload, 1) := by decide +kernel
theorem dn_M_isNamed_71 : decode bn_M_isNamed 71 = .ok (.istore 7, 2) := by decide +kernel
theorem dn_M_isNamed_73 : decode bn_M_isNamed 73 = .ok (.aload_n 0, 1) := by decide +kernel
theorem dn_M_isNamed_74 : decode bn_M_isNamed 74 = .ok (.iload 4, 2) := by decide +kernel
theorem dn_M_isNamed_76 : decode bn_M_isNamed 76 = .ok (.iload 7, 2) := by decide +kernel
theorem dn_M_isNamed_78 : decode bn_M_isNamed 78 = .ok (.invokevirtual 612, 3) := by decide +kernel
theorem dn_M_isNamed_81 : decode bn_M_isNamed 81 = .ok (.istore 5, 2) := by decide +kernel
theorem dn_M_isNamed_83 : decode bn_M_isNamed 83 = .ok (.iload 4, 2) := by decide +kernel
theorem dn_M_isNamed_85 : decode bn_M_isNamed 85 = .ok (.aload_n 0, 1) := by decide +kernel
theorem dn_M_isNamed_86 : decode bn_M_isNamed 86 = .ok (.getfield 22, 3) := by decide +kernel
theorem dn_M_isNamed_89 : decode bn_M_isNamed 89 = .ok (.iload 7, 2) := by decide +kernel
theorem dn_M_isNamed_91 : decode bn_M_isNamed 91 = .ok (.iaload, 1) := by decide +kernel
theorem dn_M_isNamed_92 : decode bn_M_isNamed 92 = .ok (.iadd, 1) := by decide +kernel
theorem dn_M_isNamed_93 : decode bn_M_isNamed 93 = .ok (.aload_n 0, 1) := by decide +kernel
theorem dn_M_isNamed_94 : decode bn_M_isNamed 94 = .ok (.getfield 19, 3) := by decide +kernel
theorem dn_M_isNamed_97 : decode bn_M_isNamed 97 = .ok (.iload 7, 2) := by decide +kernel
theorem dn_M_isNamed_99 : decode bn_M_isNamed 99 = .ok (.iaload, 1) := by decide +kernel
theorem dn_M_isNamed_100 : decode bn_M_isNamed 100 = .ok (.isub, 1) := by decide +kernel
theorem dn_M_isNamed_101 : decode bn_M_isNamed 101 = .ok (.istore 4, 2) := by decide +kernel
theorem dn_M_isNamed_103 : decode bn_M_isNamed 103 = .ok (.iload 5, 2) := by decide +kernel
theorem dn_M_isNamed_105 : decode bn_M_isNamed 105 = .ok (.ifCond .eq 28, 3) := by decide +kernel
theorem dn_M_isNamed_108 : decode bn_M_isNamed 108 = .ok (.iload 4, 2) := by decide +kernel
theorem dn_M_isNamed_110 : decode bn_M_isNamed 110 = .ok (.aload_n 0, 1) := by decide +kernel
theorem dn_M_isNamed_111 : decode bn_M_isNamed 111 = .ok (.getfield 536, 3) := by decide +kernel
theorem dn_M_isNamed_114 : decode bn_M_isNamed 114 = .ok (.if_icmp .ge 19, 3) := by decide +kernel
theorem dn_M_isNamed_117 : decode bn_M_isNamed 117 = .ok (.aload_n 0, 1) := by decide +kernel
theorem dn_M_isNamed_118 : decode bn_M_isNamed 118 = .ok (.getfield 8, 3) := by decide +kernel
theorem dn_M_isNamed_121 : decode bn_M_isNamed 121 = .ok (.iload 4, 2) := by decide +kernel
theorem dn_M_isNamed_123 : decode bn_M_isNamed 123 = .ok (.baload, 1) := by decide +kernel
theorem dn_M_isNamed_124 : decode bn_M_isNamed 124 = .ok (.bipush 46, 2) := by decide +kernel
theorem dn_M_isNamed_126 : decode bn_M_isNamed 126 = .ok (.if_icmp .ne 7, 3) := by decide +kernel
theorem dn_M_isNamed_129 : decode bn_M_isNamed 129 = .ok (.iconst 1, 1) := by decide +kernel
theorem dn_M_isNamed_130 : decode bn_M_isNamed 130 = .ok (.goto 4, 3) := by decide +kernel
theorem dn_M_isNamed_133 : decode bn_M_isNamed 133 = .ok (.iconst 0, 1) := by decide +kernel
theorem dn_M_isNamed_134 : decode bn_M_isNamed 134 = .ok (.istore 5, 2) := by decide +kernel
theorem dn_M_isNamed_136 : decode bn_M_isNamed 136 = .ok (.iinc 4 1, 3) := by decide +kernel
theorem dn_M_isNamed_139 : decode bn_M_isNamed 139 = .ok (.iinc 6 (-1), 3) := by decide +kernel
theorem dn_M_isNamed_142 : decode bn_M_isNamed 142 = .ok (.goto (-93), 3) := by decide +kernel
theorem dn_M_isNamed_145 : decode bn_M_isNamed 145 = .ok (.aload_n 0, 1) := by decide +kernel
theorem dn_M_isNamed_146 : decode bn_M_isNamed 146 = .ok (.getfield 40, 3) := by decide +kernel
theorem dn_M_isNamed_149 : decode bn_M_isNamed 149 = .ok (.aload_n 0, 1) := by decide +kernel
theorem dn_M_isNamed_150 : decode bn_M_isNamed 150 = .ok (.getfield 143, 3) := by decide +kernel
theorem dn_M_isNamed_153 : decode bn_M_isNamed 153 = .ok (.iload_n 1, 1) := by decide +kernel
theorem dn_M_isNamed_154 : decode bn_M_isNamed 154 = .ok (.iaload, 1) := by decide +kernel
theorem dn_M_isNamed_155 : decode bn_M_isNamed 155 = .ok (.iaload, 1) := by decide +kernel
theorem dn_M_isNamed_156 : decode bn_M_isNamed 156 = .ok (.istore 6, 2) := by decide +kernel
theorem dn_M_isNamed_158 : decode bn_M_isNamed 158 = .ok (.iload 5, 2) := by decide +kernel
theorem dn_M_isNamed_160 : decode bn_M_isNamed 160 = .ok (.ifCond .eq 43, 3) := by decide +kernel
theorem dn_M_isNamed_163 : decode bn_M_isNamed 163 = .ok (.aload_n 0, 1) := by decide +kernel
theorem dn_M_isNamed_164 : decode bn_M_isNamed 164 = .ok (.iload 4, 2) := by decide +kernel
theorem dn_M_isNamed_166 : decode bn_M_isNamed 166 = .ok (.iload 6, 2) := by decide +kernel
theorem dn_M_isNamed_168 : decode bn_M_isNamed 168 = .ok (.invokevirtual 612, 3) := by decide +kernel
theorem dn_M_isNamed_171 : decode bn_M_isNamed 171 = .ok (.ifCond .eq 32, 3) := by decide +kernel
theorem dn_M_isNamed_174 : decode bn_M_isNamed 174 = .ok (.iload 4, 2) := by decide +kernel
theorem dn_M_isNamed_176 : decode bn_M_isNamed 176 = .ok (.aload_n 0, 1) := by decide +kernel
theorem dn_M_isNamed_177 : decode bn_M_isNamed 177 = .ok (.getfield 22, 3) := by decide +kernel
theorem dn_M_isNamed_180 : decode bn_M_isNamed 180 = .ok (.iload 6, 2) := by decide +kernel
theorem dn_M_isNamed_182 : decode bn_M_isNamed 182 = .ok (.iaload, 1) := by decide +kernel
theorem dn_M_isNamed_183 : decode bn_M_isNamed 183 = .ok (.iadd, 1) := by decide +kernel
theorem dn_M_isNamed_184 : decode bn_M_isNamed 184 = .ok (.aload_n 0, 1) := by decide +kernel
theorem dn_M_isNamed_185 : decode bn_M_isNamed 185 = .ok (.getfield 19, 3) := by decide +kernel
theorem dn_M_isNamed_188 : decode bn_M_isNamed 188 = .ok (.iload 6, 2) := by decide +kernel
theorem dn_M_isNamed_190 : decode bn_M_isNamed 190 = .ok (.iaload, 1) := by decide +kernel
theorem dn_M_isNamed_191 : decode bn_M_isNamed 191 = .ok (.isub, 1) := by decide +kernel
theorem dn_M_isNamed_192 : decode bn_M_isNamed 192 = .ok (.aload_n 0, 1) := by decide +kernel
theorem dn_M_isNamed_193 : decode bn_M_isNamed 193 = .ok (.getfield 536, 3) := by decide +kernel
theorem dn_M_isNamed_196 : decode bn_M_isNamed 196 = .ok (.if_icmp .ne 7, 3) := by decide +kernel
theorem dn_M_isNamed_199 : decode bn_M_isNamed 199 = .ok (.iconst 1, 1) := by decide +kernel
theorem dn_M_isNamed_200 : decode bn_M_isNamed 200 = .ok (.goto 4, 3) := by decide +kernel
theorem dn_M_isNamed_203 : decode bn_M_isNamed 203 = .ok (.iconst 0, 1) := by decide +kernel
theorem dn_M_isNamed_204 : decode bn_M_isNamed 204 = .ok (.ireturn, 1) := by decide +kernel
theorem dn_M_isRegister_0 : decode bn_M_isRegister 0 = .ok (.aload_n 0, 1) := by decide +kernel
theorem dn_M_isRegister_1 : decode bn_M_isRegister 1 = .ok (.getfield 46, 3) := by decide +kernel
theorem dn_M_isRegister_4 : decode bn_M_isRegister 4 = .ok (.iload_n 1, 1) := by decide +kernel
theorem dn_M_isRegister_5 : decode bn_M_isRegister 5 = .ok (.iaload, 1) := by decide +kernel
theorem dn_M_isRegister_6 : decode bn_M_isRegister 6 = .ok (.iconst 2, 1) := by decide +kernel
theorem dn_M_isRegister_7 : decode bn_M_isRegister 7 = .ok (.if_icmp .eq 13, 3) := by decide +kernel
theorem dn_M_isRegister_10 : decode bn_M_isRegister 10 = .ok (.aload_n 0, 1) := by decide +kernel
theorem dn_M_isRegister_11 : decode bn_M_isRegister 11 = .ok (.getfield 46, 3) := by decide +kernel
theorem dn_M_isRegister_14 : decode bn_M_isRegister 14 = .ok (.iload_n 1, 1) := by decide +kernel
theorem dn_M_isRegister_15 : decode bn_M_isRegister 15 = .ok (.iaload, 1) := by decide +kernel
theorem dn_M_isRegister_16 : decode bn_M_isRegister 16 = .ok (.iconst 4, 1) := by decide +kernel
theorem dn_M_isRegister_17 : decode bn_M_isRegister 17 = .ok (.if_icmp .ne 7, 3) := by decide +kernel
theorem dn_M_isRegister_20 : decode bn_M_isRegister 20 = .ok (.iconst 1, 1) := by decide +kernel
theorem dn_M_isRegister_21 : decode bn_M_isRegister 21 = .ok (.goto 4, 3) := by decide +kernel
theorem dn_M_isRegister_24 : decode bn_M_isRegister 24 = .ok (.iconst 0, 1) := by decide +kernel
theorem dn_M_isRegister_25 : decode bn_M_isRegister 25 = .ok (.ireturn, 1) := by decide +kernel
theorem dn_M_isSign_0 : decode bn_M_isSign 0 = .ok (.iload_n 0, 1) := by decide +kernel
theorem dn_M_isSign_1 : decode bn_M_isSign 1 = .ok (.tableswitch 393 33 126 #[391, 393, 393, 393, 393, 391, 393, 391, 391, 391, 391, 391, 391, 391, 393, 393, 393, 393, 393, 393, 393, 393, 393, 393, 393, 391, 391, 391, 391, 391, 391, 391, 393, 393, 393, 393, 393, 393, 393, 393, 393, 393, 393, 393, 393, 393, 393, 393, 393, 393, 393, 393, 393, 393, 393, 393, 393, 393, 391, 393, 391, 391, 393, 393, 393, 393, 393, 393, 393, 393, 393, 393, 393, 393, 393, 393, 393, 393, 393, 393, 393, 393, 393, 393, 393, 393, 393, 393, 393, 393, 391, 391, 391, 391], 391) := by decide +kernel
theorem dn_M_isSign_392 : decode bn_M_isSign 392 = .ok (.iconst 1, 1) := by decide +kernel
theorem dn_M_isSign_393 : decode bn_M_isSign 393 = .ok (.ireturn, 1) := by decide +kernel
theorem dn_M_isSign_394 : decode bn_M_isSign 394 = .ok (.iconst 0, 1) := by decide +kernel
theorem dn_M_isSign_395 : decode bn_M_isSign 395 = .ok (.ireturn, 1) := by decide +kernel
theorem dn_M_isSignal_0 : decode bn_M_isSignal 0 = .ok (.iload_n 1, 1) := by decide +kernel
theorem dn_M_isSignal_1 : decode bn_M_isSignal 1 = .ok (.ifCond .lt 15, 3) := by decide +kernel
theorem dn_M_isSignal_4 : decode bn_M_isSignal 4 = .ok (.iload_n 1, 1) := by decide +kernel
theorem dn_M_isSignal_5 : decode bn_M_isSignal 5 = .ok (.aload_n 0, 1) := by decide +kernel
theorem dn_M_isSignal_6 : decode bn_M_isSignal 6 = .ok (.getfield 497, 3) := by decide +kernel
theorem dn_M_isSignal_9 : decode bn_M_isSignal 9 = .ok (.if_icmp .ge 7, 3) := by decide +kernel
theorem dn_M_isSignal_12 : decode bn_M_isSignal 12 = .ok (.iconst 1, 1) := by decide +kernel
theorem dn_M_isSignal_13 : decode bn_M_isSignal 13 = .ok (.goto 4, 3) := by decide +kernel
theorem dn_M_isSignal_16 : decode bn_M_isSignal 16 = .ok (.iconst 0, 1) := by decide +kernel
theorem dn_M_isSignal_17 : decode bn_M_isSignal 17 = .ok (.ireturn, 1) := by decide +kernel
theorem dn_M_isUnary_0 : decode bn_M_isUnary 0 = .ok (.iload_n 0, 1) := by decide +kernel
theorem dn_M_isUnary_1 : decode bn_M_isUnary 1 = .ok (.bipush 126, 2) := by decide +kernel
theorem dn_M_isUnary_3 : decode bn_M_isUnary 3 = .ok (.if_icmp .eq 33, 3) := by decide +kernel
theorem dn_M_isUnary_6 : decode bn_M_isUnary 6 = .ok (.iload_n 0, 1) := by decide +kernel
theorem dn_M_isUnary_7 : decode bn_M_isUnary 7 = .ok (.bipush 33, 2) := by decide +kernel
theorem dn_M_isUnary_9 : decode bn_M_isUnary 9 = .ok (.if_icmp .eq 27, 3) := by decide +kernel
theorem dn_M_isUnary_12 : decode bn_M_isUnary 12 = .ok (.iload_n 0, 1) := by decide +kernel
theorem dn_M_isUnary_13 : decode bn_M_isUnary 13 = .ok (.bipush 45, 2) := by decide +kernel
theorem dn_M_isUnary_15 : decode bn_M_isUnary 15 = .ok (.if_icmp .eq 21, 3) := by decide +kernel
theorem dn_M_isUnary_18 : decode bn_M_isUnary 18 = .ok (.iload_n 0, 1) := by decide +kernel
theorem dn_M_isUnary_19 : decode bn_M_isUnary 19 = .ok (.bipush 38, 2) := by decide +kernel
theorem dn_M_isUnary_21 : decode bn_M_isUnary 21 = .ok (.if_icmp .eq 15, 3) := by decide +kernel
theorem dn_M_isUnary_24 : decode bn_M_isUnary 24 = .ok (.iload_n 0, 1) := by decide +kernel
theorem dn_M_isUnary_25 : decode bn_M_isUnary 25 = .ok (.bipush 124, 2) := by decide +kernel
theorem dn_M_isUnary_27 : decode bn_M_isUnary 27 = .ok (.if_icmp .eq 9, 3) := by decide +kernel
theorem dn_M_isUnary_30 : decode bn_M_isUnary 30 = .ok (.iload_n 0, 1) := by decide +kernel
theorem dn_M_isUnary_31 : decode bn_M_isUnary 31 = .ok (.bipush 94, 2) := by decide +kernel
theorem dn_M_isUnary_33 : decode bn_M_isUnary 33 = .ok (.if_icmp .ne 7, 3) := by decide +kernel
theorem dn_M_isUnary_36 : decode bn_M_isUnary 36 = .ok (.iconst 1, 1) := by decide +kernel
theorem dn_M_isUnary_37 : decode bn_M_isUnary 37 = .ok (.goto 4, 3) := by decide +kernel
theorem dn_M_isUnary_40 : decode bn_M_isUnary 40 = .ok (.iconst 0, 1) := by decide +kernel
theorem dn_M_isUnary_41 : decode bn_M_isUnary 41 = .ok (.ireturn, 1) := by decide +kernel
theorem dn_M_item_0 : decode bn_M_item 0 = .ok (.aload_n 0, 1) := by decide +kernel
theorem dn_M_item_1 : decode bn_M_item 1 = .ok (.invokevirtual 286, 3) := by decide +kernel
theorem dn_M_item_4 : decode bn_M_item 4 = .ok (.sipush 304, 3) := by decide +kernel
theorem dn_M_item_7 : decode bn_M_item 7 = .ok (.if_icmp .eq 13, 3) := by decide +kernel
theorem dn_M_item_10 : decode bn_M_item 10 = .ok (.aload_n 0, 1) := by decide +kernel
theorem dn_M_item_11 : decode bn_M_item 11 = .ok (.invokevirtual 286, 3) := by decide +kernel
theorem dn_M_item_14 : decode bn_M_item 14 = .ok (.sipush 305, 3) := by decide +kernel
theorem dn_M_item_17 : decode bn_M_item 17 = .ok (.if_icmp .ne 59, 3) := by decide +kernel
theorem dn_M_item_20 : decode bn_M_item 20 = .ok (.aload_n 0, 1) := by decide +kernel
theorem dn_M_item_21 : decode bn_M_item 21 = .ok (.invokevirtual 286, 3) := by decide +kernel
theorem dn_M_item_24 : decode bn_M_item 24 = .ok (.sipush 305, 3) := by decide +kernel
theorem dn_M_item_27 : decode bn_M_item 27 = .ok (.if_icmp .ne 7, 3) := by decide +kernel
theorem dn_M_item_30 : decode bn_M_item 30 = .ok (.iconst 1, 1) := by decide +kernel
theorem dn_M_item_31 : decode bn_M_item 31 = .ok (.goto 4, 3) := by decide +kernel
theorem dn_M_item_34 : decode bn_M_item 34 = .ok (.iconst 0, 1) := by decide +kernel
theorem dn_M_item_35 : decode bn_M_item 35 = .ok (.istore_n 1, 1) := by decide +kernel
theorem dn_M_item_36 : decode bn_M_item 36 = .ok (.aload_n 0, 1) := by decide +kernel
theorem dn_M_item_37 : decode bn_M_item 37 = .ok (.dup, 1) := by decide +kernel
theorem dn_M_item_38 : decode bn_M_item 38 = .ok (.getfield 263, 3) := by decide +kernel
theorem dn_M_item_41 : decode bn_M_item 41 = .ok (.iconst 1, 1) := by decide +kernel
theorem dn_M_item_42 : decode bn_M_item 42 = .ok (.iadd, 1) := by decide +kernel
theorem dn_M_item_43 : decode bn_M_item 43 = .ok (.putfield 263, 3) := by decide +kernel
theorem dn_M_item_46 : decode bn_M_item 46 = .ok (.aload_n 0, 1) := by decide +kernel
theorem dn_M_item_47 : decode bn_M_item 47 = .ok (.iload_n 1, 1) := by decide +kernel
theorem dn_M_item_48 : decode bn_M_item 48 = .ok (.ifCond .eq 7, 3) := by decide +kernel
theorem dn_M_item_51 : decode bn_M_item 51 = .ok (.iconst 4, 1) := by decide +kernel
theorem dn_M_item_52 : decode bn_M_item 52 = .ok (.goto 4, 3) := by decide +kernel
theorem dn_M_item_55 : decode bn_M_item 55 = .ok (.iconst 3, 1) := by decide +kernel
theorem dn_M_item_56 : decode bn_M_item 56 = .ok (.aload_n 0, 1) := by decide +kernel
theorem dn_M_item_57 : decode bn_M_item 57 = .ok (.invokevirtual 411, 3) := by decide +kernel
theorem dn_M_item_60 : decode bn_M_item 60 = .ok (.invokevirtual 414, 3) := by decide +kernel
theorem dn_M_item_63 : decode bn_M_item 63 = .ok (.aload_n 0, 1) := by decide +kernel
theorem dn_M_item_64 : decode bn_M_item 64 = .ok (.dup, 1) := by decide +kernel
theorem dn_M_item_65 : decode bn_M_item 65 = .ok (.getfield 263, 3) := by decide +kernel
theorem dn_M_item_68 : decode bn_M_item 68 = .ok (.iconst 1, 1) := by decide +kernel
theorem dn_M_item_69 : decode bn_M_item 69 = .ok (.iadd, 1) := by decide +kernel
theorem dn_M_item_70 : decode bn_M_item 70 = .ok (.putfield 263, 3) := by decide +kernel
theorem dn_M_item_73 : decode bn_M_item 73 = .ok (.goto 166, 3) := by decide +kernel
theorem dn_M_item_76 : decode bn_M_item 76 = .ok (.aload_n 0, 1) := by decide +kernel
theorem dn_M_item_77 : decode bn_M_item 77 = .ok (.invokevirtual 286, 3) := by decide +kernel
theorem dn_M_item_80 : decode bn_M_item 80 = .ok (.sipush 306, 3) := by decide +kernel
theorem dn_M_item_83 : decode bn_M_item 83 = .ok (.if_icmp .ne 10, 3) := by decide +kernel
theorem dn_M_item_86 : decode bn_M_item 86 = .ok (.aload_n 0, 1) := by decide +kernel
theorem dn_M_item_87 : decode bn_M_item 87 = .ok (.invokevirtual 450, 3) := by decide +kernel
theorem dn_M_item_90 : decode bn_M_item 90 = .ok (.goto 149, 3) := by decide +kernel
theorem dn_M_item_93 : decode bn_M_item 93 = .ok (.aload_n 0, 1) := by decide +kernel
theorem dn_M_item_94 : decode bn_M_item 94 = .ok (.invokevirtual 286, 3) := by decide +kernel
theorem dn_M_item_97 : decode bn_M_item 97 = .ok (.sipush 307, 3) := by decide +kernel
theorem dn_M_item_100 : decode bn_M_item 100 = .ok (.if_icmp .ne 57, 3) := by decide +kernel
theorem dn_M_item_103 : decode bn_M_item 103 = .ok (.aload_n 0, 1) := by decide +kernel
theorem dn_M_item_104 : decode bn_M_item 104 = .ok (.aload_n 0, 1) := by decide +kernel
theorem dn_M_item_105 : decode bn_M_item 105 = .ok (.getfield 263, 3) := by decide +kernel
theorem dn_M_item_108 : decode bn_M_item 108 = .ok (.bipush 6, 2) := by decide +kernel
theorem dn_M_item_110 : decode bn_M_item 110 = .ok (.iadd, 1) := by decide +kernel
theorem dn_M_item_111 : decode bn_M_item 111 = .ok (.putfield 263, 3) := by decide +kernel
theorem dn_M_item_114 : decode bn_M_item 114 = .ok (.aload_n 0, 1) := by decide +kernel
theorem dn_M_item_115 : decode bn_M_item 115 = .ok (.getfield 89, 3) := by decide +kernel
theorem dn_M_item_118 : decode bn_M_item 118 = .ok (.aload_n 0, 1) := by decide +kernel
theorem dn_M_item_119 : decode bn_M_item 119 = .ok (.getfield 435, 3) := by decide +kernel
theorem dn_M_item_122 : decode bn_M_item 122 = .ok (.aload_n 0, 1) := by decide +kernel
theorem dn_M_item_123 : decode bn_M_item 123 = .ok (.getfield 349, 3) := by decide +kernel
theorem dn_M_item_126 : decode bn_M_item 126 = .ok (.iastore, 1) := by decide +kernel
theorem dn_M_item_127 : decode bn_M_item 127 = .ok (.aload_n 0, 1) := by decide +kernel
theorem dn_M_item_128 : decode bn_M_item 128 = .ok (.invokevirtual 420, 3) := by decide +kernel
theorem dn_M_item_131 : decode bn_M_item 131 = .ok (.aload_n 0, 1) := by decide +kernel
theorem dn_M_item_132 : decode bn_M_item 132 = .ok (.getfield 92, 3) := by decide +kernel
theorem dn_M_item_135 : decode bn_M_item 135 = .ok (.aload_n 0, 1) := by decide +kernel
theorem dn_M_item_136 : decode bn_M_item 136 = .ok (.getfield 435, 3) := by decide +kernel
theorem dn_M_item_139 : decode bn_M_item 139 = .ok (.aload_n 0, 1) := by decide +kernel
theorem dn_M_item_140 : decode bn_M_item 140 = .ok (.getfield 349, 3) := by decide +kernel
theorem dn_M_item_143 : decode bn_M_item 143 = .ok (.iastore, 1) := by decide +kernel
theorem dn_M_item_144 : decode bn_M_item 144 = .ok (.aload_n 0, 1) := by decide +kernel
theorem dn_M_item_145 : decode bn_M_item 145 = .ok (.dup, 1) := by decide +kernel
theorem dn_M_item_146 : decode bn_M_item 146 = .ok (.getfield 435, 3) := by decide +kernel
theorem dn_M_item_149 : decode bn_M_item 149 = .ok (.iconst 1, 1) := by decide +kernel
theorem dn_M_item_150 : decode bn_M_item 150 = .ok (.iadd, 1) := by decide +kernel
theorem dn_M_item_151 : decode bn_M_item 151 = .ok (.putfield 435, 3) := by decide +kernel
theorem dn_M_item_154 : decode bn_M_item 154 = .ok (.goto 85, 3) := by decide +kernel
theorem dn_M_item_157 : decode bn_M_item 157 = .ok (.aload_n 0, 1) := by decide +kernel
theorem dn_M_item_158 : decode bn_M_item 158 = .ok (.invokevirtual 286, 3) := by decide +kernel
theorem dn_M_item_161 : decode bn_M_item 161 = .ok (.sipush 317, 3) := by decide +kernel
theorem dn_M_item_164 : decode bn_M_item 164 = .ok (.if_icmp .ne 71, 3) := by decide +kernel
theorem dn_M_item_167 : decode bn_M_item 167 = .ok (.aload_n 0, 1) := by decide +kernel
theorem dn_M_item_168 : decode bn_M_item 168 = .ok (.aload_n 0, 1) := by decide +kernel
theorem dn_M_item_169 : decode bn_M_item 169 = .ok (.getfield 263, 3) := by decide +kernel
theorem dn_M_item_172 : decode bn_M_item 172 = .ok (.iconst 2, 1) := by decide +kernel
theorem dn_M_item_173 : decode bn_M_item 173 = .ok (.iadd, 1) := by decide +kernel
theorem dn_M_item_174 : decode bn_M_item 174 = .ok (.putfield 263, 3) := by decide +kernel
theorem dn_M_item_177 : decode bn_M_item 177 = .ok (.aload_n 0, 1) := by decide +kernel
theorem dn_M_item_178 : decode bn_M_item 178 = .ok (.getfield 83, 3) := by decide +kernel
theorem dn_M_item_181 : decode bn_M_item 181 = .ok (.aload_n 0, 1) := by decide +kernel
theorem dn_M_item_182 : decode bn_M_item 182 = .ok (.getfield 453, 3) := by decide +kernel
theorem dn_M_item_185 : decode bn_M_item 185 = .ok (.aload_n 0, 1) := by decide +kernel
theorem dn_M_item_186 : decode bn_M_item 186 = .ok (.getfield 349, 3) := by decide +kernel
theorem dn_M_item_189 : decode bn_M_item 189 = .ok (.iastore, 1) := by decide +kernel
theorem dn_M_item_190 : decode bn_M_item 190 = .ok (.aload_n 0, 1) := by decide +kernel
theorem dn_M_item_191 : decode bn_M_item 191 = .ok (.aload_n 0, 1) := by decide +kernel
theorem dn_M_item_192 : decode bn_M_item 192 = .ok (.invokevirtual 358, 3) := by decide +kernel
theorem dn_M_item_195 : decode bn_M_item 195 = .ok (.i2l, 1) := by decide +kernel
theorem dn_M_item_196 : decode bn_M_item 196 = .ok (.invokevirtual 361, 3) := by decide +kernel
theorem dn_M_item_199 : decode bn_M_item 199 = .ok (.aload_n 0, 1) := by decide +kernel
theorem dn_M_item_200 : decode bn_M_item 200 = .ok (.getfield 86, 3) := by decide +kernel
theorem dn_M_item_203 : decode bn_M_item 203 = .ok (.aload_n 0, 1) := by decide +kernel
theorem dn_M_item_204 : decode bn_M_item 204 = .ok (.getfield 453, 3) := by decide +kernel
theorem dn_M_item_207 : decode bn_M_item 207 = .ok (.aload_n 0, 1) := by decide +kernel
theorem dn_M_item_208 : decode bn_M_item 208 = .ok (.getfield 349, 3) := by decide +kernel
theorem dn_M_item_211 : decode bn_M_item 211 = .ok (.iastore, 1) := by decide +kernel
theorem dn_M_item_212 : decode bn_M_item 212 = .ok (.aload_n 0, 1) := by decide +kernel
theorem dn_M_item_213 : decode bn_M_item 213 = .ok (.dup, 1) := by decide +kernel
theorem dn_M_item_214 : decode bn_M_item 214 = .ok (.getfield 453, 3) := by decide +kernel
theorem dn_M_item_217 : decode bn_M_item 217 = .ok (.iconst 1, 1) := by decide +kernel
theorem dn_M_item_218 : decode bn_M_item 218 = .ok (.iadd, 1) := by decide +kernel
theorem dn_M_item_219 : decode bn_M_item 219 = .ok (.putfield 453, 3) := by decide +kernel
theorem dn_M_item_222 : decode bn_M_item 222 = .ok (.aload_n 0, 1) := by decide +kernel
theorem dn_M_item_223 : decode bn_M_item 223 = .ok (.aload_n 0, 1) := by decide +kernel
theorem dn_M_item_224 : decode bn_M_item 224 = .ok (.getfield 263, 3) := by decide +kernel
theorem dn_M_item_227 : decode bn_M_item 227 = .ok (.iconst 2, 1) := by decide +kernel
theorem dn_M_item_228 : decode bn_M_item 228 = .ok (.iadd, 1) := by decide +kernel
theorem dn_M_item_229 : decode bn_M_item 229 = .ok (.putfield 263, 3) := by decide +kernel
theorem dn_M_item_232 : decode bn_M_item 232 = .ok (.goto 7, 3) := by decide +kernel
theorem dn_M_item_235 : decode bn_M_item 235 = .ok (.aload_n 0, 1) := by decide +kernel
theorem dn_M_item_236 : decode bn_M_item 236 = .ok (.invokevirtual 456, 3) := by decide +kernel
theorem dn_M_item_239 : decode bn_M_item 239 = .ok (.return_, 1) := by decide +kernel
theorem dn_M_itemGrammar_0 : decode bn_M_itemGrammar 0 = .ok (.aload_n 0, 1) := by decide +kernel
theorem dn_M_itemGrammar_1 : decode bn_M_itemGrammar 1 = .ok (.sipush 304, 3) := by decide +kernel
theorem dn_M_itemGrammar_4 : decode bn_M_itemGrammar 4 = .ok (.invokevirtual 273, 3) := by decide +kernel
theorem dn_M_itemGrammar_7 : decode bn_M_itemGrammar 7 = .ok (.ifCond .ne 13, 3) := by decide +kernel
theorem dn_M_itemGrammar_10 : decode bn_M_itemGrammar 10 = .ok (.aload_n 0, 1) := by decide +kernel
theorem dn_M_itemGrammar_11 : decode bn_M_itemGrammar 11 = .ok (.sipush 305, 3) := by decide +kernel
theorem dn_M_itemGrammar_14 : decode bn_M_itemGrammar 14 = .ok (.invokevirtual 273, 3) := by decide +kernel
theorem dn_M_itemGrammar_17 : decode bn_M_itemGrammar 17 = .ok (.ifCond .eq 49, 3) := by decide +kernel
theorem dn_M_itemGrammar_20 : decode bn_M_itemGrammar 20 = .ok (.aload_n 0, 1) := by decide +kernel
theorem dn_M_itemGrammar_21 : decode bn_M_itemGrammar 21 = .ok (.sipush 305, 3) := by decide +kernel
theorem dn_M_itemGrammar_24 : decode bn_M_itemGrammar 24 = .ok (.invokevirtual 273, 3) := by decide +kernel
theorem dn_M_itemGrammar_27 : decode bn_M_itemGrammar 27 = .ok (.istore_n 1, 1) := by decide +kernel
theorem dn_M_itemGrammar_28 : decode bn_M_itemGrammar 28 = .ok (.aload_n 0, 1) := by decide +kernel
theorem dn_M_itemGrammar_29 : decode bn_M_itemGrammar 29 = .ok (.dup, 1) := by decide +kernel
theorem dn_M_itemGrammar_30 : decode bn_M_itemGrammar 30 = .ok (.getfield 263, 3) := by decide +kernel
theorem dn_M_itemGrammar_33 : decode bn_M_itemGrammar 33 = .ok (.iconst 1, 1) := by decide +kernel
theorem dn_M_itemGrammar_34 : decode bn_M_itemGrammar 34 = .ok (.iadd, 1) := by decide +kernel
theorem dn_M_itemGrammar_35 : decode bn_M_itemGrammar 35 = .ok (.putfield 263, 3) := by decide +kernel
theorem dn_M_itemGrammar_38 : decode bn_M_itemGrammar 38 = .ok (.aload_n 0, 1) := by decide +kernel
theorem dn_M_itemGrammar_39 : decode bn_M_itemGrammar 39 = .ok (.invokevirtual 311, 3) := by decide +kernel
theorem dn_M_itemGrammar_42 : decode bn_M_itemGrammar 42 = .ok (.aload_n 0, 1) := by decide +kernel
theorem dn_M_itemGrammar_43 : decode bn_M_itemGrammar 43 = .ok (.sipush 400, 3) := by decide +kernel
theorem dn_M_itemGrammar_46 : decode bn_M_itemGrammar 46 = .ok (.invokevirtual 279, 3) := by decide +kernel
theorem dn_M_itemGrammar_49 : decode bn_M_itemGrammar 49 = .ok (.iload_n 1, 1) := by decide +kernel
theorem dn_M_itemGrammar_50 : decode bn_M_itemGrammar 50 = .ok (.ifCond .eq 7, 3) := by decide +kernel
theorem dn_M_itemGrammar_53 : decode bn_M_itemGrammar 53 = .ok (.aload_n 0, 1) := by decide +kernel
theorem dn_M_itemGrammar_54 : decode bn_M_itemGrammar 54 = .ok (.invokevirtual 314, 3) := by decide +kernel
theorem dn_M_itemGrammar_57 : decode bn_M_itemGrammar 57 = .ok (.aload_n 0, 1) := by decide +kernel
theorem dn_M_itemGrammar_58 : decode bn_M_itemGrammar 58 = .ok (.bipush 59, 2) := by decide +kernel
theorem dn_M_itemGrammar_60 : decode bn_M_itemGrammar 60 = .ok (.invokevirtual 279, 3) := by decide +kernel
theorem dn_M_itemGrammar_63 : decode bn_M_itemGrammar 63 = .ok (.goto 224, 3) := by decide +kernel
theorem dn_M_itemGrammar_66 : decode bn_M_itemGrammar 66 = .ok (.aload_n 0, 1) := by decide +kernel
theorem dn_M_itemGrammar_67 : decode bn_M_itemGrammar 67 = .ok (.sipush 306, 3) := by decide +kernel
theorem dn_M_itemGrammar_70 : decode bn_M_itemGrammar 70 = .ok (.invokevirtual 273, 3) := by decide +kernel
theorem dn_M_itemGrammar_73 : decode bn_M_itemGrammar 73 = .ok (.ifCond .eq 39, 3) := by decide +kernel
theorem dn_M_itemGrammar_76 : decode bn_M_itemGrammar 76 = .ok (.aload_n 0, 1) := by decide +kernel
theorem dn_M_itemGrammar_77 : decode bn_M_itemGrammar 77 = .ok (.dup, 1) := by decide +kernel
theorem dn_M_itemGrammar_78 : decode bn_M_itemGrammar 78 = .ok (.getfield 263, 3) := by decide +kernel
theorem dn_M_itemGrammar_81 : decode bn_M_itemGrammar 81 = .ok (.iconst 1, 1) := by decide +kernel
theorem dn_M_itemGrammar_82 : decode bn_M_itemGrammar 82 = .ok (.iadd, 1) := by decide +kernel
theorem dn_M_itemGrammar_83 : decode bn_M_itemGrammar 83 = .ok (.putfield 263, 3) := by decide +kernel
theorem dn_M_itemGrammar_86 : decode bn_M_itemGrammar 86 = .ok (.aload_n 0, 1) := by decide +kernel
theorem dn_M_itemGrammar_87 : decode bn_M_itemGrammar 87 = .ok (.sipush 400, 3) := by decide +kernel
theorem dn_M_itemGrammar_90 : decode bn_M_itemGrammar 90 = .ok (.invokevirtual 279, 3) := by decide +kernel
theorem dn_M_itemGrammar_93 : decode bn_M_itemGrammar 93 = .ok (.aload_n 0, 1) := by decide +kernel
theorem dn_M_itemGrammar_94 : decode bn_M_itemGrammar 94 = .ok (.bipush 61, 2) := by decide +kernel
theorem dn_M_itemGrammar_96 : decode bn_M_itemGrammar 96 = .ok (.invokevirtual 279, 3) := by decide +kernel
theorem dn_M_itemGrammar_99 : decode bn_M_itemGrammar 99 = .ok (.aload_n 0, 1) := by decide +kernel
theorem dn_M_itemGrammar_100 : decode bn_M_itemGrammar 100 = .ok (.invokevirtual 296, 3) := by decide +kernel
theorem dn_M_itemGrammar_103 : decode bn_M_itemGrammar 103 = .ok (.aload_n 0, 1) := by decide +kernel
theorem dn_M_itemGrammar_104 : decode bn_M_itemGrammar 104 = .ok (.bipush 59, 2) := by decide +kernel
theorem dn_M_itemGrammar_106 : decode bn_M_itemGrammar 106 = .ok (.invokevirtual 279, 3) := by decide +kernel
theorem dn_M_itemGrammar_109 : decode bn_M_itemGrammar 109 = .ok (.goto 178, 3) := by decide +kernel
theorem dn_M_itemGrammar_112 : decode bn_M_itemGrammar 112 = .ok (.aload_n 0, 1) := by decide +kernel
theorem dn_M_itemGrammar_113 : decode bn_M_itemGrammar 113 = .ok (.sipush 307, 3) := by decide +kernel
theorem dn_M_itemGrammar_116 : decode bn_M_itemGrammar 116 = .ok (.invokevirtual 273, 3) := by decide +kernel
theorem dn_M_itemGrammar_119 : decode bn_M_itemGrammar 119 = .ok (.ifCond .eq 52, 3) := by decide +kernel
theorem dn_M_itemGrammar_122 : decode bn_M_itemGrammar 122 = .ok (.aload_n 0, 1) := by decide +kernel
theorem dn_M_itemGrammar_123 : decode bn_M_itemGrammar 123 = .ok (.dup, 1) := by decide +kernel
theorem dn_M_itemGrammar_124 : decode bn_M_itemGrammar 124 = .ok (.getfield 263, 3) := by decide +kernel
theorem dn_M_itemGrammar_127 : decode bn_M_itemGrammar 127 = .ok (.iconst 1, 1) := by decide +kernel
theorem dn_M_itemGrammar_128 : decode bn_M_itemGrammar 128 = .ok (.iadd, 1) := by decide +kernel
theorem dn_M_itemGrammar_129 : decode bn_M_itemGrammar 129 = .ok (.putfield 263, 3) := by decide +kernel
theorem dn_M_itemGrammar_132 : decode bn_M_itemGrammar 132 = .ok (.aload_n 0, 1) := by decide +kernel
theorem dn_M_itemGrammar_133 : decode bn_M_itemGrammar 133 = .ok (.bipush 64, 2) := by decide +kernel
theorem dn_M_itemGrammar_135 : decode bn_M_itemGrammar 135 = .ok (.invokevirtual 279, 3) := by decide +kernel
theorem dn_M_itemGrammar_138 : decode bn_M_itemGrammar 138 = .ok (.aload_n 0, 1) := by decide +kernel
theorem dn_M_itemGrammar_139 : decode bn_M_itemGrammar 139 = .ok (.bipush 40, 2) := by decide +kernel
theorem dn_M_itemGrammar_141 : decode bn_M_itemGrammar 141 = .ok (.invokevirtual 293, 3) := by decide +kernel
theorem dn_M_itemGrammar_144 : decode bn_M_itemGrammar 144 = .ok (.aload_n 0, 1) := by decide +kernel
theorem dn_M_itemGrammar_145 : decode bn_M_itemGrammar 145 = .ok (.sipush 308, 3) := by decide +kernel
theorem dn_M_itemGrammar_148 : decode bn_M_itemGrammar 148 = .ok (.invokevirtual 279, 3) := by decide +kernel
theorem dn_M_itemGrammar_151 : decode bn_M_itemGrammar 151 = .ok (.aload_n 0, 1) := by decide +kernel
theorem dn_M_itemGrammar_152 : decode bn_M_itemGrammar 152 = .ok (.sipush 309, 3) := by decide +kernel
theorem dn_M_itemGrammar_155 : decode bn_M_itemGrammar 155 = .ok (.invokevirtual 279, 3) := by decide +kernel
theorem dn_M_itemGrammar_158 : decode bn_M_itemGrammar 158 = .ok (.aload_n 0, 1) := by decide +kernel
theorem dn_M_itemGrammar_159 : decode bn_M_itemGrammar 159 = .ok (.bipush 41, 2) := by decide +kernel
theorem dn_M_itemGrammar_161 : decode bn_M_itemGrammar 161 = .ok (.invokevirtual 305, 3) := by decide +kernel
theorem dn_M_itemGrammar_164 : decode bn_M_itemGrammar 164 = .ok (.aload_n 0, 1) := by decide +kernel
theorem dn_M_itemGrammar_165 : decode bn_M_itemGrammar 165 = .ok (.invokevirtual 317, 3) := by decide +kernel
theorem dn_M_itemGrammar_168 : decode bn_M_itemGrammar 168 = .ok (.goto 119, 3) := by decide +kernel
theorem dn_M_itemGrammar_171 : decode bn_M_itemGrammar 171 = .ok (.aload_n 0, 1) := by decide +kernel
theorem dn_M_itemGrammar_172 : decode bn_M_itemGrammar 172 = .ok (.sipush 317, 3) := by decide +kernel
theorem dn_M_itemGrammar_175 : decode bn_M_itemGrammar 175 = .ok (.invokevirtual 273, 3) := by decide +kernel
theorem dn_M_itemGrammar_178 : decode bn_M_itemGrammar 178 = .ok (.ifCond .eq 38, 3) := by decide +kernel
theorem dn_M_itemGrammar_181 : decode bn_M_itemGrammar 181 = .ok (.aload_n 0, 1) := by decide +kernel
theorem dn_M_itemGrammar_182 : decode bn_M_itemGrammar 182 = .ok (.dup, 1) := by decide +kernel
theorem dn_M_itemGrammar_183 : decode bn_M_itemGrammar 183 = .ok (.getfield 263, 3) := by decide +kernel
theorem dn_M_itemGrammar_186 : decode bn_M_itemGrammar 186 = .ok (.iconst 1, 1) := by decide +kernel
theorem dn_M_itemGrammar_187 : decode bn_M_itemGrammar 187 = .ok (.iadd, 1) := by decide +kernel
theorem dn_M_itemGrammar_188 : decode bn_M_itemGrammar 188 = .ok (.putfield 263, 3) := by decide +kernel
theorem dn_M_itemGrammar_191 : decode bn_M_itemGrammar 191 = .ok (.aload_n 0, 1) := by decide +kernel
theorem dn_M_itemGrammar_192 : decode bn_M_itemGrammar 192 = .ok (.bipush 40, 2) := by decide +kernel
theorem dn_M_itemGrammar_194 : decode bn_M_itemGrammar 194 = .ok (.invokevirtual 293, 3) := by decide +kernel
theorem dn_M_itemGrammar_197 : decode bn_M_itemGrammar 197 = .ok (.aload_n 0, 1) := by decide +kernel
theorem dn_M_itemGrammar_198 : decode bn_M_itemGrammar 198 = .ok (.invokevirtual 296, 3) := by decide +kernel
theorem dn_M_itemGrammar_201 : decode bn_M_itemGrammar 201 = .ok (.aload_n 0, 1) := by decide +kernel
theorem dn_M_itemGrammar_202 : decode bn_M_itemGrammar 202 = .ok (.bipush 41, 2) := by decide +kernel
theorem dn_M_itemGrammar_204 : decode bn_M_itemGrammar 204 = .ok (.invokevirtual 305, 3) := by decide +kernel
theorem dn_M_itemGrammar_207 : decode bn_M_itemGrammar 207 = .ok (.aload_n 0, 1) := by decide +kernel
theorem dn_M_itemGrammar_208 : decode bn_M_itemGrammar 208 = .ok (.bipush 59, 2) := by decide +kernel
theorem dn_M_itemGrammar_210 : decode bn_M_itemGrammar 210 = .ok (.invokevirtual 279, 3) := by decide +kernel
theorem dn_M_itemGrammar_213 : decode bn_M_itemGrammar 213 = .ok (.goto 74, 3) := by decide +kernel
theorem dn_M_itemGrammar_216 : decode bn_M_itemGrammar 216 = .ok (.aload_n 0, 1) := by decide +kernel
theorem dn_M_itemGrammar_217 : decode bn_M_itemGrammar 217 = .ok (.sipush 400, 3) := by decide +kernel
theorem dn_M_itemGrammar_220 : decode bn_M_itemGrammar 220 = .ok (.invokevirtual 279, 3) := by decide +kernel
theorem dn_M_itemGrammar_223 : decode bn_M_itemGrammar 223 = .ok (.aload_n 0, 1) := by decide +kernel
theorem dn_M_itemGrammar_224 : decode bn_M_itemGrammar 224 = .ok (.sipush 400, 3) := by decide +kernel
theorem dn_M_itemGrammar_227 : decode bn_M_itemGrammar 227 = .ok (.invokevirtual 279, 3) := by decide +kernel
theorem dn_M_itemGrammar_230 : decode bn_M_itemGrammar 230 = .ok (.aload_n 0, 1) := by decide +kernel
theorem dn_M_itemGrammar_231 : decode bn_M_itemGrammar 231 = .ok (.bipush 40, 2) := by decide +kernel
theorem dn_M_itemGrammar_233 : decode bn_M_itemGrammar 233 = .ok (.invokevirtual 293, 3) := by decide +kernel
theorem dn_M_itemGrammar_236 : decode bn_M_itemGrammar 236 = .ok (.aload_n 0, 1) := by decide +kernel
theorem dn_M_itemGrammar_237 : decode bn_M_itemGrammar 237 = .ok (.bipush 46, 2) := by decide +kernel
theorem dn_M_itemGrammar_239 : decode bn_M_itemGrammar 239 = .ok (.invokevirtual 273, 3) := by decide +kernel
theorem dn_M_itemGrammar_242 : decode bn_M_itemGrammar 242 = .ok (.ifCond .eq 33, 3) := by decide +kernel
theorem dn_M_itemGrammar_245 : decode bn_M_itemGrammar 245 = .ok (.aload_n 0, 1) := by decide +kernel
theorem dn_M_itemGrammar_246 : decode bn_M_itemGrammar 246 = .ok (.invokevirtual 323, 3) := by decide +kernel
theorem dn_M_itemGrammar_249 : decode bn_M_itemGrammar 249 = .ok (.aload_n 0, 1) := by decide +kernel
theorem dn_M_itemGrammar_250 : decode bn_M_itemGrammar 250 = .ok (.bipush 44, 2) := by decide +kernel
theorem dn_M_itemGrammar_252 : decode bn_M_itemGrammar 252 = .ok (.invokevirtual 273, 3) := by decide +kernel
theorem dn_M_itemGrammar_255 : decode bn_M_itemGrammar 255 = .ok (.ifCond .eq 20, 3) := by decide +kernel
theorem dn_M_itemGrammar_258 : decode bn_M_itemGrammar 258 = .ok (.aload_n 0, 1) := by decide +kernel
theorem dn_M_itemGrammar_259 : decode bn_M_itemGrammar 259 = .ok (.dup, 1) := by decide +kernel
theorem dn_M_itemGrammar_260 : decode bn_M_itemGrammar 260 = .ok (.getfield 263, 3) := by decide +kernel
theorem dn_M_itemGrammar_263 : decode bn_M_itemGrammar 263 = .ok (.iconst 1, 1) := by decide +kernel
theorem dn_M_itemGrammar_264 : decode bn_M_itemGrammar 264 = .ok (.iadd, 1) := by decide +kernel
theorem dn_M_itemGrammar_265 : decode bn_M_itemGrammar 265 = .ok (.putfield 263, 3) := by decide +kernel
theorem dn_M_itemGrammar_268 : decode bn_M_itemGrammar 268 = .ok (.aload_n 0, 1) := by decide +kernel
theorem dn_M_itemGrammar_269 : decode bn_M_itemGrammar 269 = .ok (.invokevirtual 323, 3) := by decide +kernel
theorem dn_M_itemGrammar_272 : decode bn_M_itemGrammar 272 = .ok (.goto (-23), 3) := by decide +kernel
theorem dn_M_itemGrammar_275 : decode bn_M_itemGrammar 275 = .ok (.aload_n 0, 1) := by decide +kernel
theorem dn_M_itemGrammar_276 : decode bn_M_itemGrammar 276 = .ok (.bipush 41, 2) := by decide +kernel
theorem dn_M_itemGrammar_278 : decode bn_M_itemGrammar 278 = .ok (.invokevirtual 305, 3) := by decide +kernel
theorem dn_M_itemGrammar_281 : decode bn_M_itemGrammar 281 = .ok (.aload_n 0, 1) := by decide +kernel
theorem dn_M_itemGrammar_282 : decode bn_M_itemGrammar 282 = .ok (.bipush 59, 2) := by decide +kernel
theorem dn_M_itemGrammar_284 : decode bn_M_itemGrammar 284 = .ok (.invokevirtual 279, 3) := by decide +kernel
theorem dn_M_itemGrammar_287 : decode bn_M_itemGrammar 287 = .ok (.return_, 1) := by decide +kernel
theorem dn_M_keepNumber_0 : decode bn_M_keepNumber 0 = .ok (.aload_n 0, 1) := by decide +kernel
theorem dn_M_keepNumber_1 : decode bn_M_keepNumber 1 = .ok (.getfield 352, 3) := by decide +kernel
theorem dn_M_keepNumber_4 : decode bn_M_keepNumber 4 = .ok (.aload_n 0, 1) := by decide +kernel
theorem dn_M_keepNumber_5 : decode bn_M_keepNumber 5 = .ok (.getfield 98, 3) := by decide +kernel
theorem dn_M_keepNumber_8 : decode bn_M_keepNumber 8 = .ok (.arraylength, 1) := by decide +kernel
theorem dn_M_keepNumber_9 : decode bn_M_keepNumber 9 = .ok (.if_icmp .ne 46, 3) := by decide +kernel
theorem dn_M_keepNumber_12 : decode bn_M_keepNumber 12 = .ok (.iconst 2, 1) := by decide +kernel
theorem dn_M_keepNumber_13 : decode bn_M_keepNumber 13 = .ok (.aload_n 0, 1) := by decide +kernel
theorem dn_M_keepNumber_14 : decode bn_M_keepNumber 14 = .ok (.getfield 352, 3) := by decide +kernel
theorem dn_M_keepNumber_17 : decode bn_M_keepNumber 17 = .ok (.imul, 1) := by decide +kernel
theorem dn_M_keepNumber_18 : decode bn_M_keepNumber 18 = .ok (.newarray .long, 2) := by decide +kernel
theorem dn_M_keepNumber_20 : decode bn_M_keepNumber 20 = .ok (.astore_n 3, 1) := by decide +kernel
theorem dn_M_keepNumber_21 : decode bn_M_keepNumber 21 = .ok (.iconst 0, 1) := by decide +kernel
theorem dn_M_keepNumber_22 : decode bn_M_keepNumber 22 = .ok (.istore 4, 2) := by decide +kernel
theorem dn_M_keepNumber_24 : decode bn_M_keepNumber 24 = .ok (.iload 4, 2) := by decide +kernel
theorem dn_M_keepNumber_26 : decode bn_M_keepNumber 26 = .ok (.aload_n 0, 1) := by decide +kernel
theorem dn_M_keepNumber_27 : decode bn_M_keepNumber 27 = .ok (.getfield 352, 3) := by decide +kernel
theorem dn_M_keepNumber_30 : decode bn_M_keepNumber 30 = .ok (.if_icmp .ge 20, 3) := by decide +kernel
theorem dn_M_keepNumber_33 : decode bn_M_keepNumber 33 = .ok (.aload_n 3, 1) := by decide +kernel
theorem dn_M_keepNumber_34 : decode bn_M_keepNumber 34 = .ok (.iload 4, 2) := by decide +kernel
theorem dn_M_keepNumber_36 : decode bn_M_keepNumber 36 = .ok (.aload_n 0, 1) := by decide +kernel
theorem dn_M_keepNumber_37 : decode bn_M_keepNumber 37 = .ok (.getfield 98, 3) := by decide +kernel
theorem dn_M_keepNumber_40 : decode bn_M_keepNumber 40 = .ok (.iload 4, 2) := by decide +kernel
theorem dn_M_keepNumber_42 : decode bn_M_keepNumber 42 = .ok (.laload, 1) := by decide +kernel
theorem dn_M_keepNumber_43 : decode bn_M_keepNumber 43 = .ok (.lastore, 1) := by decide +kernel
theorem dn_M_keepNumber_44 : decode bn_M_keepNumber 44 = .ok (.iinc 4 1, 3) := by decide +kernel
theorem dn_M_keepNumber_47 : decode bn_M_keepNumber 47 = .ok (.goto (-23), 3) := by decide +kernel
theorem dn_M_keepNumber_50 : decode bn_M_keepNumber 50 = .ok (.aload_n 0, 1) := by decide +kernel
theorem dn_M_keepNumber_51 : decode bn_M_keepNumber 51 = .ok (.aload_n 3, 1) := by decide +kernel
theorem dn_M_keepNumber_52 : decode bn_M_keepNumber 52 = .ok (.putfield 98, 3) := by decide +kernel
theorem dn_M_keepNumber_55 : decode bn_M_keepNumber 55 = .ok (.aload_n 0, 1) := by decide +kernel
theorem dn_M_keepNumber_56 : decode bn_M_keepNumber 56 = .ok (.getfield 98, 3) := by decide +kernel
theorem dn_M_keepNumber_59 : decode bn_M_keepNumber 59 = .ok (.aload_n 0, 1) := by decide +kernel
theorem dn_M_keepNumber_60 : decode bn_M_keepNumber 60 = .ok (.getfield 352, 3) := by decide +kernel
theorem dn_M_keepNumber_63 : decode bn_M_keepNumber 63 = .ok (.lload_n 1, 1) := by decide +kernel
theorem dn_M_keepNumber_64 : decode bn_M_keepNumber 64 = .ok (.lastore, 1) := by decide +kernel
theorem dn_M_keepNumber_65 : decode bn_M_keepNumber 65 = .ok (.aload_n 0, 1) := by decide +kernel
theorem dn_M_keepNumber_66 : decode bn_M_keepNumber 66 = .ok (.dup, 1) := by decide +kernel
theorem dn_M_keepNumber_67 : decode bn_M_keepNumber 67 = .ok (.getfield 352, 3) := by decide +kernel
theorem dn_M_keepNumber_70 : decode bn_M_keepNumber 70 = .ok (.iconst 1, 1) := by decide +kernel
theorem dn_M_keepNumber_71 : decode bn_M_keepNumber 71 = .ok (.iadd, 1) := by decide +kernel
theorem dn_M_keepNumber_72 : decode bn_M_keepNumber 72 = .ok (.putfield 352, 3) := by decide +kernel
theorem dn_M_keepNumber_75 : decode bn_M_keepNumber 75 = .ok (.aload_n 0, 1) := by decide +kernel
theorem dn_M_keepNumber_76 : decode bn_M_keepNumber 76 = .ok (.getfield 352, 3) := by decide +kernel
theorem dn_M_keepNumber_79 : decode bn_M_keepNumber 79 = .ok (.iconst 1, 1) := by decide +kernel
theorem dn_M_keepNumber_80 : decode bn_M_keepNumber 80 = .ok (.isub, 1) := by decide +kernel
theorem dn_M_keepNumber_81 : decode bn_M_keepNumber 81 = .ok (.ireturn, 1) := by decide +kernel
theorem dn_M_kind_0 : decode bn_M_kind 0 = .ok (.aload_n 0, 1) := by decide +kernel
theorem dn_M_kind_1 : decode bn_M_kind 1 = .ok (.getfield 15, 3) := by decide +kernel
theorem dn_M_kind_4 : decode bn_M_kind 4 = .ok (.aload_n 0, 1) := by decide +kernel
theorem dn_M_kind_5 : decode bn_M_kind 5 = .ok (.getfield 263, 3) := by decide +kernel
theorem dn_M_kind_8 : decode bn_M_kind 8 = .ok (.iaload, 1) := by decide +kernel
theorem dn_M_kind_9 : decode bn_M_kind 9 = .ok (.ireturn, 1) := by decide +kernel
theorem dn_M_kindOf_0 : decode bn_M_kindOf 0 = .ok (.aload_n 0, 1) := by decide +kernel
theorem dn_M_kindOf_1 : decode bn_M_kindOf 1 = .ok (.getfield 143, 3) := by decide +kernel
theorem dn_M_kindOf_4 : decode bn_M_kindOf 4 = .ok (.iload_n 1, 1) := by decide +kernel
theorem dn_M_kindOf_5 : decode bn_M_kindOf 5 = .ok (.iaload, 1) := by decide +kernel
theorem dn_M_kindOf_6 : decode bn_M_kindOf 6 = .ok (.istore_n 2, 1) := by decide +kernel
theorem dn_M_kindOf_7 : decode bn_M_kindOf 7 = .ok (.aload_n 0, 1) := by decide +kernel
theorem dn_M_kindOf_8 : decode bn_M_kindOf 8 = .ok (.iload_n 2, 1) := by decide +kernel
theorem dn_M_kindOf_9 : decode bn_M_kindOf 9 = .ok (.invokevirtual 432, 3) := by decide +kernel
theorem dn_M_kindOf_12 : decode bn_M_kindOf 12 = .ok (.ifCond .eq 7, 3) := by decide +kernel
theorem dn_M_kindOf_15 : decode bn_M_kindOf 15 = .ok (.iconst 2, 1) := by decide +kernel
theorem dn_M_kindOf_16 : decode bn_M_kindOf 16 = .ok (.goto 26, 3) := by decide +kernel
theorem dn_M_kindOf_19 : decode bn_M_kindOf 19 = .ok (.aload_n 0, 1) := by decide +kernel
theorem dn_M_kindOf_20 : decode bn_M_kindOf 20 = .ok (.getfield 46, 3) := by decide +kernel
theorem dn_M_kindOf_23 : decode bn_M_kindOf 23 = .ok (.iload_n 2, 1) := by decide +kernel
theorem dn_M_kindOf_24 : decode bn_M_kindOf 24 = .ok (.iaload, 1) := by decide +kernel
theorem dn_M_kindOf_25 : decode bn_M_kindOf 25 = .ok (.ifCond .ne 16, 3) := by decide +kernel
theorem dn_M_kindOf_28 : decode bn_M_kindOf 28 = .ok (.aload_n 0, 1) := by decide +kernel
theorem dn_M_kindOf_29 : decode bn_M_kindOf 29 = .ok (.getfield 146, 3) := by decide +kernel
theorem dn_M_kindOf_32 : decode bn_M_kindOf 32 = .ok (.iload_n 1, 1) := by decide +kernel
theorem dn_M_kindOf_33 : decode bn_M_kindOf 33 = .ok (.iaload, 1) := by decide +kernel
theorem dn_M_kindOf_34 : decode bn_M_kindOf 34 = .ok (.ifCond .ne 7, 3) := by decide +kernel
theorem dn_M_kindOf_37 : decode bn_M_kindOf 37 = .ok (.iconst 0, 1) := by decide +kernel
theorem dn_M_kindOf_38 : decode bn_M_kindOf 38 = .ok (.goto 4, 3) := by decide +kernel
theorem dn_M_kindOf_41 : decode bn_M_kindOf 41 = .ok (.iconst 1, 1) := by decide +kernel
theorem dn_M_kindOf_42 : decode bn_M_kindOf 42 = .ok (.ireturn, 1) := by decide +kernel
theorem dn_M_lay_0 : decode bn_M_lay 0 = .ok (.aload_n 0, 1) := by decide +kernel
theorem dn_M_lay_1 : decode bn_M_lay 1 = .ok (.getfield 349, 3) := by decide +kernel
theorem dn_M_lay_4 : decode bn_M_lay 4 = .ok (.iconst 3, 1) := by decide +kernel
theorem dn_M_lay_5 : decode bn_M_lay 5 = .ok (.iadd, 1) := by decide +kernel
theorem dn_M_lay_6 : decode bn_M_lay 6 = .ok (.aload_n 0, 1) := by decide +kernel
theorem dn_M_lay_7 : decode bn_M_lay 7 = .ok (.getfield 95, 3) := by decide +kernel
theorem dn_M_lay_10 : decode bn_M_lay 10 = .ok (.arraylength, 1) := by decide +kernel
theorem dn_M_lay_11 : decode bn_M_lay 11 = .ok (.if_icmp .le 50, 3) := by decide +kernel
theorem dn_M_lay_14 : decode bn_M_lay 14 = .ok (.iconst 2, 1) := by decide +kernel
theorem dn_M_lay_15 : decode bn_M_lay 15 = .ok (.aload_n 0, 1) := by decide +kernel
theorem dn_M_lay_16 : decode bn_M_lay 16 = .ok (.getfield 95, 3) := by decide +kernel
theorem dn_M_lay_19 : decode bn_M_lay 19 = .ok (.arraylength, 1) := by decide +kernel
theorem dn_M_lay_20 : decode bn_M_lay 20 = .ok (.imul, 1) := by decide +kernel
theorem dn_M_lay_21 : decode bn_M_lay 21 = .ok (.newarray .int, 2) := by decide +kernel
theorem dn_M_lay_23 : decode bn_M_lay 23 = .ok (.astore 4, 2) := by decide +kernel
theorem dn_M_lay_25 : decode bn_M_lay 25 = .ok (.iconst 0, 1) := by decide +kernel
theorem dn_M_lay_26 : decode bn_M_lay 26 = .ok (.istore 5, 2) := by decide +kernel
theorem dn_M_lay_28 : decode bn_M_lay 28 = .ok (.iload 5, 2) := by decide +kernel
theorem dn_M_lay_30 : decode bn_M_lay 30 = .ok (.aload_n 0, 1) := by decide +kernel
theorem dn_M_lay_31 : decode bn_M_lay 31 = .ok (.getfield 349, 3) := by decide +kernel
theorem dn_M_lay_34 : decode bn_M_lay 34 = .ok (.if_icmp .ge 21, 3) := by decide +kernel
theorem dn_M_lay_37 : decode bn_M_lay 37 = .ok (.aload 4, 2) := by decide +kernel
theorem dn_M_lay_39 : decode bn_M_lay 39 = .ok (.iload 5, 2) := by decide +kernel
theorem dn_M_lay_41 : decode bn_M_lay 41 = .ok (.aload_n 0, 1) := by decide +kernel
theorem dn_M_lay_42 : decode bn_M_lay 42 = .ok (.getfield 95, 3) := by decide +kernel
theorem dn_M_lay_45 : decode bn_M_lay 45 = .ok (.iload 5, 2) := by decide +kernel
theorem dn_M_lay_47 : decode bn_M_lay 47 = .ok (.iaload, 1) := by decide +kernel
theorem dn_M_lay_48 : decode bn_M_lay 48 = .ok (.iastore, 1) := by decide +kernel
theorem dn_M_lay_49 : decode bn_M_lay 49 = .ok (.iinc 5 1, 3) := by decide +kernel
theorem dn_M_lay_52 : decode bn_M_lay 52 = .ok (.goto (-24), 3) := by decide +kernel
theorem dn_M_lay_55 : decode bn_M_lay 55 = .ok (.aload_n 0, 1) := by decide +kernel
theorem dn_M_lay_56 : decode bn_M_lay 56 = .ok (.aload 4, 2) := by decide +kernel
theorem dn_M_lay_58 : decode bn_M_lay 58 = .ok (.putfield 95, 3) := by decide +kernel
theorem dn_M_lay_61 : decode bn_M_lay 61 = .ok (.aload_n 0, 1) := by decide +kernel
theorem dn_M_lay_62 : decode bn_M_lay 62 = .ok (.getfield 95, 3) := by decide +kernel
theorem dn_M_lay_65 : decode bn_M_lay 65 = .ok (.aload_n 0, 1) := by decide +kernel
theorem dn_M_lay_66 : decode bn_M_lay 66 = .ok (.getfield 349, 3) := by decide +kernel
theorem dn_M_lay_69 : decode bn_M_lay 69 = .ok (.iload_n 1, 1) := by decide +kernel
theorem dn_M_lay_70 : decode bn_M_lay 70 = .ok (.iastore, 1) := by decide +kernel
theorem dn_M_lay_71 : decode bn_M_lay 71 = .ok (.aload_n 0, 1) := by decide +kernel
theorem dn_M_lay_72 : decode bn_M_lay 72 = .ok (.getfield 95, 3) := by decide +kernel
theorem dn_M_lay_75 : decode bn_M_lay 75 = .ok (.aload_n 0, 1) := by decide +kernel
theorem dn_M_lay_76 : decode bn_M_lay 76 = .ok (.getfield 349, 3) := by decide +kernel
theorem dn_M_lay_79 : decode bn_M_lay 79 = .ok (.iconst 1, 1) := by decide +kernel
theorem dn_M_lay_80 : decode bn_M_lay 80 = .ok (.iadd, 1) := by decide +kernel
theorem dn_M_lay_81 : decode bn_M_lay 81 = .ok (.iload_n 2, 1) := by decide +kernel
theorem dn_M_lay_82 : decode bn_M_lay 82 = .ok (.iastore, 1) := by decide +kernel
theorem dn_M_lay_83 : decode bn_M_lay 83 = .ok (.aload_n 0, 1) := by decide +kernel
theorem dn_M_lay_84 : decode bn_M_lay 84 = .ok (.getfield 95, 3) := by decide +kernel
theorem dn_M_lay_87 : decode bn_M_lay 87 = .ok (.aload_n 0, 1) := by decide +kernel
theorem dn_M_lay_88 : decode bn_M_lay 88 = .ok (.getfield 349, 3) := by decide +kernel
theorem dn_M_lay_91 : decode bn_M_lay 91 = .ok (.iconst 2, 1) := by decide +kernel
theorem dn_M_lay_92 : decode bn_M_lay 92 = .ok (.iadd, 1) := by decide +kernel
theorem dn_M_lay_93 : decode bn_M_lay 93 = .ok (.iload_n 3, 1) := by decide +kernel
theorem dn_M_lay_94 : decode bn_M_lay 94 = .ok (.iastore, 1) := by decide +kernel
theorem dn_M_lay_95 : decode bn_M_lay 95 = .ok (.aload_n 0, 1) := by decide +kernel
theorem dn_M_lay_96 : decode bn_M_lay 96 = .ok (.aload_n 0, 1) := by decide +kernel
theorem dn_M_lay_97 : decode bn_M_lay 97 = .ok (.getfield 349, 3) := by decide +kernel
theorem dn_M_lay_100 : decode bn_M_lay 100 = .ok (.iconst 3, 1) := by decide +kernel
theorem dn_M_lay_101 : decode bn_M_lay 101 = .ok (.iadd, 1) := by decide +kernel
theorem dn_M_lay_102 : decode bn_M_lay 102 = .ok (.putfield 349, 3) := by decide +kernel
theorem dn_M_lay_105 : decode bn_M_lay 105 = .ok (.return_, 1) := by decide +kernel
theorem dn_M_limits_0 : decode bn_M_limits 0 = .ok (.aload_n 0, 1) := by decide +kernel
theorem dn_M_limits_1 : decode bn_M_limits 1 = .ok (.getfield 336, 3) := by decide +kernel
theorem dn_M_limits_4 : decode bn_M_limits 4 = .ok (.iconst 1, 1) := by decide +kernel
theorem dn_M_limits_5 : decode bn_M_limits 5 = .ok (.isub, 1) := by decide +kernel
theorem dn_M_limits_6 : decode bn_M_limits 6 = .ok (.istore_n 1, 1) := by decide +kernel
theorem dn_M_limits_7 : decode bn_M_limits 7 = .ok (.aload_n 0, 1) := by decide +kernel
theorem dn_M_limits_8 : decode bn_M_limits 8 = .ok (.getfield 19, 3) := by decide +kernel
theorem dn_M_limits_11 : decode bn_M_limits 11 = .ok (.aload_n 0, 1) := by decide +kernel
theorem dn_M_limits_12 : decode bn_M_limits 12 = .ok (.getfield 25, 3) := by decide +kernel
theorem dn_M_limits_15 : decode bn_M_limits 15 = .ok (.iload_n 1, 1) := by decide +kernel
theorem dn_M_limits_16 : decode bn_M_limits 16 = .ok (.iaload, 1) := by decide +kernel
theorem dn_M_limits_17 : decode bn_M_limits 17 = .ok (.iaload, 1) := by decide +kernel
theorem dn_M_limits_18 : decode bn_M_limits 18 = .ok (.istore_n 2, 1) := by decide +kernel
theorem dn_M_limits_19 : decode bn_M_limits 19 = .ok (.lconst 0, 1) := by decide +kernel
theorem dn_M_limits_20 : decode bn_M_limits 20 = .ok (.lstore_n 3, 1) := by decide +kernel
theorem dn_M_limits_21 : decode bn_M_limits 21 = .ok (.aload_n 0, 1) := by decide +kernel
theorem dn_M_limits_22 : decode bn_M_limits 22 = .ok (.getfield 28, 3) := by decide +kernel
theorem dn_M_limits_25 : decode bn_M_limits 25 = .ok (.iload_n 1, 1) := by decide +kernel
theorem dn_M_limits_26 : decode bn_M_limits 26 = .ok (.iaload, 1) := by decide +kernel
theorem dn_M_limits_27 : decode bn_M_limits 27 = .ok (.istore 5, 2) := by decide +kernel
theorem dn_M_limits_29 : decode bn_M_limits 29 = .ok (.iload 5, 2) := by decide +kernel
theorem dn_M_limits_31 : decode bn_M_limits 31 = .ok (.aload_n 0, 1) := by decide +kernel
theorem dn_M_limits_32 : decode bn_M_limits 32 = .ok (.getfield 28, 3) := by decide +kernel
theorem dn_M_limits_35 : decode bn_M_limits 35 = .ok (.iload_n 1, 1) := by decide +kernel
theorem dn_M_limits_36 : decode bn_M_limits 36 = .ok (.iconst 1, 1) := by decide +kernel
theorem dn_M_limits_37 : decode bn_M_limits 37 = .ok (.iadd, 1) := by decide +kernel
theorem dn_M_limits_38 : decode bn_M_limits 38 = .ok (.iaload, 1) := by decide +kernel
theorem dn_M_limits_39 : decode bn_M_limits 39 = .ok (.if_icmp .ge 34, 3) := by decide +kernel
theorem dn_M_limits_42 : decode bn_M_limits 42 = .ok (.aload_n 0, 1) := by decide +kernel
theorem dn_M_limits_43 : decode bn_M_limits 43 = .ok (.getfield 46, 3) := by decide +kernel
theorem dn_M_limits_46 : decode bn_M_limits 46 = .ok (.iload 5, 2) := by decide +kernel
theorem dn_M_limits_48 : decode bn_M_limits 48 = .ok (.iaload, 1) := by decide +kernel
theorem dn_M_limits_49 : decode bn_M_limits 49 = .ok (.ifCond .ne 16, 3) := by decide +kernel
theorem dn_M_limits_52 : decode bn_M_limits 52 = .ok (.lload_n 3, 1) := by decide +kernel
theorem dn_M_limits_53 : decode bn_M_limits 53 = .ok (.aload_n 0, 1) := by decide +kernel
theorem dn_M_limits_54 : decode bn_M_limits 54 = .ok (.getfield 43, 3) := by decide +kernel
theorem dn_M_limits_57 : decode bn_M_limits 57 = .ok (.iload 5, 2) := by decide +kernel
theorem dn_M_limits_59 : decode bn_M_limits 59 = .ok (.iaload, 1) := by decide +kernel
theorem dn_M_limits_60 : decode bn_M_limits 60 = .ok (.i2l, 1) := by decide +kernel
theorem dn_M_limits_61 : decode bn_M_limits 61 = .ok (.ladd, 1) := by decide +kernel
theorem dn_M_limits_62 : decode bn_M_limits 62 = .ok (.goto 4, 3) := by decide +kernel
theorem dn_M_limits_65 : decode bn_M_limits 65 = .ok (.lload_n 3, 1) := by decide +kernel
theorem dn_M_limits_66 : decode bn_M_limits 66 = .ok (.lstore_n 3, 1) := by decide +kernel
theorem dn_M_limits_67 : decode bn_M_limits 67 = .ok (.iinc 5 1, 3) := by decide +kernel
theorem dn_M_limits_70 : decode bn_M_limits 70 = .ok (.goto (-41), 3) := by decide +kernel
theorem dn_M_limits_73 : decode bn_M_limits 73 = .ok (.lconst 1, 1) := by decide +kernel
theorem dn_M_limits_74 : decode bn_M_limits 74 = .ok (.aload_n 0, 1) := by decide +kernel
theorem dn_M_limits_75 : decode bn_M_limits 75 = .ok (.getfield 110, 3) := by decide +kernel
theorem dn_M_limits_78 : decode bn_M_limits 78 = .ok (.iload_n 1, 1) := by decide +kernel
theorem dn_M_limits_79 : decode bn_M_limits 79 = .ok (.laload, 1) := by decide +kernel
theorem dn_M_limits_80 : decode bn_M_limits 80 = .ok (.invokestatic 467, 3) := by decide +kernel
theorem dn_M_limits_83 : decode bn_M_limits 83 = .ok (.ldc2_w 474, 3) := by decide +kernel
theorem dn_M_limits_86 : decode bn_M_limits 86 = .ok (.lcmp, 1) := by decide +kernel
theorem dn_M_limits_87 : decode bn_M_limits 87 = .ok (.ifCond .le 9, 3) := by decide +kernel
theorem dn_M_limits_90 : decode bn_M_limits 90 = .ok (.ldc2_w 474, 3) := by decide +kernel
theorem dn_M_limits_93 : decode bn_M_limits 93 = .ok (.goto 9, 3) := by decide +kernel
theorem dn_M_limits_96 : decode bn_M_limits 96 = .ok (.aload_n 0, 1) := by decide +kernel
theorem dn_M_limits_97 : decode bn_M_limits 97 = .ok (.getfield 110, 3) := by decide +kernel
theorem dn_M_limits_100 : decode bn_M_limits 100 = .ok (.iload_n 1, 1) := by decide +kernel
theorem dn_M_limits_101 : decode bn_M_limits 101 = .ok (.laload, 1) := by decide +kernel
theorem dn_M_limits_102 : decode bn_M_limits 102 = .ok (.l2i, 1) := by decide +kernel
theorem dn_M_limits_103 : decode bn_M_limits 103 = .ok (.lload_n 3, 1) := by decide +kernel
theorem dn_M_limits_104 : decode bn_M_limits 104 = .ok (.ldc2_w 476, 3) := by decide +kernel
theorem dn_M_limits_107 : decode bn_M_limits 107 = .ok (.lcmp, 1) := by decide +kernel
theorem dn_M_limits_108 : decode bn_M_limits 108 = .ok (.ifCond .le 9, 3) := by decide +kernel
theorem dn_M_limits_111 : decode bn_M_limits 111 = .ok (.ldc2_w 476, 3) := by decide +kernel
theorem dn_M_limits_114 : decode bn_M_limits 114 = .ok (.goto 4, 3) := by decide +kernel
theorem dn_M_limits_117 : decode bn_M_limits 117 = .ok (.lload_n 3, 1) := by decide +kernel
theorem dn_M_limits_118 : decode bn_M_limits 118 = .ok (.l2i, 1) := by decide +kernel
theorem dn_M_limits_119 : decode bn_M_limits 119 = .ok (.iadd, 1) := by decide +kernel
theorem dn_M_limits_120 : decode bn_M_limits 120 = .ok (.lshl, 1) := by decide +kernel
theorem dn_M_limits_121 : decode bn_M_limits 121 = .ok (.lstore 5, 2) := by decide +kernel
theorem dn_M_limits_123 : decode bn_M_limits 123 = .ok (.aload_n 0, 1) := by decide +kernel
theorem dn_M_limits_124 : decode bn_M_limits 124 = .ok (.getfield 101, 3) := by decide +kernel
theorem dn_M_limits_127 : decode bn_M_limits 127 = .ok (.iload_n 1, 1) := by decide +kernel
theorem dn_M_limits_128 : decode bn_M_limits 128 = .ok (.laload, 1) := by decide +kernel
theorem dn_M_limits_129 : decode bn_M_limits 129 = .ok (.lconst 1, 1) := by decide +kernel
theorem dn_M_limits_130 : decode bn_M_limits 130 = .ok (.lcmp, 1) := by decide +kernel
theorem dn_M_limits_131 : decode bn_M_limits 131 = .ok (.ifCond .le 12, 3) := by decide +kernel
theorem dn_M_limits_134 : decode bn_M_limits 134 = .ok (.aload_n 0, 1) := by decide +kernel
theorem dn_M_limits_135 : decode bn_M_limits 135 = .ok (.getfield 101, 3) := by decide +kernel
theorem dn_M_limits_138 : decode bn_M_limits 138 = .ok (.iload_n 1, 1) := by decide +kernel
theorem dn_M_limits_139 : decode bn_M_limits 139 = .ok (.laload, 1) := by decide +kernel
theorem dn_M_limits_140 : decode bn_M_limits 140 = .ok (.goto 4, 3) := by decide +kernel
theorem dn_M_limits_143 : decode bn_M_limits 143 = .ok (.lconst 1, 1) := by decide +kernel
theorem dn_M_limits_144 : decode bn_M_limits 144 = .ok (.lstore 7, 2) := by decide +kernel
theorem dn_M_limits_146 : decode bn_M_limits 146 = .ok (.aload_n 0, 1) := by decide +kernel
theorem dn_M_limits_147 : decode bn_M_limits 147 = .ok (.aload_n 0, 1) := by decide +kernel
theorem dn_M_limits_148 : decode bn_M_limits 148 = .ok (.getfield 104, 3) := by decide +kernel
theorem dn_M_limits_151 : decode bn_M_limits 151 = .ok (.iload_n 1, 1) := by decide +kernel
theorem dn_M_limits_152 : decode bn_M_limits 152 = .ok (.laload, 1) := by decide +kernel
theorem dn_M_limits_153 : decode bn_M_limits 153 = .ok (.ldc2_w 478, 3) := by decide +kernel
theorem dn_M_limits_156 : decode bn_M_limits 156 = .ok (.lcmp, 1) := by decide +kernel
theorem dn_M_limits_157 : decode bn_M_limits 157 = .ok (.ifCond .gt 7, 3) := by decide +kernel
theorem dn_M_limits_160 : decode bn_M_limits 160 = .ok (.iconst 1, 1) := by decide +kernel
theorem dn_M_limits_161 : decode bn_M_limits 161 = .ok (.goto 4, 3) := by decide +kernel
theorem dn_M_limits_164 : decode bn_M_limits 164 = .ok (.iconst 0, 1) := by decide +kernel
theorem dn_M_limits_165 : decode bn_M_limits 165 = .ok (.bipush 40, 2) := by decide +kernel
theorem dn_M_limits_167 : decode bn_M_limits 167 = .ok (.iload_n 2, 1) := by decide +kernel
theorem dn_M_limits_168 : decode bn_M_limits 168 = .ok (.invokevirtual 480, 3) := by decide +kernel
theorem dn_M_limits_171 : decode bn_M_limits 171 = .ok (.aload_n 0, 1) := by decide +kernel
theorem dn_M_limits_172 : decode bn_M_limits 172 = .ok (.aload_n 0, 1) := by decide +kernel
theorem dn_M_limits_173 : decode bn_M_limits 173 = .ok (.getfield 107, 3) := by decide +kernel
theorem dn_M_limits_176 : decode bn_M_limits 176 = .ok (.iload_n 1, 1) := by decide +kernel
theorem dn_M_limits_177 : decode bn_M_limits 177 = .ok (.laload, 1) := by decide +kernel
theorem dn_M_limits_178 : decode bn_M_limits 178 = .ok (.ldc2_w 484, 3) := by decide +kernel
theorem dn_M_limits_181 : decode bn_M_limits 181 = .ok (.lcmp, 1) := by decide +kernel
theorem dn_M_limits_182 : decode bn_M_limits 182 = .ok (.ifCond .gt 7, 3) := by decide +kernel
theorem dn_M_limits_185 : decode bn_M_limits 185 = .ok (.iconst 1, 1) := by decide +kernel
theorem dn_M_limits_186 : decode bn_M_limits 186 = .ok (.goto 4, 3) := by decide +kernel
theorem dn_M_limits_189 : decode bn_M_limits 189 = .ok (.iconst 0, 1) := by decide +kernel
theorem dn_M_limits_190 : decode bn_M_limits 190 = .ok (.bipush 41, 2) := by decide +kernel
theorem dn_M_limits_192 : decode bn_M_limits 192 = .ok (.iload_n 2, 1) := by decide +kernel
theorem dn_M_limits_193 : decode bn_M_limits 193 = .ok (.invokevirtual 480, 3) := by decide +kernel
theorem dn_M_limits_196 : decode bn_M_limits 196 = .ok (.aload_n 0, 1) := by decide +kernel
theorem dn_M_limits_197 : decode bn_M_limits 197 = .ok (.aload_n 0, 1) := by decide +kernel
theorem dn_M_limits_198 : decode bn_M_limits 198 = .ok (.getfield 110, 3) := by decide +kernel
theorem dn_M_limits_201 : decode bn_M_limits 201 = .ok (.iload_n 1, 1) := by decide +kernel
theorem dn_M_limits_202 : decode bn_M_limits 202 = .ok (.laload, 1) := by decide +kernel
theorem dn_M_limits_203 : decode bn_M_limits 203 = .ok (.ldc2_w 486, 3) := by decide +kernel
theorem dn_M_limits_206 : decode bn_M_limits 206 = .ok (.lcmp, 1) := by decide +kernel
theorem dn_M_limits_207 : decode bn_M_limits 207 = .ok (.ifCond .gt 7, 3) := by decide +kernel
theorem dn_M_limits_210 : decode bn_M_limits 210 = .ok (.iconst 1, 1) := by decide +kernel
theorem dn_M_limits_211 : decode bn_M_limits 211 = .ok (.goto 4, 3) := by decide +kernel
theorem dn_M_limits_214 : decode bn_M_limits 214 = .ok (.iconst 0, 1) := by decide +kernel
theorem dn_M_limits_215 : decode bn_M_limits 215 = .ok (.bipush 42, 2) := by decide +kernel
theorem dn_M_limits_217 : decode bn_M_limits 217 = .ok (.iload_n 2, 1) := by decide +kernel
theorem dn_M_limits_218 : decode bn_M_limits 218 = .ok (.invokevirtual 480, 3) := by decide +kernel
theorem dn_M_limits_221 : decode bn_M_limits 221 = .ok (.aload_n 0, 1) := by decide +kernel
theorem dn_M_limits_222 : decode bn_M_limits 222 = .ok (.lload_n 3, 1) := by decide +kernel
theorem dn_M_limits_223 : decode bn_M_limits 223 = .ok (.ldc2_w 488, 3) := by decide +kernel
theorem dn_M_limits_226 : decode bn_M_limits 226 = .ok (.lcmp, 1) := by decide +kernel
theorem dn_M_limits_227 : decode bn_M_limits 227 = .ok (.ifCond .gt 7, 3) := by decide +kernel
theorem dn_M_limits_230 : decode bn_M_limits 230 = .ok (.iconst 1, 1) := by decide +kernel
theorem dn_M_limits_231 : decode bn_M_limits 231 = .ok (.goto 4, 3) := by decide +kernel
theorem dn_M_limits_234 : decode bn_M_limits 234 = .ok (.iconst 0, 1) := by decide +kernel
theorem dn_M_limits_235 : decode bn_M_limits 235 = .ok (.bipush 43, 2) := by decide +kernel
theorem dn_M_limits_237 : decode bn_M_limits 237 = .ok (.iload_n 2, 1) := by decide +kernel
theorem dn_M_limits_238 : decode bn_M_limits 238 = .ok (.invokevirtual 480, 3) := by decide +kernel
theorem dn_M_limits_241 : decode bn_M_limits 241 = .ok (.aload_n 0, 1) := by decide +kernel
theorem dn_M_limits_242 : decode bn_M_limits 242 = .ok (.aload_n 0, 1) := by decide +kernel
theorem dn_M_limits_243 : decode bn_M_limits 243 = .ok (.getfield 101, 3) := by decide +kernel
theorem dn_M_limits_246 : decode bn_M_limits 246 = .ok (.iload_n 1, 1) := by decide +kernel
theorem dn_M_limits_247 : decode bn_M_limits 247 = .ok (.laload, 1) := by decide +kernel
theorem dn_M_limits_248 : decode bn_M_limits 248 = .ok (.ldc2_w 490, 3) := by decide +kernel
theorem dn_M_limits_251 : decode bn_M_limits 251 = .ok (.lcmp, 1) := by decide +kernel
theorem dn_M_limits_252 : decode bn_M_limits 252 = .ok (.ifCond .gt 7, 3) := by decide +kernel
theorem dn_M_limits_255 : decode bn_M_limits 255 = .ok (.iconst 1, 1) := by decide +kernel
theorem dn_M_limits_256 : decode bn_M_limits 256 = .ok (.goto 4, 3) := by decide +kernel
theorem dn_M_limits_259 : decode bn_M_limits 259 = .ok (.iconst 0, 1) := by decide +kernel
theorem dn_M_limits_260 : decode bn_M_limits 260 = .ok (.bipush 44, 2) := by decide +kernel
theorem dn_M_limits_262 : decode bn_M_limits 262 = .ok (.iload_n 2, 1) := by decide +kernel
theorem dn_M_limits_263 : decode bn_M_limits 263 = .ok (.invokevirtual 480, 3) := by decide +kernel
theorem dn_M_limits_266 : decode bn_M_limits 266 = .ok (.aload_n 0, 1) := by decide +kernel
theorem dn_M_limits_267 : decode bn_M_limits 267 = .ok (.aload_n 0, 1) := by decide +kernel
theorem dn_M_limits_268 : decode bn_M_limits 268 = .ok (.getfield 257, 3) := by decide +kernel
theorem dn_M_limits_271 : decode bn_M_limits 271 = .ok (.ifCond .ne 15, 3) := by decide +kernel
theorem dn_M_limits_274 : decode bn_M_limits 274 = .ok (.lload 5, 2) := by decide +kernel
theorem dn_M_limits_276 : decode bn_M_limits 276 = .ok (.lload 7, 2) := by decide +kernel
theorem dn_M_limits_278 : decode bn_M_limits 278 = .ok (.lmul, 1) := by decide +kernel
theorem dn_M_limits_279 : decode bn_M_limits 279 = .ok (.ldc2_w 492, 3) := by decide +kernel
theorem dn_M_limits_282 : decode bn_M_limits 282 = .ok (.lcmp, 1) := by decide +kernel
theorem dn_M_limits_283 : decode bn_M_limits 283 = .ok (.ifCond .gt 7, 3) := by decide +kernel
theorem dn_M_limits_286 : decode bn_M_limits 286 = .ok (.iconst 1, 1) := by decide +kernel
theorem dn_M_limits_287 : decode bn_M_limits 287 = .ok (.goto 4, 3) := by decide +kernel
theorem dn_M_limits_290 : decode bn_M_limits 290 = .ok (.iconst 0, 1) := by decide +kernel
theorem dn_M_limits_291 : decode bn_M_limits 291 = .ok (.bipush 46, 2) := by decide +kernel
theorem dn_M_limits_293 : decode bn_M_limits 293 = .ok (.iload_n 2, 1) := by decide +kernel
theorem dn_M_limits_294 : decode bn_M_limits 294 = .ok (.invokevirtual 480, 3) := by decide +kernel
theorem dn_M_limits_297 : decode bn_M_limits 297 = .ok (.return_, 1) := by decide +kernel
theorem dn_M_link_0 : decode bn_M_link 0 = .ok (.aload_n 0, 1) := by decide +kernel
theorem dn_M_link_1 : decode bn_M_link 1 = .ok (.getfield 19, 3) := by decide +kernel
theorem dn_M_link_4 : decode bn_M_link 4 = .ok (.aload_n 0, 1) := by decide +kernel
theorem dn_M_link_5 : decode bn_M_link 5 = .ok (.getfield 263, 3) := by decide +kernel
theorem dn_M_link_8 : decode bn_M_link 8 = .ok (.iaload, 1) := by decide +kernel
theorem dn_M_link_9 : decode bn_M_link 9 = .ok (.istore_n 2, 1) := by decide +kernel
theorem dn_M_link_10 : decode bn_M_link 10 = .ok (.aload_n 0, 1) := by decide +kernel
theorem dn_M_link_11 : decode bn_M_link 11 = .ok (.dup, 1) := by decide +kernel
theorem dn_M_link_12 : decode bn_M_link 12 = .ok (.getfield 263, 3) := by decide +kernel
theorem dn_M_link_15 : decode bn_M_link 15 = .ok (.iconst 1, 1) := by decide +kernel
theorem dn_M_link_16 : decode bn_M_link 16 = .ok (.iadd, 1) := by decide +kernel
theorem dn_M_link_17 : decode bn_M_link 17 = .ok (.putfield 263, 3) := by decide +kernel
theorem dn_M_link_20 : decode bn_M_link 20 = .ok (.aload_n 0, 1) := by decide +kernel
theorem dn_M_link_21 : decode bn_M_link 21 = .ok (.aload_n 0, 1) := by decide +kernel
theorem dn_M_link_22 : decode bn_M_link 22 = .ok (.getfield 263, 3) := by decide +kernel
theorem dn_M_link_25 : decode bn_M_link 25 = .ok (.aload_n 0, 1) := by decide +kernel
theorem dn_M_link_26 : decode bn_M_link 26 = .ok (.getfield 28, 3) := by decide +kernel
theorem dn_M_link_29 : decode bn_M_link 29 = .ok (.iload_n 1, 1) := by decide +kernel
theorem dn_M_link_30 : decode bn_M_link 30 = .ok (.iaload, 1) := by decide +kernel
theorem dn_M_link_31 : decode bn_M_link 31 = .ok (.aload_n 0, 1) := by decide +kernel
theorem dn_M_link_32 : decode bn_M_link 32 = .ok (.getfield 28, 3) := by decide +kernel
theorem dn_M_link_35 : decode bn_M_link 35 = .ok (.iload_n 1, 1) := by decide +kernel
theorem dn_M_link_36 : decode bn_M_link 36 = .ok (.iconst 1, 1) := by decide +kernel
theorem dn_M_link_37 : decode bn_M_link 37 = .ok (.iadd, 1) := by decide +kernel
theorem dn_M_link_38 : decode bn_M_link 38 = .ok (.iaload, 1) := by decide +kernel
theorem dn_M_link_39 : decode bn_M_link 39 = .ok (.invokevirtual 342, 3) := by decide +kernel
theorem dn_M_link_42 : decode bn_M_link 42 = .ok (.istore_n 3, 1) := by decide +kernel
theorem dn_M_link_43 : decode bn_M_link 43 = .ok (.iload_n 3, 1) := by decide +kernel
theorem dn_M_link_44 : decode bn_M_link 44 = .ok (.ifCond .lt 29, 3) := by decide +kernel
theorem dn_M_link_47 : decode bn_M_link 47 = .ok (.aload_n 0, 1) := by decide +kernel
theorem dn_M_link_48 : decode bn_M_link 48 = .ok (.getfield 46, 3) := by decide +kernel
theorem dn_M_link_51 : decode bn_M_link 51 = .ok (.iload_n 3, 1) := by decide +kernel
theorem dn_M_link_52 : decode bn_M_link 52 = .ok (.iaload, 1) := by decide +kernel
theorem dn_M_link_53 : decode bn_M_link 53 = .ok (.iconst 2, 1) := by decide +kernel
theorem dn_M_link_54 : decode bn_M_link 54 = .ok (.if_icmp .gt 19, 3) := by decide +kernel
theorem dn_M_link_57 : decode bn_M_link 57 = .ok (.aload_n 0, 1) := by decide +kernel
theorem dn_M_link_58 : decode bn_M_link 58 = .ok (.aload_n 0, 1) := by decide +kernel
theorem dn_M_link_59 : decode bn_M_link 59 = .ok (.getfield 346, 3) := by decide +kernel
theorem dn_M_link_62 : decode bn_M_link 62 = .ok (.aload_n 0, 1) := by decide +kernel
theorem dn_M_link_63 : decode bn_M_link 63 = .ok (.getfield 441, 3) := by decide +kernel
theorem dn_M_link_66 : decode bn_M_link 66 = .ok (.iload_n 3, 1) := by decide +kernel
theorem dn_M_link_67 : decode bn_M_link 67 = .ok (.invokevirtual 447, 3) := by decide +kernel
theorem dn_M_link_70 : decode bn_M_link 70 = .ok (.ifCond .lt 19, 3) := by decide +kernel
theorem dn_M_link_73 : decode bn_M_link 73 = .ok (.aload_n 0, 1) := by decide +kernel
theorem dn_M_link_74 : decode bn_M_link 74 = .ok (.bipush 23, 2) := by decide +kernel
theorem dn_M_link_76 : decode bn_M_link 76 = .ok (.aload_n 0, 1) := by decide +kernel
theorem dn_M_link_77 : decode bn_M_link 77 = .ok (.getfield 19, 3) := by decide +kernel
theorem dn_M_link_80 : decode bn_M_link 80 = .ok (.aload_n 0, 1) := by decide +kernel
theorem dn_M_link_81 : decode bn_M_link 81 = .ok (.getfield 263, 3) := by decide +kernel
theorem dn_M_link_84 : decode bn_M_link 84 = .ok (.iaload, 1) := by decide +kernel
theorem dn_M_link_85 : decode bn_M_link 85 = .ok (.invokevirtual 266, 3) := by decide +kernel
theorem dn_M_link_88 : decode bn_M_link 88 = .ok (.return_, 1) := by decide +kernel
theorem dn_M_link_89 : decode bn_M_link 89 = .ok (.aload_n 0, 1) := by decide +kernel
theorem dn_M_link_90 : decode bn_M_link 90 = .ok (.aload_n 0, 1) := by decide +kernel
theorem dn_M_link_91 : decode bn_M_link 91 = .ok (.getfield 263, 3) := by decide +kernel
theorem dn_M_link_94 : decode bn_M_link 94 = .ok (.iconst 2, 1) := by decide +kernel
theorem dn_M_link_95 : decode bn_M_link 95 = .ok (.iadd, 1) := by decide +kernel
theorem dn_M_link_96 : decode bn_M_link 96 = .ok (.putfield 263, 3) := by decide +kernel
theorem dn_M_link_99 : decode bn_M_link 99 = .ok (.aload_n 0, 1) := by decide +kernel
theorem dn_M_link_100 : decode bn_M_link 100 = .ok (.getfield 263, 3) := by decide +kernel
theorem dn_M_link_103 : decode bn_M_link 103 = .ok (.istore 4, 2) := by decide +kernel
theorem dn_M_link_105 : decode bn_M_link 105 = .ok (.aload_n 0, 1) := by decide +kernel
theorem dn_M_link_106 : decode bn_M_link 106 = .ok (.getfield 349, 3) := by decide +kernel
theorem dn_M_link_109 : decode bn_M_link 109 = .ok (.istore 5, 2) := by decide +kernel
theorem dn_M_link_111 : decode bn_M_link 111 = .ok (.aload_n 0, 1) := by decide +kernel
theorem dn_M_link_112 : decode bn_M_link 112 = .ok (.invokevirtual 358, 3) := by decide +kernel
theorem dn_M_link_115 : decode bn_M_link 115 = .ok (.istore 6, 2) := by decide +kernel
theorem dn_M_link_117 : decode bn_M_link 117 = .ok (.aload_n 0, 1) := by decide +kernel
theorem dn_M_link_118 : decode bn_M_link 118 = .ok (.getfield 257, 3) := by decide +kernel
theorem dn_M_link_121 : decode bn_M_link 121 = .ok (.ifCond .eq 4, 3) := by decide +kernel
theorem dn_M_link_124 : decode bn_M_link 124 = .ok (.return_, 1) := by decide +kernel
theorem dn_M_link_125 : decode bn_M_link 125 = .ok (.aload_n 0, 1) := by decide +kernel
theorem dn_M_link_126 : decode bn_M_link 126 = .ok (.getfield 46, 3) := by decide +kernel
theorem dn_M_link_129 : decode bn_M_link 129 = .ok (.iload_n 3, 1) := by decide +kernel
theorem dn_M_link_130 : decode bn_M_link 130 = .ok (.iaload, 1) := by decide +kernel
theorem dn_M_link_131 : decode bn_M_link 131 = .ok (.ifCond .eq 7, 3) := by decide +kernel
theorem dn_M_link_134 : decode bn_M_link 134 = .ok (.iconst 1, 1) := by decide +kernel
theorem dn_M_link_135 : decode bn_M_link 135 = .ok (.goto 4, 3) := by decide +kernel
theorem dn_M_link_138 : decode bn_M_link 138 = .ok (.iconst 0, 1) := by decide +kernel
theorem dn_M_link_139 : decode bn_M_link 139 = .ok (.istore 7, 2) := by decide +kernel
theorem dn_M_link_141 : decode bn_M_link 141 = .ok (.iload 7, 2) := by decide +kernel
theorem dn_M_link_143 : decode bn_M_link 143 = .ok (.ifCond .eq 36, 3) := by decide +kernel
theorem dn_M_link_146 : decode bn_M_link 146 = .ok (.aload_n 0, 1) := by decide +kernel
theorem dn_M_link_147 : decode bn_M_link 147 = .ok (.getfield 15, 3) := by decide +kernel
theorem dn_M_link_150 : decode bn_M_link 150 = .ok (.iload 4, 2) := by decide +kernel
theorem dn_M_link_152 : decode bn_M_link 152 = .ok (.iaload, 1) := by decide +kernel
theorem dn_M_link_153 : decode bn_M_link 153 = .ok (.sipush 400, 3) := by decide +kernel
theorem dn_M_link_156 : decode bn_M_link 156 = .ok (.if_icmp .ne 23, 3) := by decide +kernel
theorem dn_M_link_159 : decode bn_M_link 159 = .ok (.aload_n 0, 1) := by decide +kernel
theorem dn_M_link_160 : decode bn_M_link 160 = .ok (.getfield 263, 3) := by decide +kernel
theorem dn_M_link_163 : decode bn_M_link 163 = .ok (.iload 4, 2) := by decide +kernel
theorem dn_M_link_165 : decode bn_M_link 165 = .ok (.iconst 1, 1) := by decide +kernel
theorem dn_M_link_166 : decode bn_M_link 166 = .ok (.iadd, 1) := by decide +kernel
theorem dn_M_link_167 : decode bn_M_link 167 = .ok (.if_icmp .ne 12, 3) := by decide +kernel
theorem dn_M_link_170 : decode bn_M_link 170 = .ok (.aload_n 0, 1) := by decide +kernel
theorem dn_M_link_171 : decode bn_M_link 171 = .ok (.iload 4, 2) := by decide +kernel
theorem dn_M_link_173 : decode bn_M_link 173 = .ok (.invokevirtual 400, 3) := by decide +kernel
theorem dn_M_link_176 : decode bn_M_link 176 = .ok (.goto 4, 3) := by decide +kernel
theorem dn_M_link_179 : decode bn_M_link 179 = .ok (.iconst (-1), 1) := by decide +kernel
theorem dn_M_link_180 : decode bn_M_link 180 = .ok (.istore 8, 2) := by decide +kernel
theorem dn_M_link_182 : decode bn_M_link 182 = .ok (.iload 7, 2) := by decide +kernel
theorem dn_M_link_184 : decode bn_M_link 184 = .ok (.ifCond .eq 31, 3) := by decide +kernel
theorem dn_M_link_187 : decode bn_M_link 187 = .ok (.iload 8, 2) := by decide +kernel
theorem dn_M_link_189 : decode bn_M_link 189 = .ok (.ifCond .lt 12, 3) := by decide +kernel
theorem dn_M_link_192 : decode bn_M_link 192 = .ok (.aload_n 0, 1) := by decide +kernel
theorem dn_M_link_193 : decode bn_M_link 193 = .ok (.iload 8, 2) := by decide +kernel
theorem dn_M_link_195 : decode bn_M_link 195 = .ok (.invokevirtual 417, 3) := by decide +kernel
theorem dn_M_link_198 : decode bn_M_link 198 = .ok (.ifCond .ne 17, 3) := by decide +kernel
theorem dn_M_link_201 : decode bn_M_link 201 = .ok (.aload_n 0, 1) := by decide +kernel
theorem dn_M_link_202 : decode bn_M_link 202 = .ok (.bipush 25, 2) := by decide +kernel
theorem dn_M_link_204 : decode bn_M_link 204 = .ok (.aload_n 0, 1) := by decide +kernel
theorem dn_M_link_205 : decode bn_M_link 205 = .ok (.getfield 19, 3) := by decide +kernel
theorem dn_M_link_208 : decode bn_M_link 208 = .ok (.iload 4, 2) := by decide +kernel
theorem dn_M_link_210 : decode bn_M_link 210 = .ok (.iaload, 1) := by decide +kernel
theorem dn_M_link_211 : decode bn_M_link 211 = .ok (.invokevirtual 266, 3) := by decide +kernel
theorem dn_M_link_214 : decode bn_M_link 214 = .ok (.return_, 1) := by decide +kernel
theorem dn_M_link_215 : decode bn_M_link 215 = .ok (.iload 6, 2) := by decide +kernel
theorem dn_M_link_217 : decode bn_M_link 217 = .ok (.aload_n 0, 1) := by decide +kernel
theorem dn_M_link_218 : decode bn_M_link 218 = .ok (.getfield 43, 3) := by decide +kernel
theorem dn_M_link_221 : decode bn_M_link 221 = .ok (.iload_n 3, 1) := by decide +kernel
theorem dn_M_link_222 : decode bn_M_link 222 = .ok (.iaload, 1) := by decide +kernel
theorem dn_M_link_223 : decode bn_M_link 223 = .ok (.if_icmp .eq 10, 3) := by decide +kernel
theorem dn_M_link_226 : decode bn_M_link 226 = .ok (.aload_n 0, 1) := by decide +kernel
theorem dn_M_link_227 : decode bn_M_link 227 = .ok (.bipush 30, 2) := by decide +kernel
theorem dn_M_link_229 : decode bn_M_link 229 = .ok (.iload_n 2, 1) := by decide +kernel
theorem dn_M_link_230 : decode bn_M_link 230 = .ok (.invokevirtual 266, 3) := by decide +kernel
theorem dn_M_link_233 : decode bn_M_link 233 = .ok (.iload 7, 2) := by decide +kernel
theorem dn_M_link_235 : decode bn_M_link 235 = .ok (.ifCond .eq 26, 3) := by decide +kernel
theorem dn_M_link_238 : decode bn_M_link 238 = .ok (.aload_n 0, 1) := by decide +kernel
theorem dn_M_link_239 : decode bn_M_link 239 = .ok (.getfield 53, 3) := by decide +kernel
theorem dn_M_link_242 : decode bn_M_link 242 = .ok (.iload 8, 2) := by decide +kernel
theorem dn_M_link_244 : decode bn_M_link 244 = .ok (.iaload, 1) := by decide +kernel
theorem dn_M_link_245 : decode bn_M_link 245 = .ok (.ifCond .eq 16, 3) := by decide +kernel
theorem dn_M_link_248 : decode bn_M_link 248 = .ok (.aload_n 0, 1) := by decide +kernel
theorem dn_M_link_249 : decode bn_M_link 249 = .ok (.bipush 31, 2) := by decide +kernel
theorem dn_M_link_251 : decode bn_M_link 251 = .ok (.aload_n 0, 1) := by decide +kernel
theorem dn_M_link_252 : decode bn_M_link 252 = .ok (.getfield 19, 3) := by decide +kernel
theorem dn_M_link_255 : decode bn_M_link 255 = .ok (.iload 4, 2) := by decide +kernel
theorem dn_M_link_257 : decode bn_M_link 257 = .ok (.iaload, 1) := by decide +kernel
theorem dn_M_link_258 : decode bn_M_link 258 = .ok (.invokevirtual 266, 3) := by decide +kernel
theorem dn_M_link_261 : decode bn_M_link 261 = .ok (.aload_n 0, 1) := by decide +kernel
theorem dn_M_link_262 : decode bn_M_link 262 = .ok (.getfield 74, 3) := by decide +kernel
theorem dn_M_link_265 : decode bn_M_link 265 = .ok (.aload_n 0, 1) := by decide +kernel
theorem dn_M_link_266 : decode bn_M_link 266 = .ok (.getfield 441, 3) := by decide +kernel
theorem dn_M_link_269 : decode bn_M_link 269 = .ok (.iload_n 3, 1) := by decide +kernel
theorem dn_M_link_270 : decode bn_M_link 270 = .ok (.iastore, 1) := by decide +kernel
theorem dn_M_link_271 : decode bn_M_link 271 = .ok (.aload_n 0, 1) := by decide +kernel
theorem dn_M_link_272 : decode bn_M_link 272 = .ok (.getfield 77, 3) := by decide +kernel
theorem dn_M_link_275 : decode bn_M_link 275 = .ok (.aload_n 0, 1) := by decide +kernel
theorem dn_M_link_276 : decode bn_M_link 276 = .ok (.getfield 441, 3) := by decide +kernel
theorem dn_M_link_279 : decode bn_M_link 279 = .ok (.iload 5, 2) := by decide +kernel
theorem dn_M_link_281 : decode bn_M_link 281 = .ok (.iastore, 1) := by decide +kernel
theorem dn_M_link_282 : decode bn_M_link 282 = .ok (.aload_n 0, 1) := by decide +kernel
theorem dn_M_link_283 : decode bn_M_link 283 = .ok (.getfield 80, 3) := by decide +kernel
theorem dn_M_link_286 : decode bn_M_link 286 = .ok (.aload_n 0, 1) := by decide +kernel
theorem dn_M_link_287 : decode bn_M_link 287 = .ok (.getfield 441, 3) := by decide +kernel
theorem dn_M_link_290 : decode bn_M_link 290 = .ok (.aload_n 0, 1) := by decide +kernel
theorem dn_M_link_291 : decode bn_M_link 291 = .ok (.getfield 349, 3) := by decide +kernel
theorem dn_M_link_294 : decode bn_M_link 294 = .ok (.iastore, 1) := by decide +kernel
theorem dn_M_link_295 : decode bn_M_link 295 = .ok (.aload_n 0, 1) := by decide +kernel
theorem dn_M_link_296 : decode bn_M_link 296 = .ok (.dup, 1) := by decide +kernel
theorem dn_M_link_297 : decode bn_M_link 297 = .ok (.getfield 441, 3) := by decide +kernel
theorem dn_M_link_300 : decode bn_M_link 300 = .ok (.iconst 1, 1) := by decide +kernel
theorem dn_M_link_301 : decode bn_M_link 301 = .ok (.iadd, 1) := by decide +kernel
theorem dn_M_link_302 : decode bn_M_link 302 = .ok (.putfield 441, 3) := by decide +kernel
theorem dn_M_link_305 : decode bn_M_link 305 = .ok (.iload 7, 2) := by decide +kernel
theorem dn_M_link_307 : decode bn_M_link 307 = .ok (.ifCond .eq 30, 3) := by decide +kernel
theorem dn_M_link_310 : decode bn_M_link 310 = .ok (.aload_n 0, 1) := by decide +kernel
theorem dn_M_link_311 : decode bn_M_link 311 = .ok (.getfield 53, 3) := by decide +kernel
theorem dn_M_link_314 : decode bn_M_link 314 = .ok (.iload 8, 2) := by decide +kernel
theorem dn_M_link_316 : decode bn_M_link 316 = .ok (.iconst 2, 1) := by decide +kernel
theorem dn_M_link_317 : decode bn_M_link 317 = .ok (.iastore, 1) := by decide +kernel
theorem dn_M_link_318 : decode bn_M_link 318 = .ok (.aload_n 0, 1) := by decide +kernel
theorem dn_M_link_319 : decode bn_M_link 319 = .ok (.getfield 56, 3) := by decide +kernel
theorem dn_M_link_322 : decode bn_M_link 322 = .ok (.iload 8, 2) := by decide +kernel
theorem dn_M_link_324 : decode bn_M_link 324 = .ok (.aload_n 0, 1) := by decide +kernel
theorem dn_M_link_325 : decode bn_M_link 325 = .ok (.getfield 346, 3) := by decide +kernel
theorem dn_M_link_328 : decode bn_M_link 328 = .ok (.iastore, 1) := by decide +kernel
theorem dn_M_link_329 : decode bn_M_link 329 = .ok (.aload_n 0, 1) := by decide +kernel
theorem dn_M_link_330 : decode bn_M_link 330 = .ok (.getfield 59, 3) := by decide +kernel
theorem dn_M_link_333 : decode bn_M_link 333 = .ok (.iload 8, 2) := by decide +kernel
theorem dn_M_link_335 : decode bn_M_link 335 = .ok (.iload_n 3, 1) := by decide +kernel
theorem dn_M_link_336 : decode bn_M_link 336 = .ok (.iastore, 1) := by decide +kernel
theorem dn_M_link_337 : decode bn_M_link 337 = .ok (.aload_n 0, 1) := by decide +kernel
theorem dn_M_link_338 : decode bn_M_link 338 = .ok (.dup, 1) := by decide +kernel
theorem dn_M_link_339 : decode bn_M_link 339 = .ok (.getfield 263, 3) := by decide +kernel
theorem dn_M_link_342 : decode bn_M_link 342 = .ok (.iconst 1, 1) := by decide +kernel
theorem dn_M_link_343 : decode bn_M_link 343 = .ok (.iadd, 1) := by decide +kernel
theorem dn_M_link_344 : decode bn_M_link 344 = .ok (.putfield 263, 3) := by decide +kernel
theorem dn_M_link_347 : decode bn_M_link 347 = .ok (.return_, 1) := by decide +kernel
theorem dn_M_linkGrammar_0 : decode bn_M_linkGrammar 0 = .ok (.aload_n 0, 1) := by decide +kernel
theorem dn_M_linkGrammar_1 : decode bn_M_linkGrammar 1 = .ok (.bipush 46, 2) := by decide +kernel
theorem dn_M_linkGrammar_3 : decode bn_M_linkGrammar 3 = .ok (.invokevirtual 279, 3) := by decide +kernel
theorem dn_M_linkGrammar_6 : decode bn_M_linkGrammar 6 = .ok (.aload_n 0, 1) := by decide +kernel
theorem dn_M_linkGrammar_7 : decode bn_M_linkGrammar 7 = .ok (.sipush 400, 3) := by decide +kernel
theorem dn_M_linkGrammar_10 : decode bn_M_linkGrammar 10 = .ok (.invokevirtual 279, 3) := by decide +kernel
theorem dn_M_linkGrammar_13 : decode bn_M_linkGrammar 13 = .ok (.aload_n 0, 1) := by decide +kernel
theorem dn_M_linkGrammar_14 : decode bn_M_linkGrammar 14 = .ok (.bipush 40, 2) := by decide +kernel
theorem dn_M_linkGrammar_16 : decode bn_M_linkGrammar 16 = .ok (.invokevirtual 293, 3) := by decide +kernel
theorem dn_M_linkGrammar_19 : decode bn_M_linkGrammar 19 = .ok (.aload_n 0, 1) := by decide +kernel
theorem dn_M_linkGrammar_20 : decode bn_M_linkGrammar 20 = .ok (.invokevirtual 296, 3) := by decide +kernel
theorem dn_M_linkGrammar_23 : decode bn_M_linkGrammar 23 = .ok (.aload_n 0, 1) := by decide +kernel
theorem dn_M_linkGrammar_24 : decode bn_M_linkGrammar 24 = .ok (.bipush 41, 2) := by decide +kernel
theorem dn_M_linkGrammar_26 : decode bn_M_linkGrammar 26 = .ok (.invokevirtual 305, 3) := by decide +kernel
theorem dn_M_linkGrammar_29 : decode bn_M_linkGrammar 29 = .ok (.return_, 1) := by decide +kernel
theorem dn_M_linkOf_0 : decode bn_M_linkOf 0 = .ok (.aload_n 0, 1) := by decide +kernel
theorem dn_M_linkOf_1 : decode bn_M_linkOf 1 = .ok (.getfield 71, 3) := by decide +kernel
theorem dn_M_linkOf_4 : decode bn_M_linkOf 4 = .ok (.iload_n 1, 1) := by decide +kernel
theorem dn_M_linkOf_5 : decode bn_M_linkOf 5 = .ok (.iaload, 1) := by decide +kernel
theorem dn_M_linkOf_6 : decode bn_M_linkOf 6 = .ok (.istore 4, 2) := by decide +kernel
theorem dn_M_linkOf_8 : decode bn_M_linkOf 8 = .ok (.iload 4, 2) := by decide +kernel
theorem dn_M_linkOf_10 : decode bn_M_linkOf 10 = .ok (.iload_n 2, 1) := by decide +kernel
theorem dn_M_linkOf_11 : decode bn_M_linkOf 11 = .ok (.if_icmp .ge 23, 3) := by decide +kernel
theorem dn_M_linkOf_14 : decode bn_M_linkOf 14 = .ok (.aload_n 0, 1) := by decide +kernel
theorem dn_M_linkOf_15 : decode bn_M_linkOf 15 = .ok (.getfield 74, 3) := by decide +kernel
theorem dn_M_linkOf_18 : decode bn_M_linkOf 18 = .ok (.iload 4, 2) := by decide +kernel
theorem dn_M_linkOf_20 : decode bn_M_linkOf 20 = .ok (.iaload, 1) := by decide +kernel
theorem dn_M_linkOf_21 : decode bn_M_linkOf 21 = .ok (.iload_n 3, 1) := by decide +kernel
theorem dn_M_linkOf_22 : decode bn_M_linkOf 22 = .ok (.if_icmp .ne 6, 3) := by decide +kernel
theorem dn_M_linkOf_25 : decode bn_M_linkOf 25 = .ok (.iload 4, 2) := by decide +kernel
theorem dn_M_linkOf_27 : decode bn_M_linkOf 27 = .ok (.ireturn, 1) := by decide +kernel
theorem dn_M_linkOf_28 : decode bn_M_linkOf 28 = .ok (.iinc 4 1, 3) := by decide +kernel
theorem dn_M_linkOf_31 : decode bn_M_linkOf 31 = .ok (.goto (-23), 3) := by decide +kernel
theorem dn_M_linkOf_34 : decode bn_M_linkOf 34 = .ok (.iconst (-1), 1) := by decide +kernel
theorem dn_M_linkOf_35 : decode bn_M_linkOf 35 = .ok (.ireturn, 1) := by decide +kernel
theorem dn_M_mask_0 : decode bn_M_mask 0 = .ok (.iload_n 0, 1) := by decide +kernel
theorem dn_M_mask_1 : decode bn_M_mask 1 = .ok (.bipush 64, 2) := by decide +kernel
theorem dn_M_mask_3 : decode bn_M_mask 3 = .ok (.if_icmp .lt 9, 3) := by decide +kernel
theorem dn_M_mask_6 : decode bn_M_mask 6 = .ok (.ldc2_w 573, 3) := by decide +kernel
theorem dn_M_mask_9 : decode bn_M_mask 9 = .ok (.goto 8, 3) := by decide +kernel
theorem dn_M_mask_12 : decode bn_M_mask 12 = .ok (.lconst 1, 1) := by decide +kernel
theorem dn_M_mask_13 : decode bn_M_mask 13 = .ok (.iload_n 0, 1) := by decide +kernel
theorem dn_M_mask_14 : decode bn_M_mask 14 = .ok (.lshl, 1) := by decide +kernel
theorem dn_M_mask_15 : decode bn_M_mask 15 = .ok (.lconst 1, 1) := by decide +kernel
theorem dn_M_mask_16 : decode bn_M_mask 16 = .ok (.lsub, 1) := by decide +kernel
theorem dn_M_mask_17 : decode bn_M_mask 17 = .ok (.lreturn, 1) := by decide +kernel
theorem dn_M_module_0 : decode bn_M_module 0 = .ok (.aload_n 0, 1) := by decide +kernel
theorem dn_M_module_1 : decode bn_M_module 1 = .ok (.dup, 1) := by decide +kernel
theorem dn_M_module_2 : decode bn_M_module 2 = .ok (.getfield 263, 3) := by decide +kernel
theorem dn_M_module_5 : decode bn_M_module 5 = .ok (.iconst 1, 1) := by decide +kernel
theorem dn_M_module_6 : decode bn_M_module 6 = .ok (.iadd, 1) := by decide +kernel
theorem dn_M_module_7 : decode bn_M_module 7 = .ok (.putfield 263, 3) := by decide +kernel
theorem dn_M_module_10 : decode bn_M_module 10 = .ok (.aload_n 0, 1) := by decide +kernel
theorem dn_M_module_11 : decode bn_M_module 11 = .ok (.aload_n 0, 1) := by decide +kernel
theorem dn_M_module_12 : decode bn_M_module 12 = .ok (.getfield 263, 3) := by decide +kernel
theorem dn_M_module_15 : decode bn_M_module 15 = .ok (.aload_n 0, 1) := by decide +kernel
theorem dn_M_module_16 : decode bn_M_module 16 = .ok (.getfield 336, 3) := by decide +kernel
theorem dn_M_module_19 : decode bn_M_module 19 = .ok (.invokevirtual 438, 3) := by decide +kernel
theorem dn_M_module_22 : decode bn_M_module 22 = .ok (.ifCond .lt 18, 3) := by decide +kernel
theorem dn_M_module_25 : decode bn_M_module 25 = .ok (.aload_n 0, 1) := by decide +kernel
theorem dn_M_module_26 : decode bn_M_module 26 = .ok (.bipush 20, 2) := by decide +kernel
theorem dn_M_module_28 : decode bn_M_module 28 = .ok (.aload_n 0, 1) := by decide +kernel
theorem dn_M_module_29 : decode bn_M_module 29 = .ok (.getfield 19, 3) := by decide +kernel
theorem dn_M_module_32 : decode bn_M_module 32 = .ok (.aload_n 0, 1) := by decide +kernel
theorem dn_M_module_33 : decode bn_M_module 33 = .ok (.getfield 263, 3) := by decide +kernel
theorem dn_M_module_36 : decode bn_M_module 36 = .ok (.iaload, 1) := by decide +kernel
theorem dn_M_module_37 : decode bn_M_module 37 = .ok (.invokevirtual 266, 3) := by decide +kernel
theorem dn_M_module_40 : decode bn_M_module 40 = .ok (.aload_n 0, 1) := by decide +kernel
theorem dn_M_module_41 : decode bn_M_module 41 = .ok (.getfield 25, 3) := by decide +kernel
theorem dn_M_module_44 : decode bn_M_module 44 = .ok (.aload_n 0, 1) := by decide +kernel
theorem dn_M_module_45 : decode bn_M_module 45 = .ok (.getfield 336, 3) := by decide +kernel
theorem dn_M_module_48 : decode bn_M_module 48 = .ok (.aload_n 0, 1) := by decide +kernel
theorem dn_M_module_49 : decode bn_M_module 49 = .ok (.getfield 263, 3) := by decide +kernel
theorem dn_M_module_52 : decode bn_M_module 52 = .ok (.iastore, 1) := by decide +kernel
theorem dn_M_module_53 : decode bn_M_module 53 = .ok (.aload_n 0, 1) := by decide +kernel
theorem dn_M_module_54 : decode bn_M_module 54 = .ok (.getfield 28, 3) := by decide +kernel
theorem dn_M_module_57 : decode bn_M_module 57 = .ok (.aload_n 0, 1) := by decide +kernel
theorem dn_M_module_58 : decode bn_M_module 58 = .ok (.getfield 336, 3) := by decide +kernel
theorem dn_M_module_61 : decode bn_M_module 61 = .ok (.aload_n 0, 1) := by decide +kernel
theorem dn_M_module_62 : decode bn_M_module 62 = .ok (.getfield 339, 3) := by decide +kernel
theorem dn_M_module_65 : decode bn_M_module 65 = .ok (.iastore, 1) := by decide +kernel
theorem dn_M_module_66 : decode bn_M_module 66 = .ok (.aload_n 0, 1) := by decide +kernel
theorem dn_M_module_67 : decode bn_M_module 67 = .ok (.getfield 31, 3) := by decide +kernel
theorem dn_M_module_70 : decode bn_M_module 70 = .ok (.aload_n 0, 1) := by decide +kernel
theorem dn_M_module_71 : decode bn_M_module 71 = .ok (.getfield 336, 3) := by decide +kernel
theorem dn_M_module_74 : decode bn_M_module 74 = .ok (.aload_n 0, 1) := by decide +kernel
theorem dn_M_module_75 : decode bn_M_module 75 = .ok (.getfield 346, 3) := by decide +kernel
theorem dn_M_module_78 : decode bn_M_module 78 = .ok (.iastore, 1) := by decide +kernel
theorem dn_M_module_79 : decode bn_M_module 79 = .ok (.aload_n 0, 1) := by decide +kernel
theorem dn_M_module_80 : decode bn_M_module 80 = .ok (.getfield 34, 3) := by decide +kernel
theorem dn_M_module_83 : decode bn_M_module 83 = .ok (.aload_n 0, 1) := by decide +kernel
theorem dn_M_module_84 : decode bn_M_module 84 = .ok (.getfield 336, 3) := by decide +kernel
theorem dn_M_module_87 : decode bn_M_module 87 = .ok (.aload_n 0, 1) := by decide +kernel
theorem dn_M_module_88 : decode bn_M_module 88 = .ok (.getfield 453, 3) := by decide +kernel
theorem dn_M_module_91 : decode bn_M_module 91 = .ok (.iastore, 1) := by decide +kernel
theorem dn_M_module_92 : decode bn_M_module 92 = .ok (.aload_n 0, 1) := by decide +kernel
theorem dn_M_module_93 : decode bn_M_module 93 = .ok (.getfield 37, 3) := by decide +kernel
theorem dn_M_module_96 : decode bn_M_module 96 = .ok (.aload_n 0, 1) := by decide +kernel
theorem dn_M_module_97 : decode bn_M_module 97 = .ok (.getfield 336, 3) := by decide +kernel
theorem dn_M_module_100 : decode bn_M_module 100 = .ok (.aload_n 0, 1) := by decide +kernel
theorem dn_M_module_101 : decode bn_M_module 101 = .ok (.getfield 435, 3) := by decide +kernel
theorem dn_M_module_104 : decode bn_M_module 104 = .ok (.iastore, 1) := by decide +kernel
theorem dn_M_module_105 : decode bn_M_module 105 = .ok (.aload_n 0, 1) := by decide +kernel
theorem dn_M_module_106 : decode bn_M_module 106 = .ok (.getfield 101, 3) := by decide +kernel
theorem dn_M_module_109 : decode bn_M_module 109 = .ok (.aload_n 0, 1) := by decide +kernel
theorem dn_M_module_110 : decode bn_M_module 110 = .ok (.getfield 336, 3) := by decide +kernel
theorem dn_M_module_113 : decode bn_M_module 113 = .ok (.lconst 0, 1) := by decide +kernel
theorem dn_M_module_114 : decode bn_M_module 114 = .ok (.lastore, 1) := by decide +kernel
theorem dn_M_module_115 : decode bn_M_module 115 = .ok (.aload_n 0, 1) := by decide +kernel
theorem dn_M_module_116 : decode bn_M_module 116 = .ok (.aload_n 0, 1) := by decide +kernel
theorem dn_M_module_117 : decode bn_M_module 117 = .ok (.getfield 263, 3) := by decide +kernel
theorem dn_M_module_120 : decode bn_M_module 120 = .ok (.iconst 2, 1) := by decide +kernel
theorem dn_M_module_121 : decode bn_M_module 121 = .ok (.iadd, 1) := by decide +kernel
theorem dn_M_module_122 : decode bn_M_module 122 = .ok (.putfield 263, 3) := by decide +kernel
theorem dn_M_module_125 : decode bn_M_module 125 = .ok (.aload_n 0, 1) := by decide +kernel
theorem dn_M_module_126 : decode bn_M_module 126 = .ok (.sipush 302, 3) := by decide +kernel
theorem dn_M_module_129 : decode bn_M_module 129 = .ok (.invokevirtual 273, 3) := by decide +kernel
theorem dn_M_module_132 : decode bn_M_module 132 = .ok (.ifCond .ne 13, 3) := by decide +kernel
theorem dn_M_module_135 : decode bn_M_module 135 = .ok (.aload_n 0, 1) := by decide +kernel
theorem dn_M_module_136 : decode bn_M_module 136 = .ok (.sipush 303, 3) := by decide +kernel
theorem dn_M_module_139 : decode bn_M_module 139 = .ok (.invokevirtual 273, 3) := by decide +kernel
theorem dn_M_module_142 : decode bn_M_module 142 = .ok (.ifCond .eq 36, 3) := by decide +kernel
theorem dn_M_module_145 : decode bn_M_module 145 = .ok (.aload_n 0, 1) := by decide +kernel
theorem dn_M_module_146 : decode bn_M_module 146 = .ok (.invokevirtual 461, 3) := by decide +kernel
theorem dn_M_module_149 : decode bn_M_module 149 = .ok (.aload_n 0, 1) := by decide +kernel
theorem dn_M_module_150 : decode bn_M_module 150 = .ok (.aload_n 0, 1) := by decide +kernel
theorem dn_M_module_151 : decode bn_M_module 151 = .ok (.invokevirtual 286, 3) := by decide +kernel
theorem dn_M_module_154 : decode bn_M_module 154 = .ok (.bipush 44, 2) := by decide +kernel
theorem dn_M_module_156 : decode bn_M_module 156 = .ok (.if_icmp .ne 12, 3) := by decide +kernel
theorem dn_M_module_159 : decode bn_M_module 159 = .ok (.aload_n 0, 1) := by decide +kernel
theorem dn_M_module_160 : decode bn_M_module 160 = .ok (.getfield 263, 3) := by decide +kernel
theorem dn_M_module_163 : decode bn_M_module 163 = .ok (.iconst 1, 1) := by decide +kernel
theorem dn_M_module_164 : decode bn_M_module 164 = .ok (.iadd, 1) := by decide +kernel
theorem dn_M_module_165 : decode bn_M_module 165 = .ok (.goto 7, 3) := by decide +kernel
theorem dn_M_module_168 : decode bn_M_module 168 = .ok (.aload_n 0, 1) := by decide +kernel
theorem dn_M_module_169 : decode bn_M_module 169 = .ok (.getfield 263, 3) := by decide +kernel
theorem dn_M_module_172 : decode bn_M_module 172 = .ok (.putfield 263, 3) := by decide +kernel
theorem dn_M_module_175 : decode bn_M_module 175 = .ok (.goto (-50), 3) := by decide +kernel
theorem dn_M_module_178 : decode bn_M_module 178 = .ok (.aload_n 0, 1) := by decide +kernel
theorem dn_M_module_179 : decode bn_M_module 179 = .ok (.aload_n 0, 1) := by decide +kernel
theorem dn_M_module_180 : decode bn_M_module 180 = .ok (.getfield 263, 3) := by decide +kernel
theorem dn_M_module_183 : decode bn_M_module 183 = .ok (.iconst 2, 1) := by decide +kernel
theorem dn_M_module_184 : decode bn_M_module 184 = .ok (.iadd, 1) := by decide +kernel
theorem dn_M_module_185 : decode bn_M_module 185 = .ok (.putfield 263, 3) := by decide +kernel
theorem dn_M_module_188 : decode bn_M_module 188 = .ok (.aload_n 0, 1) := by decide +kernel
theorem dn_M_module_189 : decode bn_M_module 189 = .ok (.getfield 257, 3) := by decide +kernel
theorem dn_M_module_192 : decode bn_M_module 192 = .ok (.ifCond .ne 20, 3) := by decide +kernel
theorem dn_M_module_195 : decode bn_M_module 195 = .ok (.aload_n 0, 1) := by decide +kernel
theorem dn_M_module_196 : decode bn_M_module 196 = .ok (.invokevirtual 286, 3) := by decide +kernel
theorem dn_M_module_199 : decode bn_M_module 199 = .ok (.sipush 301, 3) := by decide +kernel
theorem dn_M_module_202 : decode bn_M_module 202 = .ok (.if_icmp .eq 10, 3) := by decide +kernel
theorem dn_M_module_205 : decode bn_M_module 205 = .ok (.aload_n 0, 1) := by decide +kernel
theorem dn_M_module_206 : decode bn_M_module 206 = .ok (.invokevirtual 464, 3) := by decide +kernel
theorem dn_M_module_209 : decode bn_M_module 209 = .ok (.goto (-21), 3) := by decide +kernel
theorem dn_M_module_212 : decode bn_M_module 212 = .ok (.aload_n 0, 1) := by decide +kernel
theorem dn_M_module_213 : decode bn_M_module 213 = .ok (.getfield 28, 3) := by decide +kernel
theorem dn_M_module_216 : decode bn_M_module 216 = .ok (.aload_n 0, 1) := by decide +kernel
theorem dn_M_module_217 : decode bn_M_module 217 = .ok (.getfield 336, 3) := by decide +kernel
theorem dn_M_module_220 : decode bn_M_module 220 = .ok (.iaload, 1) := by decide +kernel
theorem dn_M_module_221 : decode bn_M_module 221 = .ok (.istore_n 1, 1) := by decide +kernel
theorem dn_M_module_222 : decode bn_M_module 222 = .ok (.iload_n 1, 1) := by decide +kernel
theorem dn_M_module_223 : decode bn_M_module 223 = .ok (.aload_n 0, 1) := by decide +kernel
theorem dn_M_module_224 : decode bn_M_module 224 = .ok (.getfield 339, 3) := by decide +kernel
theorem dn_M_module_227 : decode bn_M_module 227 = .ok (.if_icmp .ge 50, 3) := by decide +kernel
theorem dn_M_module_230 : decode bn_M_module 230 = .ok (.aload_n 0, 1) := by decide +kernel
theorem dn_M_module_231 : decode bn_M_module 231 = .ok (.getfield 257, 3) := by decide +kernel
theorem dn_M_module_234 : decode bn_M_module 234 = .ok (.ifCond .ne 43, 3) := by decide +kernel
theorem dn_M_module_237 : decode bn_M_module 237 = .ok (.aload_n 0, 1) := by decide +kernel
theorem dn_M_module_238 : decode bn_M_module 238 = .ok (.iload_n 1, 1) := by decide +kernel
theorem dn_M_module_239 : decode bn_M_module 239 = .ok (.invokevirtual 417, 3) := by decide +kernel
theorem dn_M_module_242 : decode bn_M_module 242 = .ok (.ifCond .eq 29, 3) := by decide +kernel
theorem dn_M_module_245 : decode bn_M_module 245 = .ok (.aload_n 0, 1) := by decide +kernel
theorem dn_M_module_246 : decode bn_M_module 246 = .ok (.getfield 53, 3) := by decide +kernel
theorem dn_M_module_249 : decode bn_M_module 249 = .ok (.iload_n 1, 1) := by decide +kernel
theorem dn_M_module_250 : decode bn_M_module 250 = .ok (.iaload, 1) := by decide +kernel
theorem dn_M_module_251 : decode bn_M_module 251 = .ok (.ifCond .ne 20, 3) := by decide +kernel
theorem dn_M_module_254 : decode bn_M_module 254 = .ok (.aload_n 0, 1) := by decide +kernel
theorem dn_M_module_255 : decode bn_M_module 255 = .ok (.bipush 33, 2) := by decide +kernel
theorem dn_M_module_257 : decode bn_M_module 257 = .ok (.aload_n 0, 1) := by decide +kernel
theorem dn_M_module_258 : decode bn_M_module 258 = .ok (.getfield 19, 3) := by decide +kernel
theorem dn_M_module_261 : decode bn_M_module 261 = .ok (.aload_n 0, 1) := by decide +kernel
theorem dn_M_module_262 : decode bn_M_module 262 = .ok (.getfield 40, 3) := by decide +kernel
theorem dn_M_module_265 : decode bn_M_module 265 = .ok (.iload_n 1, 1) := by decide +kernel
theorem dn_M_module_266 : decode bn_M_module 266 = .ok (.iaload, 1) := by decide +kernel
theorem dn_M_module_267 : decode bn_M_module 267 = .ok (.iaload, 1) := by decide +kernel
theorem dn_M_module_268 : decode bn_M_module 268 = .ok (.invokevirtual 266, 3) := by decide +kernel
theorem dn_M_module_271 : decode bn_M_module 271 = .ok (.iinc 1 1, 3) := by decide +kernel
theorem dn_M_module_274 : decode bn_M_module 274 = .ok (.goto (-52), 3) := by decide +kernel
theorem dn_M_module_277 : decode bn_M_module 277 = .ok (.aload_n 0, 1) := by decide +kernel
theorem dn_M_module_278 : decode bn_M_module 278 = .ok (.dup, 1) := by decide +kernel
theorem dn_M_module_279 : decode bn_M_module 279 = .ok (.getfield 263, 3) := by decide +kernel
theorem dn_M_module_282 : decode bn_M_module 282 = .ok (.iconst 1, 1) := by decide +kernel
theorem dn_M_module_283 : decode bn_M_module 283 = .ok (.iadd, 1) := by decide +kernel
theorem dn_M_module_284 : decode bn_M_module 284 = .ok (.putfield 263, 3) := by decide +kernel
theorem dn_M_module_287 : decode bn_M_module 287 = .ok (.lconst 0, 1) := by decide +kernel
theorem dn_M_module_288 : decode bn_M_module 288 = .ok (.lstore_n 1, 1) := by decide +kernel
theorem dn_M_module_289 : decode bn_M_module 289 = .ok (.aload_n 0, 1) := by decide +kernel
theorem dn_M_module_290 : decode bn_M_module 290 = .ok (.getfield 28, 3) := by decide +kernel
theorem dn_M_module_293 : decode bn_M_module 293 = .ok (.aload_n 0, 1) := by decide +kernel
theorem dn_M_module_294 : decode bn_M_module 294 = .ok (.getfield 336, 3) := by decide +kernel
theorem dn_M_module_297 : decode bn_M_module 297 = .ok (.iaload, 1) := by decide +kernel
theorem dn_M_module_298 : decode bn_M_module 298 = .ok (.istore_n 3, 1) := by decide +kernel
theorem dn_M_module_299 : decode bn_M_module 299 = .ok (.iload_n 3, 1) := by decide +kernel
theorem dn_M_module_300 : decode bn_M_module 300 = .ok (.aload_n 0, 1) := by decide +kernel
theorem dn_M_module_301 : decode bn_M_module 301 = .ok (.getfield 339, 3) := by decide +kernel
theorem dn_M_module_304 : decode bn_M_module 304 = .ok (.if_icmp .ge 31, 3) := by decide +kernel
theorem dn_M_module_307 : decode bn_M_module 307 = .ok (.aload_n 0, 1) := by decide +kernel
theorem dn_M_module_308 : decode bn_M_module 308 = .ok (.iload_n 3, 1) := by decide +kernel
theorem dn_M_module_309 : decode bn_M_module 309 = .ok (.invokevirtual 432, 3) := by decide +kernel
theorem dn_M_module_312 : decode bn_M_module 312 = .ok (.ifCond .eq 15, 3) := by decide +kernel
theorem dn_M_module_315 : decode bn_M_module 315 = .ok (.lload_n 1, 1) := by decide +kernel
theorem dn_M_module_316 : decode bn_M_module 316 = .ok (.aload_n 0, 1) := by decide +kernel
theorem dn_M_module_317 : decode bn_M_module 317 = .ok (.getfield 43, 3) := by decide +kernel
theorem dn_M_module_320 : decode bn_M_module 320 = .ok (.iload_n 3, 1) := by decide +kernel
theorem dn_M_module_321 : decode bn_M_module 321 = .ok (.iaload, 1) := by decide +kernel
theorem dn_M_module_322 : decode bn_M_module 322 = .ok (.i2l, 1) := by decide +kernel
theorem dn_M_module_323 : decode bn_M_module 323 = .ok (.ladd, 1) := by decide +kernel
theorem dn_M_module_324 : decode bn_M_module 324 = .ok (.goto 4, 3) := by decide +kernel
theorem dn_M_module_327 : decode bn_M_module 327 = .ok (.lload_n 1, 1) := by decide +kernel
theorem dn_M_module_328 : decode bn_M_module 328 = .ok (.lstore_n 1, 1) := by decide +kernel
theorem dn_M_module_329 : decode bn_M_module 329 = .ok (.iinc 3 1, 3) := by decide +kernel
theorem dn_M_module_332 : decode bn_M_module 332 = .ok (.goto (-33), 3) := by decide +kernel
theorem dn_M_module_335 : decode bn_M_module 335 = .ok (.aload_n 0, 1) := by decide +kernel
theorem dn_M_module_336 : decode bn_M_module 336 = .ok (.getfield 339, 3) := by decide +kernel
theorem dn_M_module_339 : decode bn_M_module 339 = .ok (.aload_n 0, 1) := by decide +kernel
theorem dn_M_module_340 : decode bn_M_module 340 = .ok (.getfield 28, 3) := by decide +kernel
theorem dn_M_module_343 : decode bn_M_module 343 = .ok (.aload_n 0, 1) := by decide +kernel
theorem dn_M_module_344 : decode bn_M_module 344 = .ok (.getfield 336, 3) := by decide +kernel
theorem dn_M_module_347 : decode bn_M_module 347 = .ok (.iaload, 1) := by decide +kernel
theorem dn_M_module_348 : decode bn_M_module 348 = .ok (.isub, 1) := by decide +kernel
theorem dn_M_module_349 : decode bn_M_module 349 = .ok (.i2l, 1) := by decide +kernel
theorem dn_M_module_350 : decode bn_M_module 350 = .ok (.lstore_n 3, 1) := by decide +kernel
theorem dn_M_module_351 : decode bn_M_module 351 = .ok (.lconst 0, 1) := by decide +kernel
theorem dn_M_module_352 : decode bn_M_module 352 = .ok (.lstore 5, 2) := by decide +kernel
theorem dn_M_module_354 : decode bn_M_module 354 = .ok (.aload_n 0, 1) := by decide +kernel
theorem dn_M_module_355 : decode bn_M_module 355 = .ok (.getfield 101, 3) := by decide +kernel
theorem dn_M_module_358 : decode bn_M_module 358 = .ok (.aload_n 0, 1) := by decide +kernel
theorem dn_M_module_359 : decode bn_M_module 359 = .ok (.getfield 336, 3) := by decide +kernel
theorem dn_M_module_362 : decode bn_M_module 362 = .ok (.laload, 1) := by decide +kernel
theorem dn_M_module_363 : decode bn_M_module 363 = .ok (.lstore 7, 2) := by decide +kernel
theorem dn_M_module_365 : decode bn_M_module 365 = .ok (.aload_n 0, 1) := by decide +kernel
theorem dn_M_module_366 : decode bn_M_module 366 = .ok (.getfield 31, 3) := by decide +kernel
theorem dn_M_module_369 : decode bn_M_module 369 = .ok (.aload_n 0, 1) := by decide +kernel
theorem dn_M_module_370 : decode bn_M_module 370 = .ok (.getfield 336, 3) := by decide +kernel
theorem dn_M_module_373 : decode bn_M_module 373 = .ok (.iaload, 1) := by decide +kernel
theorem dn_M_module_374 : decode bn_M_module 374 = .ok (.istore 9, 2) := by decide +kernel
theorem dn_M_module_376 : decode bn_M_module 376 = .ok (.iload 9, 2) := by decide +kernel
theorem dn_M_module_378 : decode bn_M_module 378 = .ok (.aload_n 0, 1) := by decide +kernel
theorem dn_M_module_379 : decode bn_M_module 379 = .ok (.getfield 346, 3) := by decide +kernel
theorem dn_M_module_382 : decode bn_M_module 382 = .ok (.if_icmp .ge 76, 3) := by decide +kernel
theorem dn_M_module_385 : decode bn_M_module 385 = .ok (.aload_n 0, 1) := by decide +kernel
theorem dn_M_module_386 : decode bn_M_module 386 = .ok (.getfield 65, 3) := by decide +kernel
theorem dn_M_module_389 : decode bn_M_module 389 = .ok (.iload 9, 2) := by decide +kernel
theorem dn_M_module_391 : decode bn_M_module 391 = .ok (.iaload, 1) := by decide +kernel
theorem dn_M_module_392 : decode bn_M_module 392 = .ok (.istore 10, 2) := by decide +kernel
theorem dn_M_module_394 : decode bn_M_module 394 = .ok (.lload_n 1, 1) := by decide +kernel
theorem dn_M_module_395 : decode bn_M_module 395 = .ok (.aload_n 0, 1) := by decide +kernel
theorem dn_M_module_396 : decode bn_M_module 396 = .ok (.getfield 110, 3) := by decide +kernel
theorem dn_M_module_399 : decode bn_M_module 399 = .ok (.iload 10, 2) := by decide +kernel
theorem dn_M_module_401 : decode bn_M_module 401 = .ok (.laload, 1) := by decide +kernel
theorem dn_M_module_402 : decode bn_M_module 402 = .ok (.ladd, 1) := by decide +kernel
theorem dn_M_module_403 : decode bn_M_module 403 = .ok (.invokestatic 467, 3) := by decide +kernel
theorem dn_M_module_406 : decode bn_M_module 406 = .ok (.lstore_n 1, 1) := by decide +kernel
theorem dn_M_module_407 : decode bn_M_module 407 = .ok (.lload_n 3, 1) := by decide +kernel
theorem dn_M_module_408 : decode bn_M_module 408 = .ok (.aload_n 0, 1) := by decide +kernel
theorem dn_M_module_409 : decode bn_M_module 409 = .ok (.getfield 107, 3) := by decide +kernel
theorem dn_M_module_412 : decode bn_M_module 412 = .ok (.iload 10, 2) := by decide +kernel
theorem dn_M_module_414 : decode bn_M_module 414 = .ok (.laload, 1) := by decide +kernel
theorem dn_M_module_415 : decode bn_M_module 415 = .ok (.ladd, 1) := by decide +kernel
theorem dn_M_module_416 : decode bn_M_module 416 = .ok (.invokestatic 467, 3) := by decide +kernel
theorem dn_M_module_419 : decode bn_M_module 419 = .ok (.lstore_n 3, 1) := by decide +kernel
theorem dn_M_module_420 : decode bn_M_module 420 = .ok (.lload 5, 2) := by decide +kernel
theorem dn_M_module_422 : decode bn_M_module 422 = .ok (.lconst 1, 1) := by decide +kernel
theorem dn_M_module_423 : decode bn_M_module 423 = .ok (.ladd, 1) := by decide +kernel
theorem dn_M_module_424 : decode bn_M_module 424 = .ok (.aload_n 0, 1) := by decide +kernel
theorem dn_M_module_425 : decode bn_M_module 425 = .ok (.getfield 104, 3) := by decide +kernel
theorem dn_M_module_428 : decode bn_M_module 428 = .ok (.iload 10, 2) := by decide +kernel
theorem dn_M_module_430 : decode bn_M_module 430 = .ok (.laload, 1) := by decide +kernel
theorem dn_M_module_431 : decode bn_M_module 431 = .ok (.ladd, 1) := by decide +kernel
theorem dn_M_module_432 : decode bn_M_module 432 = .ok (.invokestatic 467, 3) := by decide +kernel
theorem dn_M_module_435 : decode bn_M_module 435 = .ok (.lstore 5, 2) := by decide +kernel
theorem dn_M_module_437 : decode bn_M_module 437 = .ok (.lload 7, 2) := by decide +kernel
theorem dn_M_module_439 : decode bn_M_module 439 = .ok (.aload_n 0, 1) := by decide +kernel
theorem dn_M_module_440 : decode bn_M_module 440 = .ok (.getfield 101, 3) := by decide +kernel
theorem dn_M_module_443 : decode bn_M_module 443 = .ok (.iload 10, 2) := by decide +kernel
theorem dn_M_module_445 : decode bn_M_module 445 = .ok (.laload, 1) := by decide +kernel
theorem dn_M_module_446 : decode bn_M_module 446 = .ok (.ladd, 1) := by decide +kernel
theorem dn_M_module_447 : decode bn_M_module 447 = .ok (.invokestatic 467, 3) := by decide +kernel
theorem dn_M_module_450 : decode bn_M_module 450 = .ok (.lstore 7, 2) := by decide +kernel
theorem dn_M_module_452 : decode bn_M_module 452 = .ok (.iinc 9 1, 3) := by decide +kernel
theorem dn_M_module_455 : decode bn_M_module 455 = .ok (.goto (-79), 3) := by decide +kernel
theorem dn_M_module_458 : decode bn_M_module 458 = .ok (.aload_n 0, 1) := by decide +kernel
theorem dn_M_module_459 : decode bn_M_module 459 = .ok (.getfield 110, 3) := by decide +kernel
theorem dn_M_module_462 : decode bn_M_module 462 = .ok (.aload_n 0, 1) := by decide +kernel
theorem dn_M_module_463 : decode bn_M_module 463 = .ok (.getfield 336, 3) := by decide +kernel
theorem dn_M_module_466 : decode bn_M_module 466 = .ok (.lload_n 1, 1) := by decide +kernel
theorem dn_M_module_467 : decode bn_M_module 467 = .ok (.lastore, 1) := by decide +kernel
theorem dn_M_module_468 : decode bn_M_module 468 = .ok (.aload_n 0, 1) := by decide +kernel
theorem dn_M_module_469 : decode bn_M_module 469 = .ok (.getfield 107, 3) := by decide +kernel
theorem dn_M_module_472 : decode bn_M_module 472 = .ok (.aload_n 0, 1) := by decide +kernel
theorem dn_M_module_473 : decode bn_M_module 473 = .ok (.getfield 336, 3) := by decide +kernel
theorem dn_M_module_476 : decode bn_M_module 476 = .ok (.lload_n 3, 1) := by decide +kernel
theorem dn_M_module_477 : decode bn_M_module 477 = .ok (.lastore, 1) := by decide +kernel
theorem dn_M_module_478 : decode bn_M_module 478 = .ok (.aload_n 0, 1) := by decide +kernel
theorem dn_M_module_479 : decode bn_M_module 479 = .ok (.getfield 104, 3) := by decide +kernel
theorem dn_M_module_482 : decode bn_M_module 482 = .ok (.aload_n 0, 1) := by decide +kernel
theorem dn_M_module_483 : decode bn_M_module 483 = .ok (.getfield 336, 3) := by decide +kernel
theorem dn_M_module_486 : decode bn_M_module 486 = .ok (.lload 5, 2) := by decide +kernel
theorem dn_M_module_488 : decode bn_M_module 488 = .ok (.lastore, 1) := by decide +kernel
theorem dn_M_module_489 : decode bn_M_module 489 = .ok (.aload_n 0, 1) := by decide +kernel
theorem dn_M_module_490 : decode bn_M_module 490 = .ok (.getfield 101, 3) := by decide +kernel
theorem dn_M_module_493 : decode bn_M_module 493 = .ok (.aload_n 0, 1) := by decide +kernel
theorem dn_M_module_494 : decode bn_M_module 494 = .ok (.getfield 336, 3) := by decide +kernel
theorem dn_M_module_497 : decode bn_M_module 497 = .ok (.lload 7, 2) := by decide +kernel
theorem dn_M_module_499 : decode bn_M_module 499 = .ok (.invokestatic 467, 3) := by decide +kernel
theorem dn_M_module_502 : decode bn_M_module 502 = .ok (.lastore, 1) := by decide +kernel
theorem dn_M_module_503 : decode bn_M_module 503 = .ok (.aload_n 0, 1) := by decide +kernel
theorem dn_M_module_504 : decode bn_M_module 504 = .ok (.dup, 1) := by decide +kernel
theorem dn_M_module_505 : decode bn_M_module 505 = .ok (.getfield 336, 3) := by decide +kernel
theorem dn_M_module_508 : decode bn_M_module 508 = .ok (.iconst 1, 1) := by decide +kernel
theorem dn_M_module_509 : decode bn_M_module 509 = .ok (.iadd, 1) := by decide +kernel
theorem dn_M_module_510 : decode bn_M_module 510 = .ok (.putfield 336, 3) := by decide +kernel
theorem dn_M_module_513 : decode bn_M_module 513 = .ok (.aload_n 0, 1) := by decide +kernel
theorem dn_M_module_514 : decode bn_M_module 514 = .ok (.getfield 28, 3) := by decide +kernel
theorem dn_M_module_517 : decode bn_M_module 517 = .ok (.aload_n 0, 1) := by decide +kernel
theorem dn_M_module_518 : decode bn_M_module 518 = .ok (.getfield 336, 3) := by decide +kernel
theorem dn_M_module_521 : decode bn_M_module 521 = .ok (.aload_n 0, 1) := by decide +kernel
theorem dn_M_module_522 : decode bn_M_module 522 = .ok (.getfield 339, 3) := by decide +kernel
theorem dn_M_module_525 : decode bn_M_module 525 = .ok (.iastore, 1) := by decide +kernel
theorem dn_M_module_526 : decode bn_M_module 526 = .ok (.aload_n 0, 1) := by decide +kernel
theorem dn_M_module_527 : decode bn_M_module 527 = .ok (.getfield 31, 3) := by decide +kernel
theorem dn_M_module_530 : decode bn_M_module 530 = .ok (.aload_n 0, 1) := by decide +kernel
theorem dn_M_module_531 : decode bn_M_module 531 = .ok (.getfield 336, 3) := by decide +kernel
theorem dn_M_module_534 : decode bn_M_module 534 = .ok (.aload_n 0, 1) := by decide +kernel
theorem dn_M_module_535 : decode bn_M_module 535 = .ok (.getfield 346, 3) := by decide +kernel
theorem dn_M_module_538 : decode bn_M_module 538 = .ok (.iastore, 1) := by decide +kernel
theorem dn_M_module_539 : decode bn_M_module 539 = .ok (.aload_n 0, 1) := by decide +kernel
theorem dn_M_module_540 : decode bn_M_module 540 = .ok (.getfield 34, 3) := by decide +kernel
theorem dn_M_module_543 : decode bn_M_module 543 = .ok (.aload_n 0, 1) := by decide +kernel
theorem dn_M_module_544 : decode bn_M_module 544 = .ok (.getfield 336, 3) := by decide +kernel
theorem dn_M_module_547 : decode bn_M_module 547 = .ok (.aload_n 0, 1) := by decide +kernel
theorem dn_M_module_548 : decode bn_M_module 548 = .ok (.getfield 453, 3) := by decide +kernel
theorem dn_M_module_551 : decode bn_M_module 551 = .ok (.iastore, 1) := by decide +kernel
theorem dn_M_module_552 : decode bn_M_module 552 = .ok (.aload_n 0, 1) := by decide +kernel
theorem dn_M_module_553 : decode bn_M_module 553 = .ok (.getfield 37, 3) := by decide +kernel
theorem dn_M_module_556 : decode bn_M_module 556 = .ok (.aload_n 0, 1) := by decide +kernel
theorem dn_M_module_557 : decode bn_M_module 557 = .ok (.getfield 336, 3) := by decide +kernel
theorem dn_M_module_560 : decode bn_M_module 560 = .ok (.aload_n 0, 1) := by decide +kernel
theorem dn_M_module_561 : decode bn_M_module 561 = .ok (.getfield 435, 3) := by decide +kernel
theorem dn_M_module_564 : decode bn_M_module 564 = .ok (.iastore, 1) := by decide +kernel
theorem dn_M_module_565 : decode bn_M_module 565 = .ok (.return_, 1) := by decide +kernel
theorem dn_M_moduleNamed_0 : decode bn_M_moduleNamed 0 = .ok (.iconst 0, 1) := by decide +kernel
theorem dn_M_moduleNamed_1 : decode bn_M_moduleNamed 1 = .ok (.istore_n 3, 1) := by decide +kernel
theorem dn_M_moduleNamed_2 : decode bn_M_moduleNamed 2 = .ok (.iload_n 3, 1) := by decide +kernel
theorem dn_M_moduleNamed_3 : decode bn_M_moduleNamed 3 = .ok (.iload_n 2, 1) := by decide +kernel
theorem dn_M_moduleNamed_4 : decode bn_M_moduleNamed 4 = .ok (.if_icmp .ge 25, 3) := by decide +kernel
theorem dn_M_moduleNamed_7 : decode bn_M_moduleNamed 7 = .ok (.aload_n 0, 1) := by decide +kernel
theorem dn_M_moduleNamed_8 : decode bn_M_moduleNamed 8 = .ok (.aload_n 0, 1) := by decide +kernel
theorem dn_M_moduleNamed_9 : decode bn_M_moduleNamed 9 = .ok (.getfield 25, 3) := by decide +kernel
theorem dn_M_moduleNamed_12 : decode bn_M_moduleNamed 12 = .ok (.iload_n 3, 1) := by decide +kernel
theorem dn_M_moduleNamed_13 : decode bn_M_moduleNamed 13 = .ok (.iaload, 1) := by decide +kernel
theorem dn_M_moduleNamed_14 : decode bn_M_moduleNamed 14 = .ok (.iload_n 1, 1) := by decide +kernel
theorem dn_M_moduleNamed_15 : decode bn_M_moduleNamed 15 = .ok (.invokevirtual 332, 3) := by decide +kernel
theorem dn_M_moduleNamed_18 : decode bn_M_moduleNamed 18 = .ok (.ifCond .eq 5, 3) := by decide +kernel
theorem dn_M_moduleNamed_21 : decode bn_M_moduleNamed 21 = .ok (.iload_n 3, 1) := by decide +kernel
theorem dn_M_moduleNamed_22 : decode bn_M_moduleNamed 22 = .ok (.ireturn, 1) := by decide +kernel
theorem dn_M_moduleNamed_23 : decode bn_M_moduleNamed 23 = .ok (.iinc 3 1, 3) := by decide +kernel
theorem dn_M_moduleNamed_26 : decode bn_M_moduleNamed 26 = .ok (.goto (-24), 3) := by decide +kernel
theorem dn_M_moduleNamed_29 : decode bn_M_moduleNamed 29 = .ok (.iconst (-1), 1) := by decide +kernel
theorem dn_M_moduleNamed_30 : decode bn_M_moduleNamed 30 = .ok (.ireturn, 1) := by decide +kernel
theorem dn_M_most_0 : decode bn_M_most 0 = .ok (.lload_n 0, 1) := by decide +kernel
theorem dn_M_most_1 : decode bn_M_most 1 = .ok (.ldc2_w 459, 3) := by decide +kernel
theorem dn_M_most_4 : decode bn_M_most 4 = .ok (.lcmp, 1) := by decide +kernel
theorem dn_M_most_5 : decode bn_M_most 5 = .ok (.ifCond .le 9, 3) := by decide +kernel
theorem dn_M_most_8 : decode bn_M_most 8 = .ok (.ldc2_w 459, 3) := by decide +kernel
theorem dn_M_most_11 : decode bn_M_most 11 = .ok (.goto 4, 3) := by decide +kernel
theorem dn_M_most_14 : decode bn_M_most 14 = .ok (.lload_n 0, 1) := by decide +kernel
theorem dn_M_most_15 : decode bn_M_most 15 = .ok (.lreturn, 1) := by decide +kernel
theorem dn_M_no_0 : decode bn_M_no 0 = .ok (.aload_n 0, 1) := by decide +kernel
theorem dn_M_no_1 : decode bn_M_no 1 = .ok (.aload_n 0, 1) := by decide +kernel
theorem dn_M_no_2 : decode bn_M_no 2 = .ok (.getfield 15, 3) := by decide +kernel
theorem dn_M_no_5 : decode bn_M_no 5 = .ok (.aload_n 0, 1) := by decide +kernel
theorem dn_M_no_6 : decode bn_M_no 6 = .ok (.getfield 263, 3) := by decide +kernel
theorem dn_M_no_9 : decode bn_M_no 9 = .ok (.iaload, 1) := by decide +kernel
theorem dn_M_no_10 : decode bn_M_no 10 = .ok (.sipush 404, 3) := by decide +kernel
theorem dn_M_no_13 : decode bn_M_no 13 = .ok (.if_icmp .ne 7, 3) := by decide +kernel
theorem dn_M_no_16 : decode bn_M_no 16 = .ok (.iconst 1, 1) := by decide +kernel
theorem dn_M_no_17 : decode bn_M_no 17 = .ok (.goto 4, 3) := by decide +kernel
theorem dn_M_no_20 : decode bn_M_no 20 = .ok (.iconst 2, 1) := by decide +kernel
theorem dn_M_no_21 : decode bn_M_no 21 = .ok (.aload_n 0, 1) := by decide +kernel
theorem dn_M_no_22 : decode bn_M_no 22 = .ok (.getfield 19, 3) := by decide +kernel
theorem dn_M_no_25 : decode bn_M_no 25 = .ok (.aload_n 0, 1) := by decide +kernel
theorem dn_M_no_26 : decode bn_M_no 26 = .ok (.getfield 263, 3) := by decide +kernel
theorem dn_M_no_29 : decode bn_M_no 29 = .ok (.iaload, 1) := by decide +kernel
theorem dn_M_no_30 : decode bn_M_no 30 = .ok (.invokevirtual 266, 3) := by decide +kernel
theorem dn_M_no_33 : decode bn_M_no 33 = .ok (.return_, 1) := by decide +kernel
theorem dn_M_numberEnd_0 : decode bn_M_numberEnd 0 = .ok (.iload_n 1, 1) := by decide +kernel
theorem dn_M_numberEnd_1 : decode bn_M_numberEnd 1 = .ok (.istore_n 2, 1) := by decide +kernel
theorem dn_M_numberEnd_2 : decode bn_M_numberEnd 2 = .ok (.aload_n 0, 1) := by decide +kernel
theorem dn_M_numberEnd_3 : decode bn_M_numberEnd 3 = .ok (.iload_n 2, 1) := by decide +kernel
theorem dn_M_numberEnd_4 : decode bn_M_numberEnd 4 = .ok (.invokevirtual 206, 3) := by decide +kernel
theorem dn_M_numberEnd_7 : decode bn_M_numberEnd 7 = .ok (.invokestatic 203, 3) := by decide +kernel
theorem dn_M_numberEnd_10 : decode bn_M_numberEnd 10 = .ok (.ifCond .eq 9, 3) := by decide +kernel
theorem dn_M_numberEnd_13 : decode bn_M_numberEnd 13 = .ok (.iinc 2 1, 3) := by decide +kernel
theorem dn_M_numberEnd_16 : decode bn_M_numberEnd 16 = .ok (.goto (-14), 3) := by decide +kernel
theorem dn_M_numberEnd_19 : decode bn_M_numberEnd 19 = .ok (.aload_n 0, 1) := by decide +kernel
theorem dn_M_numberEnd_20 : decode bn_M_numberEnd 20 = .ok (.iload_n 2, 1) := by decide +kernel
theorem dn_M_numberEnd_21 : decode bn_M_numberEnd 21 = .ok (.invokevirtual 206, 3) := by decide +kernel
theorem dn_M_numberEnd_24 : decode bn_M_numberEnd 24 = .ok (.bipush 39, 2) := by decide +kernel
theorem dn_M_numberEnd_26 : decode bn_M_numberEnd 26 = .ok (.if_icmp .ne 6, 3) := by decide +kernel
theorem dn_M_numberEnd_29 : decode bn_M_numberEnd 29 = .ok (.iinc 2 1, 3) := by decide +kernel
theorem dn_M_numberEnd_32 : decode bn_M_numberEnd 32 = .ok (.aload_n 0, 1) := by decide +kernel
theorem dn_M_numberEnd_33 : decode bn_M_numberEnd 33 = .ok (.iload_n 2, 1) := by decide +kernel
theorem dn_M_numberEnd_34 : decode bn_M_numberEnd 34 = .ok (.invokevirtual 206, 3) := by decide +kernel
theorem dn_M_numberEnd_37 : decode bn_M_numberEnd 37 = .ok (.invokestatic 228, 3) := by decide +kernel
theorem dn_M_numberEnd_40 : decode bn_M_numberEnd 40 = .ok (.ifCond .eq 9, 3) := by decide +kernel
theorem dn_M_numberEnd_43 : decode bn_M_numberEnd 43 = .ok (.iinc 2 1, 3) := by decide +kernel
theorem dn_M_numberEnd_46 : decode bn_M_numberEnd 46 = .ok (.goto (-14), 3) := by decide +kernel
theorem dn_M_numberEnd_49 : decode bn_M_numberEnd 49 = .ok (.iload_n 2, 1) := by decide +kernel
theorem dn_M_numberEnd_50 : decode bn_M_numberEnd 50 = .ok (.ireturn, 1) := by decide +kernel
theorem dn_M_numberKind_0 : decode bn_M_numberKind 0 = .ok (.iload_n 1, 1) := by decide +kernel
theorem dn_M_numberKind_1 : decode bn_M_numberKind 1 = .ok (.istore_n 3, 1) := by decide +kernel
theorem dn_M_numberKind_2 : decode bn_M_numberKind 2 = .ok (.iload_n 3, 1) := by decide +kernel
theorem dn_M_numberKind_3 : decode bn_M_numberKind 3 = .ok (.iload_n 2, 1) := by decide +kernel
theorem dn_M_numberKind_4 : decode bn_M_numberKind 4 = .ok (.if_icmp .ge 20, 3) := by decide +kernel
theorem dn_M_numberKind_7 : decode bn_M_numberKind 7 = .ok (.aload_n 0, 1) := by decide +kernel
theorem dn_M_numberKind_8 : decode bn_M_numberKind 8 = .ok (.iload_n 3, 1) := by decide +kernel
theorem dn_M_numberKind_9 : decode bn_M_numberKind 9 = .ok (.invokevirtual 206, 3) := by decide +kernel
theorem dn_M_numberKind_12 : decode bn_M_numberKind 12 = .ok (.invokestatic 203, 3) := by decide +kernel
theorem dn_M_numberKind_15 : decode bn_M_numberKind 15 = .ok (.ifCond .eq 9, 3) := by decide +kernel
theorem dn_M_numberKind_18 : decode bn_M_numberKind 18 = .ok (.iinc 3 1, 3) := by decide +kernel
theorem dn_M_numberKind_21 : decode bn_M_numberKind 21 = .ok (.goto (-19), 3) := by decide +kernel
theorem dn_M_numberKind_24 : decode bn_M_numberKind 24 = .ok (.aload_n 0, 1) := by decide +kernel
theorem dn_M_numberKind_25 : decode bn_M_numberKind 25 = .ok (.iload_n 1, 1) := by decide +kernel
theorem dn_M_numberKind_26 : decode bn_M_numberKind 26 = .ok (.iload_n 3, 1) := by decide +kernel
theorem dn_M_numberKind_27 : decode bn_M_numberKind 27 = .ok (.bipush 10, 2) := by decide +kernel
theorem dn_M_numberKind_29 : decode bn_M_numberKind 29 = .ok (.bipush 16, 2) := by decide +kernel
theorem dn_M_numberKind_31 : decode bn_M_numberKind 31 = .ok (.invokevirtual 222, 3) := by decide +kernel
theorem dn_M_numberKind_34 : decode bn_M_numberKind 34 = .ok (.lstore 4, 2) := by decide +kernel
theorem dn_M_numberKind_36 : decode bn_M_numberKind 36 = .ok (.aload_n 0, 1) := by decide +kernel
theorem dn_M_numberKind_37 : decode bn_M_numberKind 37 = .ok (.getfield 218, 3) := by decide +kernel
theorem dn_M_numberKind_40 : decode bn_M_numberKind 40 = .ok (.istore 6, 2) := by decide +kernel
theorem dn_M_numberKind_42 : decode bn_M_numberKind 42 = .ok (.iload_n 3, 1) := by decide +kernel
theorem dn_M_numberKind_43 : decode bn_M_numberKind 43 = .ok (.iload_n 2, 1) := by decide +kernel
theorem dn_M_numberKind_44 : decode bn_M_numberKind 44 = .ok (.if_icmp .ne 18, 3) := by decide +kernel
theorem dn_M_numberKind_47 : decode bn_M_numberKind 47 = .ok (.iload 6, 2) := by decide +kernel
theorem dn_M_numberKind_49 : decode bn_M_numberKind 49 = .ok (.ifCond .eq 9, 3) := by decide +kernel
theorem dn_M_numberKind_52 : decode bn_M_numberKind 52 = .ok (.sipush 401, 3) := by decide +kernel
theorem dn_M_numberKind_55 : decode bn_M_numberKind 55 = .ok (.goto 6, 3) := by decide +kernel
theorem dn_M_numberKind_58 : decode bn_M_numberKind 58 = .ok (.sipush 404, 3) := by decide +kernel
theorem dn_M_numberKind_61 : decode bn_M_numberKind 61 = .ok (.ireturn, 1) := by decide +kernel
theorem dn_M_numberKind_62 : decode bn_M_numberKind 62 = .ok (.aload_n 0, 1) := by decide +kernel
theorem dn_M_numberKind_63 : decode bn_M_numberKind 63 = .ok (.iload_n 3, 1) := by decide +kernel
theorem dn_M_numberKind_64 : decode bn_M_numberKind 64 = .ok (.invokevirtual 206, 3) := by decide +kernel
theorem dn_M_numberKind_67 : decode bn_M_numberKind 67 = .ok (.bipush 39, 2) := by decide +kernel
theorem dn_M_numberKind_69 : decode bn_M_numberKind 69 = .ok (.if_icmp .ne 31, 3) := by decide +kernel
theorem dn_M_numberKind_72 : decode bn_M_numberKind 72 = .ok (.iload 6, 2) := by decide +kernel
theorem dn_M_numberKind_74 : decode bn_M_numberKind 74 = .ok (.ifCond .eq 26, 3) := by decide +kernel
theorem dn_M_numberKind_77 : decode bn_M_numberKind 77 = .ok (.lload 4, 2) := by decide +kernel
theorem dn_M_numberKind_79 : decode bn_M_numberKind 79 = .ok (.lconst 1, 1) := by decide +kernel
theorem dn_M_numberKind_80 : decode bn_M_numberKind 80 = .ok (.lcmp, 1) := by decide +kernel
theorem dn_M_numberKind_81 : decode bn_M_numberKind 81 = .ok (.ifCond .lt 19, 3) := by decide +kernel
theorem dn_M_numberKind_84 : decode bn_M_numberKind 84 = .ok (.lload 4, 2) := by decide +kernel
theorem dn_M_numberKind_86 : decode bn_M_numberKind 86 = .ok (.ldc2_w 226, 3) := by decide +kernel
theorem dn_M_numberKind_89 : decode bn_M_numberKind 89 = .ok (.lcmp, 1) := by decide +kernel
theorem dn_M_numberKind_90 : decode bn_M_numberKind 90 = .ok (.ifCond .gt 10, 3) := by decide +kernel
theorem dn_M_numberKind_93 : decode bn_M_numberKind 93 = .ok (.iload_n 3, 1) := by decide +kernel
theorem dn_M_numberKind_94 : decode bn_M_numberKind 94 = .ok (.iconst 2, 1) := by decide +kernel
theorem dn_M_numberKind_95 : decode bn_M_numberKind 95 = .ok (.iadd, 1) := by decide +kernel
theorem dn_M_numberKind_96 : decode bn_M_numberKind 96 = .ok (.iload_n 2, 1) := by decide +kernel
theorem dn_M_numberKind_97 : decode bn_M_numberKind 97 = .ok (.if_icmp .lt 7, 3) := by decide +kernel
theorem dn_M_numberKind_100 : decode bn_M_numberKind 100 = .ok (.sipush 404, 3) := by decide +kernel
theorem dn_M_numberKind_103 : decode bn_M_numberKind 103 = .ok (.ireturn, 1) := by decide +kernel
theorem dn_M_numberKind_104 : decode bn_M_numberKind 104 = .ok (.aload_n 0, 1) := by decide +kernel
theorem dn_M_numberKind_105 : decode bn_M_numberKind 105 = .ok (.iload_n 3, 1) := by decide +kernel
theorem dn_M_numberKind_106 : decode bn_M_numberKind 106 = .ok (.iconst 1, 1) := by decide +kernel
theorem dn_M_numberKind_107 : decode bn_M_numberKind 107 = .ok (.iadd, 1) := by decide +kernel
theorem dn_M_numberKind_108 : decode bn_M_numberKind 108 = .ok (.invokevirtual 206, 3) := by decide +kernel
theorem dn_M_numberKind_111 : decode bn_M_numberKind 111 = .ok (.istore 7, 2) := by decide +kernel
theorem dn_M_numberKind_113 : decode bn_M_numberKind 113 = .ok (.iload 7, 2) := by decide +kernel
theorem dn_M_numberKind_115 : decode bn_M_numberKind 115 = .ok (.bipush 98, 2) := by decide +kernel
theorem dn_M_numberKind_117 : decode bn_M_numberKind 117 = .ok (.if_icmp .ne 7, 3) := by decide +kernel
theorem dn_M_numberKind_120 : decode bn_M_numberKind 120 = .ok (.iconst 2, 1) := by decide +kernel
theorem dn_M_numberKind_121 : decode bn_M_numberKind 121 = .ok (.goto 40, 3) := by decide +kernel
theorem dn_M_numberKind_124 : decode bn_M_numberKind 124 = .ok (.iload 7, 2) := by decide +kernel
theorem dn_M_numberKind_126 : decode bn_M_numberKind 126 = .ok (.bipush 111, 2) := by decide +kernel
theorem dn_M_numberKind_128 : decode bn_M_numberKind 128 = .ok (.if_icmp .ne 8, 3) := by decide +kernel
theorem dn_M_numberKind_131 : decode bn_M_numberKind 131 = .ok (.bipush 8, 2) := by decide +kernel
theorem dn_M_numberKind_133 : decode bn_M_numberKind 133 = .ok (.goto 28, 3) := by decide +kernel
theorem dn_M_numberKind_136 : decode bn_M_numberKind 136 = .ok (.iload 7, 2) := by decide +kernel
theorem dn_M_numberKind_138 : decode bn_M_numberKind 138 = .ok (.bipush 100, 2) := by decide +kernel
theorem dn_M_numberKind_140 : decode bn_M_numberKind 140 = .ok (.if_icmp .ne 8, 3) := by decide +kernel
theorem dn_M_numberKind_143 : decode bn_M_numberKind 143 = .ok (.bipush 10, 2) := by decide +kernel
theorem dn_M_numberKind_145 : decode bn_M_numberKind 145 = .ok (.goto 16, 3) := by decide +kernel
theorem dn_M_numberKind_148 : decode bn_M_numberKind 148 = .ok (.iload 7, 2) := by decide +kernel
theorem dn_M_numberKind_150 : decode bn_M_numberKind 150 = .ok (.bipush 104, 2) := by decide +kernel
theorem dn_M_numberKind_152 : decode bn_M_numberKind 152 = .ok (.if_icmp .ne 8, 3) := by decide +kernel
theorem dn_M_numberKind_155 : decode bn_M_numberKind 155 = .ok (.bipush 16, 2) := by decide +kernel
theorem dn_M_numberKind_157 : decode bn_M_numberKind 157 = .ok (.goto 4, 3) := by decide +kernel
theorem dn_M_numberKind_160 : decode bn_M_numberKind 160 = .ok (.iconst 0, 1) := by decide +kernel
theorem dn_M_numberKind_161 : decode bn_M_numberKind 161 = .ok (.istore 8, 2) := by decide +kernel
theorem dn_M_numberKind_163 : decode bn_M_numberKind 163 = .ok (.iload 8, 2) := by decide +kernel
theorem dn_M_numberKind_165 : decode bn_M_numberKind 165 = .ok (.ifCond .le 7, 3) := by decide +kernel
theorem dn_M_numberKind_168 : decode bn_M_numberKind 168 = .ok (.iconst 1, 1) := by decide +kernel
theorem dn_M_numberKind_169 : decode bn_M_numberKind 169 = .ok (.goto 4, 3) := by decide +kernel
theorem dn_M_numberKind_172 : decode bn_M_numberKind 172 = .ok (.iconst 0, 1) := by decide +kernel
theorem dn_M_numberKind_173 : decode bn_M_numberKind 173 = .ok (.istore 9, 2) := by decide +kernel
theorem dn_M_numberKind_175 : decode bn_M_numberKind 175 = .ok (.iload_n 3, 1) := by decide +kernel
theorem dn_M_numberKind_176 : decode bn_M_numberKind 176 = .ok (.iconst 2, 1) := by decide +kernel
theorem dn_M_numberKind_177 : decode bn_M_numberKind 177 = .ok (.iadd, 1) := by decide +kernel
theorem dn_M_numberKind_178 : decode bn_M_numberKind 178 = .ok (.istore 10, 2) := by decide +kernel
theorem dn_M_numberKind_180 : decode bn_M_numberKind 180 = .ok (.iload 10, 2) := by decide +kernel
theorem dn_M_numberKind_182 : decode bn_M_numberKind 182 = .ok (.iload_n 2, 1) := by decide +kernel
theorem dn_M_numberKind_183 : decode bn_M_numberKind 183 = .ok (.if_icmp .ge 35, 3) := by decide +kernel
theorem dn_M_numberKind_186 : decode bn_M_numberKind 186 = .ok (.iload 9, 2) := by decide +kernel
theorem dn_M_numberKind_188 : decode bn_M_numberKind 188 = .ok (.ifCond .eq 30, 3) := by decide +kernel
theorem dn_M_numberKind_191 : decode bn_M_numberKind 191 = .ok (.aload_n 0, 1) := by decide +kernel
theorem dn_M_numberKind_192 : decode bn_M_numberKind 192 = .ok (.iload 10, 2) := by decide +kernel
theorem dn_M_numberKind_194 : decode bn_M_numberKind 194 = .ok (.invokevirtual 206, 3) := by decide +kernel
theorem dn_M_numberKind_197 : decode bn_M_numberKind 197 = .ok (.invokestatic 213, 3) := by decide +kernel
theorem dn_M_numberKind_200 : decode bn_M_numberKind 200 = .ok (.iload 8, 2) := by decide +kernel
theorem dn_M_numberKind_202 : decode bn_M_numberKind 202 = .ok (.if_icmp .ge 7, 3) := by decide +kernel
theorem dn_M_numberKind_205 : decode bn_M_numberKind 205 = .ok (.iconst 1, 1) := by decide +kernel
theorem dn_M_numberKind_206 : decode bn_M_numberKind 206 = .ok (.goto 4, 3) := by decide +kernel
theorem dn_M_numberKind_209 : decode bn_M_numberKind 209 = .ok (.iconst 0, 1) := by decide +kernel
theorem dn_M_numberKind_210 : decode bn_M_numberKind 210 = .ok (.istore 9, 2) := by decide +kernel
theorem dn_M_numberKind_212 : decode bn_M_numberKind 212 = .ok (.iinc 10 1, 3) := by decide +kernel
theorem dn_M_numberKind_215 : decode bn_M_numberKind 215 = .ok (.goto (-35), 3) := by decide +kernel
theorem dn_M_numberKind_218 : decode bn_M_numberKind 218 = .ok (.iload 9, 2) := by decide +kernel
theorem dn_M_numberKind_220 : decode bn_M_numberKind 220 = .ok (.ifCond .eq 17, 3) := by decide +kernel
theorem dn_M_numberKind_223 : decode bn_M_numberKind 223 = .ok (.aload_n 0, 1) := by decide +kernel
theorem dn_M_numberKind_224 : decode bn_M_numberKind 224 = .ok (.iload_n 3, 1) := by decide +kernel
theorem dn_M_numberKind_225 : decode bn_M_numberKind 225 = .ok (.iconst 2, 1) := by decide +kernel
theorem dn_M_numberKind_226 : decode bn_M_numberKind 226 = .ok (.iadd, 1) := by decide +kernel
theorem dn_M_numberKind_227 : decode bn_M_numberKind 227 = .ok (.iload_n 2, 1) := by decide +kernel
theorem dn_M_numberKind_228 : decode bn_M_numberKind 228 = .ok (.iload 8, 2) := by decide +kernel
theorem dn_M_numberKind_230 : decode bn_M_numberKind 230 = .ok (.lload 4, 2) := by decide +kernel
theorem dn_M_numberKind_232 : decode bn_M_numberKind 232 = .ok (.l2i, 1) := by decide +kernel
theorem dn_M_numberKind_233 : decode bn_M_numberKind 233 = .ok (.invokevirtual 222, 3) := by decide +kernel
theorem dn_M_numberKind_236 : decode bn_M_numberKind 236 = .ok (.pop2, 1) := by decide +kernel
theorem dn_M_numberKind_237 : decode bn_M_numberKind 237 = .ok (.iload 9, 2) := by decide +kernel
theorem dn_M_numberKind_239 : decode bn_M_numberKind 239 = .ok (.ifCond .eq 16, 3) := by decide +kernel
theorem dn_M_numberKind_242 : decode bn_M_numberKind 242 = .ok (.aload_n 0, 1) := by decide +kernel
theorem dn_M_numberKind_243 : decode bn_M_numberKind 243 = .ok (.getfield 218, 3) := by decide +kernel
theorem dn_M_numberKind_246 : decode bn_M_numberKind 246 = .ok (.ifCond .eq 9, 3) := by decide +kernel
theorem dn_M_numberKind_249 : decode bn_M_numberKind 249 = .ok (.sipush 402, 3) := by decide +kernel
theorem dn_M_numberKind_252 : decode bn_M_numberKind 252 = .ok (.goto 6, 3) := by decide +kernel
theorem dn_M_numberKind_255 : decode bn_M_numberKind 255 = .ok (.sipush 404, 3) := by decide +kernel
theorem dn_M_numberKind_258 : decode bn_M_numberKind 258 = .ok (.ireturn, 1) := by decide +kernel
theorem dn_M_numberOf_0 : decode bn_M_numberOf 0 = .ok (.aload_n 0, 1) := by decide +kernel
theorem dn_M_numberOf_1 : decode bn_M_numberOf 1 = .ok (.getfield 19, 3) := by decide +kernel
theorem dn_M_numberOf_4 : decode bn_M_numberOf 4 = .ok (.iload_n 1, 1) := by decide +kernel
theorem dn_M_numberOf_5 : decode bn_M_numberOf 5 = .ok (.iaload, 1) := by decide +kernel
theorem dn_M_numberOf_6 : decode bn_M_numberOf 6 = .ok (.istore_n 2, 1) := by decide +kernel
theorem dn_M_numberOf_7 : decode bn_M_numberOf 7 = .ok (.aload_n 0, 1) := by decide +kernel
theorem dn_M_numberOf_8 : decode bn_M_numberOf 8 = .ok (.iload_n 2, 1) := by decide +kernel
theorem dn_M_numberOf_9 : decode bn_M_numberOf 9 = .ok (.invokevirtual 206, 3) := by decide +kernel
theorem dn_M_numberOf_12 : decode bn_M_numberOf 12 = .ok (.invokestatic 203, 3) := by decide +kernel
theorem dn_M_numberOf_15 : decode bn_M_numberOf 15 = .ok (.ifCond .eq 9, 3) := by decide +kernel
theorem dn_M_numberOf_18 : decode bn_M_numberOf 18 = .ok (.iinc 2 1, 3) := by decide +kernel
theorem dn_M_numberOf_21 : decode bn_M_numberOf 21 = .ok (.goto (-14), 3) := by decide +kernel
theorem dn_M_numberOf_24 : decode bn_M_numberOf 24 = .ok (.iload_n 2, 1) := by decide +kernel
theorem dn_M_numberOf_25 : decode bn_M_numberOf 25 = .ok (.aload_n 0, 1) := by decide +kernel
theorem dn_M_numberOf_26 : decode bn_M_numberOf 26 = .ok (.getfield 22, 3) := by decide +kernel
theorem dn_M_numberOf_29 : decode bn_M_numberOf 29 = .ok (.iload_n 1, 1) := by decide +kernel
theorem dn_M_numberOf_30 : decode bn_M_numberOf 30 = .ok (.iaload, 1) := by decide +kernel
theorem dn_M_numberOf_31 : decode bn_M_numberOf 31 = .ok (.if_icmp .ne 19, 3) := by decide +kernel
theorem dn_M_numberOf_34 : decode bn_M_numberOf 34 = .ok (.aload_n 0, 1) := by decide +kernel
theorem dn_M_numberOf_35 : decode bn_M_numberOf 35 = .ok (.aload_n 0, 1) := by decide +kernel
theorem dn_M_numberOf_36 : decode bn_M_numberOf 36 = .ok (.getfield 19, 3) := by decide +kernel
theorem dn_M_numberOf_39 : decode bn_M_numberOf 39 = .ok (.iload_n 1, 1) := by decide +kernel
theorem dn_M_numberOf_40 : decode bn_M_numberOf 40 = .ok (.iaload, 1) := by decide +kernel
theorem dn_M_numberOf_41 : decode bn_M_numberOf 41 = .ok (.iload_n 2, 1) := by decide +kernel
theorem dn_M_numberOf_42 : decode bn_M_numberOf 42 = .ok (.bipush 10, 2) := by decide +kernel
theorem dn_M_numberOf_44 : decode bn_M_numberOf 44 = .ok (.bipush 16, 2) := by decide +kernel
theorem dn_M_numberOf_46 : decode bn_M_numberOf 46 = .ok (.invokevirtual 222, 3) := by decide +kernel
theorem dn_M_numberOf_49 : decode bn_M_numberOf 49 = .ok (.lreturn, 1) := by decide +kernel
theorem dn_M_numberOf_50 : decode bn_M_numberOf 50 = .ok (.aload_n 0, 1) := by decide +kernel
theorem dn_M_numberOf_51 : decode bn_M_numberOf 51 = .ok (.iload_n 2, 1) := by decide +kernel
theorem dn_M_numberOf_52 : decode bn_M_numberOf 52 = .ok (.iconst 1, 1) := by decide +kernel
theorem dn_M_numberOf_53 : decode bn_M_numberOf 53 = .ok (.iadd, 1) := by decide +kernel
theorem dn_M_numberOf_54 : decode bn_M_numberOf 54 = .ok (.invokevirtual 206, 3) := by decide +kernel
theorem dn_M_numberOf_57 : decode bn_M_numberOf 57 = .ok (.istore_n 3, 1) := by decide +kernel
theorem dn_M_numberOf_58 : decode bn_M_numberOf 58 = .ok (.aload_n 0, 1) := by decide +kernel
theorem dn_M_numberOf_59 : decode bn_M_numberOf 59 = .ok (.iload_n 2, 1) := by decide +kernel
theorem dn_M_numberOf_60 : decode bn_M_numberOf 60 = .ok (.iconst 2, 1) := by decide +kernel
theorem dn_M_numberOf_61 : decode bn_M_numberOf 61 = .ok (.iadd, 1) := by decide +kernel
theorem dn_M_numberOf_62 : decode bn_M_numberOf 62 = .ok (.aload_n 0, 1) := by decide +kernel
theorem dn_M_numberOf_63 : decode bn_M_numberOf 63 = .ok (.getfield 22, 3) := by decide +kernel
theorem dn_M_numberOf_66 : decode bn_M_numberOf 66 = .ok (.iload_n 1, 1) := by decide +kernel
theorem dn_M_numberOf_67 : decode bn_M_numberOf 67 = .ok (.iaload, 1) := by decide +kernel
theorem dn_M_numberOf_68 : decode bn_M_numberOf 68 = .ok (.iload_n 3, 1) := by decide +kernel
theorem dn_M_numberOf_69 : decode bn_M_numberOf 69 = .ok (.bipush 98, 2) := by decide +kernel
theorem dn_M_numberOf_71 : decode bn_M_numberOf 71 = .ok (.if_icmp .ne 7, 3) := by decide +kernel
theorem dn_M_numberOf_74 : decode bn_M_numberOf 74 = .ok (.iconst 2, 1) := by decide +kernel
theorem dn_M_numberOf_75 : decode bn_M_numberOf 75 = .ok (.goto 27, 3) := by decide +kernel
theorem dn_M_numberOf_78 : decode bn_M_numberOf 78 = .ok (.iload_n 3, 1) := by decide +kernel
theorem dn_M_numberOf_79 : decode bn_M_numberOf 79 = .ok (.bipush 111, 2) := by decide +kernel
theorem dn_M_numberOf_81 : decode bn_M_numberOf 81 = .ok (.if_icmp .ne 8, 3) := by decide +kernel
theorem dn_M_numberOf_84 : decode bn_M_numberOf 84 = .ok (.bipush 8, 2) := by decide +kernel
theorem dn_M_numberOf_86 : decode bn_M_numberOf 86 = .ok (.goto 16, 3) := by decide +kernel
theorem dn_M_numberOf_89 : decode bn_M_numberOf 89 = .ok (.iload_n 3, 1) := by decide +kernel
theorem dn_M_numberOf_90 : decode bn_M_numberOf 90 = .ok (.bipush 100, 2) := by decide +kernel
theorem dn_M_numberOf_92 : decode bn_M_numberOf 92 = .ok (.if_icmp .ne 8, 3) := by decide +kernel
theorem dn_M_numberOf_95 : decode bn_M_numberOf 95 = .ok (.bipush 10, 2) := by decide +kernel
theorem dn_M_numberOf_97 : decode bn_M_numberOf 97 = .ok (.goto 5, 3) := by decide +kernel
theorem dn_M_numberOf_100 : decode bn_M_numberOf 100 = .ok (.bipush 16, 2) := by decide +kernel
theorem dn_M_numberOf_102 : decode bn_M_numberOf 102 = .ok (.bipush 64, 2) := by decide +kernel
theorem dn_M_numberOf_104 : decode bn_M_numberOf 104 = .ok (.invokevirtual 222, 3) := by decide +kernel
theorem dn_M_numberOf_107 : decode bn_M_numberOf 107 = .ok (.lreturn, 1) := by decide +kernel
theorem dn_M_one_0 : decode bn_M_one 0 = .ok (.iload_n 0, 1) := by decide +kernel
theorem dn_M_one_1 : decode bn_M_one 1 = .ok (.lookupswitch 109 #[(33, 70), (38, 82), (45, 62), (124, 97), (126, 51)], 51) := by decide +kernel
theorem dn_M_one_52 : decode bn_M_one 52 = .ok (.lload_n 2, 1) := by decide +kernel
theorem dn_M_one_53 : decode bn_M_one 53 = .ok (.ldc2_w 573, 3) := by decide +kernel
theorem dn_M_one_56 : decode bn_M_one 56 = .ok (.lxor, 1) := by decide +kernel
theorem dn_M_one_57 : decode bn_M_one 57 = .ok (.iload_n 1, 1) := by decide +kernel
theorem dn_M_one_58 : decode bn_M_one 58 = .ok (.invokestatic 581, 3) := by decide +kernel
theorem dn_M_one_61 : decode bn_M_one 61 = .ok (.land, 1) := by decide +kernel
theorem dn_M_one_62 : decode bn_M_one 62 = .ok (.lreturn, 1) := by decide +kernel
theorem dn_M_one_63 : decode bn_M_one 63 = .ok (.lload_n 2, 1) := by decide +kernel
theorem dn_M_one_64 : decode bn_M_one 64 = .ok (.lneg, 1) := by decide +kernel
theorem dn_M_one_65 : decode bn_M_one 65 = .ok (.iload_n 1, 1) := by decide +kernel
theorem dn_M_one_66 : decode bn_M_one 66 = .ok (.invokestatic 581, 3) := by decide +kernel
theorem dn_M_one_69 : decode bn_M_one 69 = .ok (.land, 1) := by decide +kernel
theorem dn_M_one_70 : decode bn_M_one 70 = .ok (.lreturn, 1) := by decide +kernel
theorem dn_M_one_71 : decode bn_M_one 71 = .ok (.lload_n 2, 1) := by decide +kernel
theorem dn_M_one_72 : decode bn_M_one 72 = .ok (.lconst 0, 1) := by decide +kernel
theorem dn_M_one_73 : decode bn_M_one 73 = .ok (.lcmp, 1) := by decide +kernel
theorem dn_M_one_74 : decode bn_M_one 74 = .ok (.ifCond .ne 7, 3) := by decide +kernel
theorem dn_M_one_77 : decode bn_M_one 77 = .ok (.lconst 1, 1) := by decide +kernel
theorem dn_M_one_78 : decode bn_M_one 78 = .ok (.goto 4, 3) := by decide +kernel
theorem dn_M_one_81 : decode bn_M_one 81 = .ok (.lconst 0, 1) := by decide +kernel
theorem dn_M_one_82 : decode bn_M_one 82 = .ok (.lreturn, 1) := by decide +kernel
theorem dn_M_one_83 : decode bn_M_one 83 = .ok (.lload_n 2, 1) := by decide +kernel
theorem dn_M_one_84 : decode bn_M_one 84 = .ok (.iload_n 1, 1) := by decide +kernel
theorem dn_M_one_85 : decode bn_M_one 85 = .ok (.invokestatic 581, 3) := by decide +kernel
theorem dn_M_one_88 : decode bn_M_one 88 = .ok (.lcmp, 1) := by decide +kernel
theorem dn_M_one_89 : decode bn_M_one 89 = .ok (.ifCond .ne 7, 3) := by decide +kernel
theorem dn_M_one_92 : decode bn_M_one 92 = .ok (.lconst 1, 1) := by decide +kernel
theorem dn_M_one_93 : decode bn_M_one 93 = .ok (.goto 4, 3) := by decide +kernel
theorem dn_M_one_96 : decode bn_M_one 96 = .ok (.lconst 0, 1) := by decide +kernel
theorem dn_M_one_97 : decode bn_M_one 97 = .ok (.lreturn, 1) := by decide +kernel
theorem dn_M_one_98 : decode bn_M_one 98 = .ok (.lload_n 2, 1) := by decide +kernel
theorem dn_M_one_99 : decode bn_M_one 99 = .ok (.lconst 0, 1) := by decide +kernel
theorem dn_M_one_100 : decode bn_M_one 100 = .ok (.lcmp, 1) := by decide +kernel
theorem dn_M_one_101 : decode bn_M_one 101 = .ok (.ifCond .ne 7, 3) := by decide +kernel
theorem dn_M_one_104 : decode bn_M_one 104 = .ok (.lconst 0, 1) := by decide +kernel
theorem dn_M_one_105 : decode bn_M_one 105 = .ok (.goto 4, 3) := by decide +kernel
theorem dn_M_one_108 : decode bn_M_one 108 = .ok (.lconst 1, 1) := by decide +kernel
theorem dn_M_one_109 : decode bn_M_one 109 = .ok (.lreturn, 1) := by decide +kernel
theorem dn_M_one_110 : decode bn_M_one 110 = .ok (.lconst 0, 1) := by decide +kernel
theorem dn_M_one_111 : decode bn_M_one 111 = .ok (.lstore 4, 2) := by decide +kernel
theorem dn_M_one_113 : decode bn_M_one 113 = .ok (.iconst 0, 1) := by decide +kernel
theorem dn_M_one_114 : decode bn_M_one 114 = .ok (.istore 6, 2) := by decide +kernel
theorem dn_M_one_116 : decode bn_M_one 116 = .ok (.iload 6, 2) := by decide +kernel
theorem dn_M_one_118 : decode bn_M_one 118 = .ok (.iload_n 1, 1) := by decide +kernel
theorem dn_M_one_119 : decode bn_M_one 119 = .ok (.if_icmp .ge 20, 3) := by decide +kernel
theorem dn_M_one_122 : decode bn_M_one 122 = .ok (.lload 4, 2) := by decide +kernel
theorem dn_M_one_124 : decode bn_M_one 124 = .ok (.lload_n 2, 1) := by decide +kernel
theorem dn_M_one_125 : decode bn_M_one 125 = .ok (.iload 6, 2) := by decide +kernel
theorem dn_M_one_127 : decode bn_M_one 127 = .ok (.lshr, 1) := by decide +kernel
theorem dn_M_one_128 : decode bn_M_one 128 = .ok (.lconst 1, 1) := by decide +kernel
theorem dn_M_one_129 : decode bn_M_one 129 = .ok (.land, 1) := by decide +kernel
theorem dn_M_one_130 : decode bn_M_one 130 = .ok (.lxor, 1) := by decide +kernel
theorem dn_M_one_131 : decode bn_M_one 131 = .ok (.lstore 4, 2) := by decide +kernel
theorem dn_M_one_133 : decode bn_M_one 133 = .ok (.iinc 6 1, 3) := by decide +kernel
theorem dn_M_one_136 : decode bn_M_one 136 = .ok (.goto (-20), 3) := by decide +kernel
theorem dn_M_one_139 : decode bn_M_one 139 = .ok (.lload 4, 2) := by decide +kernel
theorem dn_M_one_141 : decode bn_M_one 141 = .ok (.lreturn, 1) := by decide +kernel
theorem dn_M_open_0 : decode bn_M_open 0 = .ok (.aload_n 0, 1) := by decide +kernel
theorem dn_M_open_1 : decode bn_M_open 1 = .ok (.iload_n 1, 1) := by decide +kernel
theorem dn_M_open_2 : decode bn_M_open 2 = .ok (.invokevirtual 273, 3) := by decide +kernel
theorem dn_M_open_5 : decode bn_M_open 5 = .ok (.ifCond .eq 36, 3) := by decide +kernel
theorem dn_M_open_8 : decode bn_M_open 8 = .ok (.aload_n 0, 1) := by decide +kernel
theorem dn_M_open_9 : decode bn_M_open 9 = .ok (.dup, 1) := by decide +kernel
theorem dn_M_open_10 : decode bn_M_open 10 = .ok (.getfield 276, 3) := by decide +kernel
theorem dn_M_open_13 : decode bn_M_open 13 = .ok (.iconst 1, 1) := by decide +kernel
theorem dn_M_open_14 : decode bn_M_open 14 = .ok (.iadd, 1) := by decide +kernel
theorem dn_M_open_15 : decode bn_M_open 15 = .ok (.putfield 276, 3) := by decide +kernel
theorem dn_M_open_18 : decode bn_M_open 18 = .ok (.aload_n 0, 1) := by decide +kernel
theorem dn_M_open_19 : decode bn_M_open 19 = .ok (.getfield 276, 3) := by decide +kernel
theorem dn_M_open_22 : decode bn_M_open 22 = .ok (.bipush 60, 2) := by decide +kernel
theorem dn_M_open_24 : decode bn_M_open 24 = .ok (.if_icmp .le 17, 3) := by decide +kernel
theorem dn_M_open_27 : decode bn_M_open 27 = .ok (.aload_n 0, 1) := by decide +kernel
theorem dn_M_open_28 : decode bn_M_open 28 = .ok (.iconst 3, 1) := by decide +kernel
theorem dn_M_open_29 : decode bn_M_open 29 = .ok (.aload_n 0, 1) := by decide +kernel
theorem dn_M_open_30 : decode bn_M_open 30 = .ok (.getfield 19, 3) := by decide +kernel
theorem dn_M_open_33 : decode bn_M_open 33 = .ok (.aload_n 0, 1) := by decide +kernel
theorem dn_M_open_34 : decode bn_M_open 34 = .ok (.getfield 263, 3) := by decide +kernel
theorem dn_M_open_37 : decode bn_M_open 37 = .ok (.iaload, 1) := by decide +kernel
theorem dn_M_open_38 : decode bn_M_open 38 = .ok (.invokevirtual 266, 3) := by decide +kernel
theorem dn_M_open_41 : decode bn_M_open 41 = .ok (.aload_n 0, 1) := by decide +kernel
theorem dn_M_open_42 : decode bn_M_open 42 = .ok (.iload_n 1, 1) := by decide +kernel
theorem dn_M_open_43 : decode bn_M_open 43 = .ok (.invokevirtual 279, 3) := by decide +kernel
theorem dn_M_open_46 : decode bn_M_open 46 = .ok (.return_, 1) := by decide +kernel
theorem dn_M_operand_0 : decode bn_M_operand 0 = .ok (.aload_n 0, 1) := by decide +kernel
theorem dn_M_operand_1 : decode bn_M_operand 1 = .ok (.getfield 263, 3) := by decide +kernel
theorem dn_M_operand_4 : decode bn_M_operand 4 = .ok (.istore_n 1, 1) := by decide +kernel
theorem dn_M_operand_5 : decode bn_M_operand 5 = .ok (.aload_n 0, 1) := by decide +kernel
theorem dn_M_operand_6 : decode bn_M_operand 6 = .ok (.invokevirtual 286, 3) := by decide +kernel
theorem dn_M_operand_9 : decode bn_M_operand 9 = .ok (.invokestatic 299, 3) := by decide +kernel
theorem dn_M_operand_12 : decode bn_M_operand 12 = .ok (.ifCond .eq 16, 3) := by decide +kernel
theorem dn_M_operand_15 : decode bn_M_operand 15 = .ok (.aload_n 0, 1) := by decide +kernel
theorem dn_M_operand_16 : decode bn_M_operand 16 = .ok (.dup, 1) := by decide +kernel
theorem dn_M_operand_17 : decode bn_M_operand 17 = .ok (.getfield 263, 3) := by decide +kernel
theorem dn_M_operand_20 : decode bn_M_operand 20 = .ok (.iconst 1, 1) := by decide +kernel
theorem dn_M_operand_21 : decode bn_M_operand 21 = .ok (.iadd, 1) := by decide +kernel
theorem dn_M_operand_22 : decode bn_M_operand 22 = .ok (.putfield 263, 3) := by decide +kernel
theorem dn_M_operand_25 : decode bn_M_operand 25 = .ok (.goto (-20), 3) := by decide +kernel
theorem dn_M_operand_28 : decode bn_M_operand 28 = .ok (.aload_n 0, 1) := by decide +kernel
theorem dn_M_operand_29 : decode bn_M_operand 29 = .ok (.getfield 263, 3) := by decide +kernel
theorem dn_M_operand_32 : decode bn_M_operand 32 = .ok (.istore_n 2, 1) := by decide +kernel
theorem dn_M_operand_33 : decode bn_M_operand 33 = .ok (.aload_n 0, 1) := by decide +kernel
theorem dn_M_operand_34 : decode bn_M_operand 34 = .ok (.invokevirtual 383, 3) := by decide +kernel
theorem dn_M_operand_37 : decode bn_M_operand 37 = .ok (.istore_n 3, 1) := by decide +kernel
theorem dn_M_operand_38 : decode bn_M_operand 38 = .ok (.iload_n 2, 1) := by decide +kernel
theorem dn_M_operand_39 : decode bn_M_operand 39 = .ok (.iconst 1, 1) := by decide +kernel
theorem dn_M_operand_40 : decode bn_M_operand 40 = .ok (.isub, 1) := by decide +kernel
theorem dn_M_operand_41 : decode bn_M_operand 41 = .ok (.istore 4, 2) := by decide +kernel
theorem dn_M_operand_43 : decode bn_M_operand 43 = .ok (.iload 4, 2) := by decide +kernel
theorem dn_M_operand_45 : decode bn_M_operand 45 = .ok (.iload_n 1, 1) := by decide +kernel
theorem dn_M_operand_46 : decode bn_M_operand 46 = .ok (.if_icmp .lt 65, 3) := by decide +kernel
theorem dn_M_operand_49 : decode bn_M_operand 49 = .ok (.aload_n 0, 1) := by decide +kernel
theorem dn_M_operand_50 : decode bn_M_operand 50 = .ok (.getfield 257, 3) := by decide +kernel
theorem dn_M_operand_53 : decode bn_M_operand 53 = .ok (.ifCond .ne 58, 3) := by decide +kernel
theorem dn_M_operand_56 : decode bn_M_operand 56 = .ok (.aload_n 0, 1) := by decide +kernel
theorem dn_M_operand_57 : decode bn_M_operand 57 = .ok (.iload_n 3, 1) := by decide +kernel
theorem dn_M_operand_58 : decode bn_M_operand 58 = .ok (.i2l, 1) := by decide +kernel
theorem dn_M_operand_59 : decode bn_M_operand 59 = .ok (.invokevirtual 361, 3) := by decide +kernel
theorem dn_M_operand_62 : decode bn_M_operand 62 = .ok (.aload_n 0, 1) := by decide +kernel
theorem dn_M_operand_63 : decode bn_M_operand 63 = .ok (.iconst 4, 1) := by decide +kernel
theorem dn_M_operand_64 : decode bn_M_operand 64 = .ok (.aload_n 0, 1) := by decide +kernel
theorem dn_M_operand_65 : decode bn_M_operand 65 = .ok (.getfield 15, 3) := by decide +kernel
theorem dn_M_operand_68 : decode bn_M_operand 68 = .ok (.iload 4, 2) := by decide +kernel
theorem dn_M_operand_70 : decode bn_M_operand 70 = .ok (.iaload, 1) := by decide +kernel
theorem dn_M_operand_71 : decode bn_M_operand 71 = .ok (.iload_n 3, 1) := by decide +kernel
theorem dn_M_operand_72 : decode bn_M_operand 72 = .ok (.invokevirtual 365, 3) := by decide +kernel
theorem dn_M_operand_75 : decode bn_M_operand 75 = .ok (.aload_n 0, 1) := by decide +kernel
theorem dn_M_operand_76 : decode bn_M_operand 76 = .ok (.getfield 15, 3) := by decide +kernel
theorem dn_M_operand_79 : decode bn_M_operand 79 = .ok (.iload 4, 2) := by decide +kernel
theorem dn_M_operand_81 : decode bn_M_operand 81 = .ok (.iaload, 1) := by decide +kernel
theorem dn_M_operand_82 : decode bn_M_operand 82 = .ok (.bipush 126, 2) := by decide +kernel
theorem dn_M_operand_84 : decode bn_M_operand 84 = .ok (.if_icmp .eq 15, 3) := by decide +kernel
theorem dn_M_operand_87 : decode bn_M_operand 87 = .ok (.aload_n 0, 1) := by decide +kernel
theorem dn_M_operand_88 : decode bn_M_operand 88 = .ok (.getfield 15, 3) := by decide +kernel
theorem dn_M_operand_91 : decode bn_M_operand 91 = .ok (.iload 4, 2) := by decide +kernel
theorem dn_M_operand_93 : decode bn_M_operand 93 = .ok (.iaload, 1) := by decide +kernel
theorem dn_M_operand_94 : decode bn_M_operand 94 = .ok (.bipush 45, 2) := by decide +kernel
theorem dn_M_operand_96 : decode bn_M_operand 96 = .ok (.if_icmp .ne 7, 3) := by decide +kernel
theorem dn_M_operand_99 : decode bn_M_operand 99 = .ok (.iload_n 3, 1) := by decide +kernel
theorem dn_M_operand_100 : decode bn_M_operand 100 = .ok (.goto 4, 3) := by decide +kernel
theorem dn_M_operand_103 : decode bn_M_operand 103 = .ok (.iconst 1, 1) := by decide +kernel
theorem dn_M_operand_104 : decode bn_M_operand 104 = .ok (.istore_n 3, 1) := by decide +kernel
theorem dn_M_operand_105 : decode bn_M_operand 105 = .ok (.iinc 4 (-1), 3) := by decide +kernel
theorem dn_M_operand_108 : decode bn_M_operand 108 = .ok (.goto (-65), 3) := by decide +kernel
theorem dn_M_operand_111 : decode bn_M_operand 111 = .ok (.iload_n 3, 1) := by decide +kernel
theorem dn_M_operand_112 : decode bn_M_operand 112 = .ok (.ireturn, 1) := by decide +kernel
theorem dn_M_operandGrammar_0 : decode bn_M_operandGrammar 0 = .ok (.aload_n 0, 1) := by decide +kernel
theorem dn_M_operandGrammar_1 : decode bn_M_operandGrammar 1 = .ok (.getfield 257, 3) := by decide +kernel
theorem dn_M_operandGrammar_4 : decode bn_M_operandGrammar 4 = .ok (.ifCond .ne 26, 3) := by decide +kernel
theorem dn_M_operandGrammar_7 : decode bn_M_operandGrammar 7 = .ok (.aload_n 0, 1) := by decide +kernel
theorem dn_M_operandGrammar_8 : decode bn_M_operandGrammar 8 = .ok (.invokevirtual 286, 3) := by decide +kernel
theorem dn_M_operandGrammar_11 : decode bn_M_operandGrammar 11 = .ok (.invokestatic 299, 3) := by decide +kernel
theorem dn_M_operandGrammar_14 : decode bn_M_operandGrammar 14 = .ok (.ifCond .eq 16, 3) := by decide +kernel
theorem dn_M_operandGrammar_17 : decode bn_M_operandGrammar 17 = .ok (.aload_n 0, 1) := by decide +kernel
theorem dn_M_operandGrammar_18 : decode bn_M_operandGrammar 18 = .ok (.dup, 1) := by decide +kernel
theorem dn_M_operandGrammar_19 : decode bn_M_operandGrammar 19 = .ok (.getfield 263, 3) := by decide +kernel
theorem dn_M_operandGrammar_22 : decode bn_M_operandGrammar 22 = .ok (.iconst 1, 1) := by decide +kernel
theorem dn_M_operandGrammar_23 : decode bn_M_operandGrammar 23 = .ok (.iadd, 1) := by decide +kernel
theorem dn_M_operandGrammar_24 : decode bn_M_operandGrammar 24 = .ok (.putfield 263, 3) := by decide +kernel
theorem dn_M_operandGrammar_27 : decode bn_M_operandGrammar 27 = .ok (.goto (-27), 3) := by decide +kernel
theorem dn_M_operandGrammar_30 : decode bn_M_operandGrammar 30 = .ok (.aload_n 0, 1) := by decide +kernel
theorem dn_M_operandGrammar_31 : decode bn_M_operandGrammar 31 = .ok (.sipush 402, 3) := by decide +kernel
theorem dn_M_operandGrammar_34 : decode bn_M_operandGrammar 34 = .ok (.invokevirtual 273, 3) := by decide +kernel
theorem dn_M_operandGrammar_37 : decode bn_M_operandGrammar 37 = .ok (.ifCond .eq 16, 3) := by decide +kernel
theorem dn_M_operandGrammar_40 : decode bn_M_operandGrammar 40 = .ok (.aload_n 0, 1) := by decide +kernel
theorem dn_M_operandGrammar_41 : decode bn_M_operandGrammar 41 = .ok (.dup, 1) := by decide +kernel
theorem dn_M_operandGrammar_42 : decode bn_M_operandGrammar 42 = .ok (.getfield 263, 3) := by decide +kernel
theorem dn_M_operandGrammar_45 : decode bn_M_operandGrammar 45 = .ok (.iconst 1, 1) := by decide +kernel
theorem dn_M_operandGrammar_46 : decode bn_M_operandGrammar 46 = .ok (.iadd, 1) := by decide +kernel
theorem dn_M_operandGrammar_47 : decode bn_M_operandGrammar 47 = .ok (.putfield 263, 3) := by decide +kernel
theorem dn_M_operandGrammar_50 : decode bn_M_operandGrammar 50 = .ok (.goto 116, 3) := by decide +kernel
theorem dn_M_operandGrammar_53 : decode bn_M_operandGrammar 53 = .ok (.aload_n 0, 1) := by decide +kernel
theorem dn_M_operandGrammar_54 : decode bn_M_operandGrammar 54 = .ok (.sipush 400, 3) := by decide +kernel
theorem dn_M_operandGrammar_57 : decode bn_M_operandGrammar 57 = .ok (.invokevirtual 273, 3) := by decide +kernel
theorem dn_M_operandGrammar_60 : decode bn_M_operandGrammar 60 = .ok (.ifCond .eq 58, 3) := by decide +kernel
theorem dn_M_operandGrammar_63 : decode bn_M_operandGrammar 63 = .ok (.aload_n 0, 1) := by decide +kernel
theorem dn_M_operandGrammar_64 : decode bn_M_operandGrammar 64 = .ok (.dup, 1) := by decide +kernel
theorem dn_M_operandGrammar_65 : decode bn_M_operandGrammar 65 = .ok (.getfield 263, 3) := by decide +kernel
theorem dn_M_operandGrammar_68 : decode bn_M_operandGrammar 68 = .ok (.iconst 1, 1) := by decide +kernel
theorem dn_M_operandGrammar_69 : decode bn_M_operandGrammar 69 = .ok (.iadd, 1) := by decide +kernel
theorem dn_M_operandGrammar_70 : decode bn_M_operandGrammar 70 = .ok (.putfield 263, 3) := by decide +kernel
theorem dn_M_operandGrammar_73 : decode bn_M_operandGrammar 73 = .ok (.aload_n 0, 1) := by decide +kernel
theorem dn_M_operandGrammar_74 : decode bn_M_operandGrammar 74 = .ok (.bipush 91, 2) := by decide +kernel
theorem dn_M_operandGrammar_76 : decode bn_M_operandGrammar 76 = .ok (.invokevirtual 273, 3) := by decide +kernel
theorem dn_M_operandGrammar_79 : decode bn_M_operandGrammar 79 = .ok (.ifCond .eq 87, 3) := by decide +kernel
theorem dn_M_operandGrammar_82 : decode bn_M_operandGrammar 82 = .ok (.aload_n 0, 1) := by decide +kernel
theorem dn_M_operandGrammar_83 : decode bn_M_operandGrammar 83 = .ok (.bipush 91, 2) := by decide +kernel
theorem dn_M_operandGrammar_85 : decode bn_M_operandGrammar 85 = .ok (.invokevirtual 293, 3) := by decide +kernel
theorem dn_M_operandGrammar_88 : decode bn_M_operandGrammar 88 = .ok (.aload_n 0, 1) := by decide +kernel
theorem dn_M_operandGrammar_89 : decode bn_M_operandGrammar 89 = .ok (.sipush 401, 3) := by decide +kernel
theorem dn_M_operandGrammar_92 : decode bn_M_operandGrammar 92 = .ok (.invokevirtual 273, 3) := by decide +kernel
theorem dn_M_operandGrammar_95 : decode bn_M_operandGrammar 95 = .ok (.ifCond .eq 10, 3) := by decide +kernel
theorem dn_M_operandGrammar_98 : decode bn_M_operandGrammar 98 = .ok (.aload_n 0, 1) := by decide +kernel
theorem dn_M_operandGrammar_99 : decode bn_M_operandGrammar 99 = .ok (.invokevirtual 302, 3) := by decide +kernel
theorem dn_M_operandGrammar_102 : decode bn_M_operandGrammar 102 = .ok (.goto 7, 3) := by decide +kernel
theorem dn_M_operandGrammar_105 : decode bn_M_operandGrammar 105 = .ok (.aload_n 0, 1) := by decide +kernel
theorem dn_M_operandGrammar_106 : decode bn_M_operandGrammar 106 = .ok (.invokevirtual 296, 3) := by decide +kernel
theorem dn_M_operandGrammar_109 : decode bn_M_operandGrammar 109 = .ok (.aload_n 0, 1) := by decide +kernel
theorem dn_M_operandGrammar_110 : decode bn_M_operandGrammar 110 = .ok (.bipush 93, 2) := by decide +kernel
theorem dn_M_operandGrammar_112 : decode bn_M_operandGrammar 112 = .ok (.invokevirtual 305, 3) := by decide +kernel
theorem dn_M_operandGrammar_115 : decode bn_M_operandGrammar 115 = .ok (.goto 51, 3) := by decide +kernel
theorem dn_M_operandGrammar_118 : decode bn_M_operandGrammar 118 = .ok (.aload_n 0, 1) := by decide +kernel
theorem dn_M_operandGrammar_119 : decode bn_M_operandGrammar 119 = .ok (.bipush 40, 2) := by decide +kernel
theorem dn_M_operandGrammar_121 : decode bn_M_operandGrammar 121 = .ok (.invokevirtual 273, 3) := by decide +kernel
theorem dn_M_operandGrammar_124 : decode bn_M_operandGrammar 124 = .ok (.ifCond .eq 22, 3) := by decide +kernel
theorem dn_M_operandGrammar_127 : decode bn_M_operandGrammar 127 = .ok (.aload_n 0, 1) := by decide +kernel
theorem dn_M_operandGrammar_128 : decode bn_M_operandGrammar 128 = .ok (.bipush 40, 2) := by decide +kernel
theorem dn_M_operandGrammar_130 : decode bn_M_operandGrammar 130 = .ok (.invokevirtual 293, 3) := by decide +kernel
theorem dn_M_operandGrammar_133 : decode bn_M_operandGrammar 133 = .ok (.aload_n 0, 1) := by decide +kernel
theorem dn_M_operandGrammar_134 : decode bn_M_operandGrammar 134 = .ok (.invokevirtual 296, 3) := by decide +kernel
theorem dn_M_operandGrammar_137 : decode bn_M_operandGrammar 137 = .ok (.aload_n 0, 1) := by decide +kernel
theorem dn_M_operandGrammar_138 : decode bn_M_operandGrammar 138 = .ok (.bipush 41, 2) := by decide +kernel
theorem dn_M_operandGrammar_140 : decode bn_M_operandGrammar 140 = .ok (.invokevirtual 305, 3) := by decide +kernel
theorem dn_M_operandGrammar_143 : decode bn_M_operandGrammar 143 = .ok (.goto 23, 3) := by decide +kernel
theorem dn_M_operandGrammar_146 : decode bn_M_operandGrammar 146 = .ok (.aload_n 0, 1) := by decide +kernel
theorem dn_M_operandGrammar_147 : decode bn_M_operandGrammar 147 = .ok (.bipush 123, 2) := by decide +kernel
theorem dn_M_operandGrammar_149 : decode bn_M_operandGrammar 149 = .ok (.invokevirtual 273, 3) := by decide +kernel
theorem dn_M_operandGrammar_152 : decode bn_M_operandGrammar 152 = .ok (.ifCond .eq 10, 3) := by decide +kernel
theorem dn_M_operandGrammar_155 : decode bn_M_operandGrammar 155 = .ok (.aload_n 0, 1) := by decide +kernel
theorem dn_M_operandGrammar_156 : decode bn_M_operandGrammar 156 = .ok (.invokevirtual 308, 3) := by decide +kernel
theorem dn_M_operandGrammar_159 : decode bn_M_operandGrammar 159 = .ok (.goto 7, 3) := by decide +kernel
theorem dn_M_operandGrammar_162 : decode bn_M_operandGrammar 162 = .ok (.aload_n 0, 1) := by decide +kernel
theorem dn_M_operandGrammar_163 : decode bn_M_operandGrammar 163 = .ok (.invokevirtual 270, 3) := by decide +kernel
theorem dn_M_operandGrammar_166 : decode bn_M_operandGrammar 166 = .ok (.return_, 1) := by decide +kernel
theorem dn_M_pair_0 : decode bn_M_pair 0 = .ok (.iload_n 0, 1) := by decide +kernel
theorem dn_M_pair_1 : decode bn_M_pair 1 = .ok (.bipush 38, 2) := by decide +kernel
theorem dn_M_pair_3 : decode bn_M_pair 3 = .ok (.if_icmp .ne 15, 3) := by decide +kernel
theorem dn_M_pair_6 : decode bn_M_pair 6 = .ok (.iload_n 1, 1) := by decide +kernel
theorem dn_M_pair_7 : decode bn_M_pair 7 = .ok (.bipush 38, 2) := by decide +kernel
theorem dn_M_pair_9 : decode bn_M_pair 9 = .ok (.if_icmp .ne 9, 3) := by decide +kernel
theorem dn_M_pair_12 : decode bn_M_pair 12 = .ok (.sipush 256, 3) := by decide +kernel
theorem dn_M_pair_15 : decode bn_M_pair 15 = .ok (.goto 130, 3) := by decide +kernel
theorem dn_M_pair_18 : decode bn_M_pair 18 = .ok (.iload_n 0, 1) := by decide +kernel
theorem dn_M_pair_19 : decode bn_M_pair 19 = .ok (.bipush 124, 2) := by decide +kernel
theorem dn_M_pair_21 : decode bn_M_pair 21 = .ok (.if_icmp .ne 15, 3) := by decide +kernel
theorem dn_M_pair_24 : decode bn_M_pair 24 = .ok (.iload_n 1, 1) := by decide +kernel
theorem dn_M_pair_25 : decode bn_M_pair 25 = .ok (.bipush 124, 2) := by decide +kernel
theorem dn_M_pair_27 : decode bn_M_pair 27 = .ok (.if_icmp .ne 9, 3) := by decide +kernel
theorem dn_M_pair_30 : decode bn_M_pair 30 = .ok (.sipush 257, 3) := by decide +kernel
theorem dn_M_pair_33 : decode bn_M_pair 33 = .ok (.goto 112, 3) := by decide +kernel
theorem dn_M_pair_36 : decode bn_M_pair 36 = .ok (.iload_n 0, 1) := by decide +kernel
theorem dn_M_pair_37 : decode bn_M_pair 37 = .ok (.bipush 61, 2) := by decide +kernel
theorem dn_M_pair_39 : decode bn_M_pair 39 = .ok (.if_icmp .ne 15, 3) := by decide +kernel
theorem dn_M_pair_42 : decode bn_M_pair 42 = .ok (.iload_n 1, 1) := by decide +kernel
theorem dn_M_pair_43 : decode bn_M_pair 43 = .ok (.bipush 61, 2) := by decide +kernel
theorem dn_M_pair_45 : decode bn_M_pair 45 = .ok (.if_icmp .ne 9, 3) := by decide +kernel
theorem dn_M_pair_48 : decode bn_M_pair 48 = .ok (.sipush 258, 3) := by decide +kernel
theorem dn_M_pair_51 : decode bn_M_pair 51 = .ok (.goto 94, 3) := by decide +kernel
theorem dn_M_pair_54 : decode bn_M_pair 54 = .ok (.iload_n 0, 1) := by decide +kernel
theorem dn_M_pair_55 : decode bn_M_pair 55 = .ok (.bipush 33, 2) := by decide +kernel
theorem dn_M_pair_57 : decode bn_M_pair 57 = .ok (.if_icmp .ne 15, 3) := by decide +kernel
theorem dn_M_pair_60 : decode bn_M_pair 60 = .ok (.iload_n 1, 1) := by decide +kernel
theorem dn_M_pair_61 : decode bn_M_pair 61 = .ok (.bipush 61, 2) := by decide +kernel
theorem dn_M_pair_63 : decode bn_M_pair 63 = .ok (.if_icmp .ne 9, 3) := by decide +kernel
theorem dn_M_pair_66 : decode bn_M_pair 66 = .ok (.sipush 259, 3) := by decide +kernel
theorem dn_M_pair_69 : decode bn_M_pair 69 = .ok (.goto 76, 3) := by decide +kernel
theorem dn_M_pair_72 : decode bn_M_pair 72 = .ok (.iload_n 0, 1) := by decide +kernel
theorem dn_M_pair_73 : decode bn_M_pair 73 = .ok (.bipush 60, 2) := by decide +kernel
theorem dn_M_pair_75 : decode bn_M_pair 75 = .ok (.if_icmp .ne 15, 3) := by decide +kernel
theorem dn_M_pair_78 : decode bn_M_pair 78 = .ok (.iload_n 1, 1) := by decide +kernel
theorem dn_M_pair_79 : decode bn_M_pair 79 = .ok (.bipush 61, 2) := by decide +kernel
theorem dn_M_pair_81 : decode bn_M_pair 81 = .ok (.if_icmp .ne 9, 3) := by decide +kernel
theorem dn_M_pair_84 : decode bn_M_pair 84 = .ok (.sipush 260, 3) := by decide +kernel
theorem dn_M_pair_87 : decode bn_M_pair 87 = .ok (.goto 58, 3) := by decide +kernel
theorem dn_M_pair_90 : decode bn_M_pair 90 = .ok (.iload_n 0, 1) := by decide +kernel
theorem dn_M_pair_91 : decode bn_M_pair 91 = .ok (.bipush 62, 2) := by decide +kernel
theorem dn_M_pair_93 : decode bn_M_pair 93 = .ok (.if_icmp .ne 15, 3) := by decide +kernel
theorem dn_M_pair_96 : decode bn_M_pair 96 = .ok (.iload_n 1, 1) := by decide +kernel
theorem dn_M_pair_97 : decode bn_M_pair 97 = .ok (.bipush 61, 2) := by decide +kernel
theorem dn_M_pair_99 : decode bn_M_pair 99 = .ok (.if_icmp .ne 9, 3) := by decide +kernel
theorem dn_M_pair_102 : decode bn_M_pair 102 = .ok (.sipush 261, 3) := by decide +kernel
theorem dn_M_pair_105 : decode bn_M_pair 105 = .ok (.goto 40, 3) := by decide +kernel
theorem dn_M_pair_108 : decode bn_M_pair 108 = .ok (.iload_n 0, 1) := by decide +kernel
theorem dn_M_pair_109 : decode bn_M_pair 109 = .ok (.bipush 60, 2) := by decide +kernel
theorem dn_M_pair_111 : decode bn_M_pair 111 = .ok (.if_icmp .ne 15, 3) := by decide +kernel
theorem dn_M_pair_114 : decode bn_M_pair 114 = .ok (.iload_n 1, 1) := by decide +kernel
theorem dn_M_pair_115 : decode bn_M_pair 115 = .ok (.bipush 60, 2) := by decide +kernel
theorem dn_M_pair_117 : decode bn_M_pair 117 = .ok (.if_icmp .ne 9, 3) := by decide +kernel
theorem dn_M_pair_120 : decode bn_M_pair 120 = .ok (.sipush 262, 3) := by decide +kernel
theorem dn_M_pair_123 : decode bn_M_pair 123 = .ok (.goto 22, 3) := by decide +kernel
theorem dn_M_pair_126 : decode bn_M_pair 126 = .ok (.iload_n 0, 1) := by decide +kernel
theorem dn_M_pair_127 : decode bn_M_pair 127 = .ok (.bipush 62, 2) := by decide +kernel
theorem dn_M_pair_129 : decode bn_M_pair 129 = .ok (.if_icmp .ne 15, 3) := by decide +kernel
theorem dn_M_pair_132 : decode bn_M_pair 132 = .ok (.iload_n 1, 1) := by decide +kernel
theorem dn_M_pair_133 : decode bn_M_pair 133 = .ok (.bipush 62, 2) := by decide +kernel
theorem dn_M_pair_135 : decode bn_M_pair 135 = .ok (.if_icmp .ne 9, 3) := by decide +kernel
theorem dn_M_pair_138 : decode bn_M_pair 138 = .ok (.sipush 263, 3) := by decide +kernel
theorem dn_M_pair_141 : decode bn_M_pair 141 = .ok (.goto 4, 3) := by decide +kernel
theorem dn_M_pair_144 : decode bn_M_pair 144 = .ok (.iconst 0, 1) := by decide +kernel
theorem dn_M_pair_145 : decode bn_M_pair 145 = .ok (.ireturn, 1) := by decide +kernel
theorem dn_M_part_0 : decode bn_M_part 0 = .ok (.aload_n 0, 1) := by decide +kernel
theorem dn_M_part_1 : decode bn_M_part 1 = .ok (.getfield 19, 3) := by decide +kernel
theorem dn_M_part_4 : decode bn_M_part 4 = .ok (.aload_n 0, 1) := by decide +kernel
theorem dn_M_part_5 : decode bn_M_part 5 = .ok (.getfield 263, 3) := by decide +kernel
theorem dn_M_part_8 : decode bn_M_part 8 = .ok (.iaload, 1) := by decide +kernel
theorem dn_M_part_9 : decode bn_M_part 9 = .ok (.istore_n 2, 1) := by decide +kernel
theorem dn_M_part_10 : decode bn_M_part 10 = .ok (.aload_n 0, 1) := by decide +kernel
theorem dn_M_part_11 : decode bn_M_part 11 = .ok (.aload_n 0, 1) := by decide +kernel
theorem dn_M_part_12 : decode bn_M_part 12 = .ok (.getfield 263, 3) := by decide +kernel
theorem dn_M_part_15 : decode bn_M_part 15 = .ok (.iconst 1, 1) := by decide +kernel
theorem dn_M_part_16 : decode bn_M_part 16 = .ok (.iadd, 1) := by decide +kernel
theorem dn_M_part_17 : decode bn_M_part 17 = .ok (.invokevirtual 386, 3) := by decide +kernel
theorem dn_M_part_20 : decode bn_M_part 20 = .ok (.l2i, 1) := by decide +kernel
theorem dn_M_part_21 : decode bn_M_part 21 = .ok (.istore_n 3, 1) := by decide +kernel
theorem dn_M_part_22 : decode bn_M_part 22 = .ok (.iload_n 3, 1) := by decide +kernel
theorem dn_M_part_23 : decode bn_M_part 23 = .ok (.istore 4, 2) := by decide +kernel
theorem dn_M_part_25 : decode bn_M_part 25 = .ok (.aload_n 0, 1) := by decide +kernel
theorem dn_M_part_26 : decode bn_M_part 26 = .ok (.aload_n 0, 1) := by decide +kernel
theorem dn_M_part_27 : decode bn_M_part 27 = .ok (.getfield 263, 3) := by decide +kernel
theorem dn_M_part_30 : decode bn_M_part 30 = .ok (.iconst 2, 1) := by decide +kernel
theorem dn_M_part_31 : decode bn_M_part 31 = .ok (.iadd, 1) := by decide +kernel
theorem dn_M_part_32 : decode bn_M_part 32 = .ok (.putfield 263, 3) := by decide +kernel
theorem dn_M_part_35 : decode bn_M_part 35 = .ok (.aload_n 0, 1) := by decide +kernel
theorem dn_M_part_36 : decode bn_M_part 36 = .ok (.invokevirtual 286, 3) := by decide +kernel
theorem dn_M_part_39 : decode bn_M_part 39 = .ok (.bipush 58, 2) := by decide +kernel
theorem dn_M_part_41 : decode bn_M_part 41 = .ok (.if_icmp .ne 26, 3) := by decide +kernel
theorem dn_M_part_44 : decode bn_M_part 44 = .ok (.aload_n 0, 1) := by decide +kernel
theorem dn_M_part_45 : decode bn_M_part 45 = .ok (.aload_n 0, 1) := by decide +kernel
theorem dn_M_part_46 : decode bn_M_part 46 = .ok (.getfield 263, 3) := by decide +kernel
theorem dn_M_part_49 : decode bn_M_part 49 = .ok (.iconst 1, 1) := by decide +kernel
theorem dn_M_part_50 : decode bn_M_part 50 = .ok (.iadd, 1) := by decide +kernel
theorem dn_M_part_51 : decode bn_M_part 51 = .ok (.invokevirtual 386, 3) := by decide +kernel
theorem dn_M_part_54 : decode bn_M_part 54 = .ok (.l2i, 1) := by decide +kernel
theorem dn_M_part_55 : decode bn_M_part 55 = .ok (.istore 4, 2) := by decide +kernel
theorem dn_M_part_57 : decode bn_M_part 57 = .ok (.aload_n 0, 1) := by decide +kernel
theorem dn_M_part_58 : decode bn_M_part 58 = .ok (.aload_n 0, 1) := by decide +kernel
theorem dn_M_part_59 : decode bn_M_part 59 = .ok (.getfield 263, 3) := by decide +kernel
theorem dn_M_part_62 : decode bn_M_part 62 = .ok (.iconst 2, 1) := by decide +kernel
theorem dn_M_part_63 : decode bn_M_part 63 = .ok (.iadd, 1) := by decide +kernel
theorem dn_M_part_64 : decode bn_M_part 64 = .ok (.putfield 263, 3) := by decide +kernel
theorem dn_M_part_67 : decode bn_M_part 67 = .ok (.aload_n 0, 1) := by decide +kernel
theorem dn_M_part_68 : decode bn_M_part 68 = .ok (.dup, 1) := by decide +kernel
theorem dn_M_part_69 : decode bn_M_part 69 = .ok (.getfield 263, 3) := by decide +kernel
theorem dn_M_part_72 : decode bn_M_part 72 = .ok (.iconst 1, 1) := by decide +kernel
theorem dn_M_part_73 : decode bn_M_part 73 = .ok (.iadd, 1) := by decide +kernel
theorem dn_M_part_74 : decode bn_M_part 74 = .ok (.putfield 263, 3) := by decide +kernel
theorem dn_M_part_77 : decode bn_M_part 77 = .ok (.iload_n 3, 1) := by decide +kernel
theorem dn_M_part_78 : decode bn_M_part 78 = .ok (.iload 4, 2) := by decide +kernel
theorem dn_M_part_80 : decode bn_M_part 80 = .ok (.if_icmp .lt 13, 3) := by decide +kernel
theorem dn_M_part_83 : decode bn_M_part 83 = .ok (.iload_n 3, 1) := by decide +kernel
theorem dn_M_part_84 : decode bn_M_part 84 = .ok (.aload_n 0, 1) := by decide +kernel
theorem dn_M_part_85 : decode bn_M_part 85 = .ok (.getfield 43, 3) := by decide +kernel
theorem dn_M_part_88 : decode bn_M_part 88 = .ok (.iload_n 1, 1) := by decide +kernel
theorem dn_M_part_89 : decode bn_M_part 89 = .ok (.iaload, 1) := by decide +kernel
theorem dn_M_part_90 : decode bn_M_part 90 = .ok (.if_icmp .lt 12, 3) := by decide +kernel
theorem dn_M_part_93 : decode bn_M_part 93 = .ok (.aload_n 0, 1) := by decide +kernel
theorem dn_M_part_94 : decode bn_M_part 94 = .ok (.bipush 30, 2) := by decide +kernel
theorem dn_M_part_96 : decode bn_M_part 96 = .ok (.iload_n 2, 1) := by decide +kernel
theorem dn_M_part_97 : decode bn_M_part 97 = .ok (.invokevirtual 266, 3) := by decide +kernel
theorem dn_M_part_100 : decode bn_M_part 100 = .ok (.iconst 0, 1) := by decide +kernel
theorem dn_M_part_101 : decode bn_M_part 101 = .ok (.ireturn, 1) := by decide +kernel
theorem dn_M_part_102 : decode bn_M_part 102 = .ok (.sipush 256, 3) := by decide +kernel
theorem dn_M_part_105 : decode bn_M_part 105 = .ok (.iload_n 3, 1) := by decide +kernel
theorem dn_M_part_106 : decode bn_M_part 106 = .ok (.imul, 1) := by decide +kernel
theorem dn_M_part_107 : decode bn_M_part 107 = .ok (.iload 4, 2) := by decide +kernel
theorem dn_M_part_109 : decode bn_M_part 109 = .ok (.iadd, 1) := by decide +kernel
theorem dn_M_part_110 : decode bn_M_part 110 = .ok (.ireturn, 1) := by decide +kernel
theorem dn_M_partGrammar_0 : decode bn_M_partGrammar 0 = .ok (.aload_n 0, 1) := by decide +kernel
theorem dn_M_partGrammar_1 : decode bn_M_partGrammar 1 = .ok (.sipush 401, 3) := by decide +kernel
theorem dn_M_partGrammar_4 : decode bn_M_partGrammar 4 = .ok (.invokevirtual 279, 3) := by decide +kernel
theorem dn_M_partGrammar_7 : decode bn_M_partGrammar 7 = .ok (.aload_n 0, 1) := by decide +kernel
theorem dn_M_partGrammar_8 : decode bn_M_partGrammar 8 = .ok (.bipush 58, 2) := by decide +kernel
theorem dn_M_partGrammar_10 : decode bn_M_partGrammar 10 = .ok (.invokevirtual 273, 3) := by decide +kernel
theorem dn_M_partGrammar_13 : decode bn_M_partGrammar 13 = .ok (.ifCond .eq 20, 3) := by decide +kernel
theorem dn_M_partGrammar_16 : decode bn_M_partGrammar 16 = .ok (.aload_n 0, 1) := by decide +kernel
theorem dn_M_partGrammar_17 : decode bn_M_partGrammar 17 = .ok (.dup, 1) := by decide +kernel
theorem dn_M_partGrammar_18 : decode bn_M_partGrammar 18 = .ok (.getfield 263, 3) := by decide +kernel
theorem dn_M_partGrammar_21 : decode bn_M_partGrammar 21 = .ok (.iconst 1, 1) := by decide +kernel
theorem dn_M_partGrammar_22 : decode bn_M_partGrammar 22 = .ok (.iadd, 1) := by decide +kernel
theorem dn_M_partGrammar_23 : decode bn_M_partGrammar 23 = .ok (.putfield 263, 3) := by decide +kernel
theorem dn_M_partGrammar_26 : decode bn_M_partGrammar 26 = .ok (.aload_n 0, 1) := by decide +kernel
theorem dn_M_partGrammar_27 : decode bn_M_partGrammar 27 = .ok (.sipush 401, 3) := by decide +kernel
theorem dn_M_partGrammar_30 : decode bn_M_partGrammar 30 = .ok (.invokevirtual 279, 3) := by decide +kernel
theorem dn_M_partGrammar_33 : decode bn_M_partGrammar 33 = .ok (.return_, 1) := by decide +kernel
theorem dn_M_patch_0 : decode bn_M_patch 0 = .ok (.iload_n 1, 1) := by decide +kernel
theorem dn_M_patch_1 : decode bn_M_patch 1 = .ok (.istore_n 2, 1) := by decide +kernel
theorem dn_M_patch_2 : decode bn_M_patch 2 = .ok (.iload_n 2, 1) := by decide +kernel
theorem dn_M_patch_3 : decode bn_M_patch 3 = .ok (.ifCond .lt 29, 3) := by decide +kernel
theorem dn_M_patch_6 : decode bn_M_patch 6 = .ok (.aload_n 0, 1) := by decide +kernel
theorem dn_M_patch_7 : decode bn_M_patch 7 = .ok (.getfield 95, 3) := by decide +kernel
theorem dn_M_patch_10 : decode bn_M_patch 10 = .ok (.iload_n 2, 1) := by decide +kernel
theorem dn_M_patch_11 : decode bn_M_patch 11 = .ok (.iconst 1, 1) := by decide +kernel
theorem dn_M_patch_12 : decode bn_M_patch 12 = .ok (.iadd, 1) := by decide +kernel
theorem dn_M_patch_13 : decode bn_M_patch 13 = .ok (.iaload, 1) := by decide +kernel
theorem dn_M_patch_14 : decode bn_M_patch 14 = .ok (.istore_n 3, 1) := by decide +kernel
theorem dn_M_patch_15 : decode bn_M_patch 15 = .ok (.aload_n 0, 1) := by decide +kernel
theorem dn_M_patch_16 : decode bn_M_patch 16 = .ok (.getfield 95, 3) := by decide +kernel
theorem dn_M_patch_19 : decode bn_M_patch 19 = .ok (.iload_n 2, 1) := by decide +kernel
theorem dn_M_patch_20 : decode bn_M_patch 20 = .ok (.iconst 1, 1) := by decide +kernel
theorem dn_M_patch_21 : decode bn_M_patch 21 = .ok (.iadd, 1) := by decide +kernel
theorem dn_M_patch_22 : decode bn_M_patch 22 = .ok (.aload_n 0, 1) := by decide +kernel
theorem dn_M_patch_23 : decode bn_M_patch 23 = .ok (.getfield 349, 3) := by decide +kernel
theorem dn_M_patch_26 : decode bn_M_patch 26 = .ok (.iastore, 1) := by decide +kernel
theorem dn_M_patch_27 : decode bn_M_patch 27 = .ok (.iload_n 3, 1) := by decide +kernel
theorem dn_M_patch_28 : decode bn_M_patch 28 = .ok (.istore_n 2, 1) := by decide +kernel
theorem dn_M_patch_29 : decode bn_M_patch 29 = .ok (.goto (-27), 3) := by decide +kernel
theorem dn_M_patch_32 : decode bn_M_patch 32 = .ok (.return_, 1) := by decide +kernel
theorem dn_M_pop_0 : decode bn_M_pop 0 = .ok (.aload_n 0, 1) := by decide +kernel
theorem dn_M_pop_1 : decode bn_M_pop 1 = .ok (.dup, 1) := by decide +kernel
theorem dn_M_pop_2 : decode bn_M_pop 2 = .ok (.getfield 584, 3) := by decide +kernel
theorem dn_M_pop_5 : decode bn_M_pop 5 = .ok (.iconst 1, 1) := by decide +kernel
theorem dn_M_pop_6 : decode bn_M_pop 6 = .ok (.isub, 1) := by decide +kernel
theorem dn_M_pop_7 : decode bn_M_pop 7 = .ok (.putfield 584, 3) := by decide +kernel
theorem dn_M_pop_10 : decode bn_M_pop 10 = .ok (.aload_n 0, 1) := by decide +kernel
theorem dn_M_pop_11 : decode bn_M_pop 11 = .ok (.getfield 186, 3) := by decide +kernel
theorem dn_M_pop_14 : decode bn_M_pop 14 = .ok (.aload_n 0, 1) := by decide +kernel
theorem dn_M_pop_15 : decode bn_M_pop 15 = .ok (.getfield 584, 3) := by decide +kernel
theorem dn_M_pop_18 : decode bn_M_pop 18 = .ok (.laload, 1) := by decide +kernel
theorem dn_M_pop_19 : decode bn_M_pop 19 = .ok (.lreturn, 1) := by decide +kernel
theorem dn_M_port_0 : decode bn_M_port 0 = .ok (.aload_n 0, 1) := by decide +kernel
theorem dn_M_port_1 : decode bn_M_port 1 = .ok (.invokevirtual 286, 3) := by decide +kernel
theorem dn_M_port_4 : decode bn_M_port 4 = .ok (.sipush 302, 3) := by decide +kernel
theorem dn_M_port_7 : decode bn_M_port 7 = .ok (.if_icmp .ne 25, 3) := by decide +kernel
theorem dn_M_port_10 : decode bn_M_port 10 = .ok (.aload_n 0, 1) := by decide +kernel
theorem dn_M_port_11 : decode bn_M_port 11 = .ok (.dup, 1) := by decide +kernel
theorem dn_M_port_12 : decode bn_M_port 12 = .ok (.getfield 263, 3) := by decide +kernel
theorem dn_M_port_15 : decode bn_M_port 15 = .ok (.iconst 1, 1) := by decide +kernel
theorem dn_M_port_16 : decode bn_M_port 16 = .ok (.iadd, 1) := by decide +kernel
theorem dn_M_port_17 : decode bn_M_port 17 = .ok (.putfield 263, 3) := by decide +kernel
theorem dn_M_port_20 : decode bn_M_port 20 = .ok (.aload_n 0, 1) := by decide +kernel
theorem dn_M_port_21 : decode bn_M_port 21 = .ok (.iconst 0, 1) := by decide +kernel
theorem dn_M_port_22 : decode bn_M_port 22 = .ok (.aload_n 0, 1) := by decide +kernel
theorem dn_M_port_23 : decode bn_M_port 23 = .ok (.invokevirtual 411, 3) := by decide +kernel
theorem dn_M_port_26 : decode bn_M_port 26 = .ok (.invokevirtual 414, 3) := by decide +kernel
theorem dn_M_port_29 : decode bn_M_port 29 = .ok (.goto 67, 3) := by decide +kernel
theorem dn_M_port_32 : decode bn_M_port 32 = .ok (.aload_n 0, 1) := by decide +kernel
theorem dn_M_port_33 : decode bn_M_port 33 = .ok (.dup, 1) := by decide +kernel
theorem dn_M_port_34 : decode bn_M_port 34 = .ok (.getfield 263, 3) := by decide +kernel
theorem dn_M_port_37 : decode bn_M_port 37 = .ok (.iconst 1, 1) := by decide +kernel
theorem dn_M_port_38 : decode bn_M_port 38 = .ok (.iadd, 1) := by decide +kernel
theorem dn_M_port_39 : decode bn_M_port 39 = .ok (.putfield 263, 3) := by decide +kernel
theorem dn_M_port_42 : decode bn_M_port 42 = .ok (.aload_n 0, 1) := by decide +kernel
theorem dn_M_port_43 : decode bn_M_port 43 = .ok (.invokevirtual 286, 3) := by decide +kernel
theorem dn_M_port_46 : decode bn_M_port 46 = .ok (.sipush 305, 3) := by decide +kernel
theorem dn_M_port_49 : decode bn_M_port 49 = .ok (.if_icmp .ne 7, 3) := by decide +kernel
theorem dn_M_port_52 : decode bn_M_port 52 = .ok (.iconst 1, 1) := by decide +kernel
theorem dn_M_port_53 : decode bn_M_port 53 = .ok (.goto 4, 3) := by decide +kernel
theorem dn_M_port_56 : decode bn_M_port 56 = .ok (.iconst 0, 1) := by decide +kernel
theorem dn_M_port_57 : decode bn_M_port 57 = .ok (.istore_n 1, 1) := by decide +kernel
theorem dn_M_port_58 : decode bn_M_port 58 = .ok (.aload_n 0, 1) := by decide +kernel
theorem dn_M_port_59 : decode bn_M_port 59 = .ok (.iload_n 1, 1) := by decide +kernel
theorem dn_M_port_60 : decode bn_M_port 60 = .ok (.ifCond .eq 12, 3) := by decide +kernel
theorem dn_M_port_63 : decode bn_M_port 63 = .ok (.aload_n 0, 1) := by decide +kernel
theorem dn_M_port_64 : decode bn_M_port 64 = .ok (.getfield 263, 3) := by decide +kernel
theorem dn_M_port_67 : decode bn_M_port 67 = .ok (.iconst 1, 1) := by decide +kernel
theorem dn_M_port_68 : decode bn_M_port 68 = .ok (.iadd, 1) := by decide +kernel
theorem dn_M_port_69 : decode bn_M_port 69 = .ok (.goto 7, 3) := by decide +kernel
theorem dn_M_port_72 : decode bn_M_port 72 = .ok (.aload_n 0, 1) := by decide +kernel
theorem dn_M_port_73 : decode bn_M_port 73 = .ok (.getfield 263, 3) := by decide +kernel
theorem dn_M_port_76 : decode bn_M_port 76 = .ok (.putfield 263, 3) := by decide +kernel
theorem dn_M_port_79 : decode bn_M_port 79 = .ok (.aload_n 0, 1) := by decide +kernel
theorem dn_M_port_80 : decode bn_M_port 80 = .ok (.iload_n 1, 1) := by decide +kernel
theorem dn_M_port_81 : decode bn_M_port 81 = .ok (.ifCond .eq 7, 3) := by decide +kernel
theorem dn_M_port_84 : decode bn_M_port 84 = .ok (.iconst 2, 1) := by decide +kernel
theorem dn_M_port_85 : decode bn_M_port 85 = .ok (.goto 4, 3) := by decide +kernel
theorem dn_M_port_88 : decode bn_M_port 88 = .ok (.iconst 1, 1) := by decide +kernel
theorem dn_M_port_89 : decode bn_M_port 89 = .ok (.aload_n 0, 1) := by decide +kernel
theorem dn_M_port_90 : decode bn_M_port 90 = .ok (.invokevirtual 411, 3) := by decide +kernel
theorem dn_M_port_93 : decode bn_M_port 93 = .ok (.invokevirtual 414, 3) := by decide +kernel
theorem dn_M_port_96 : decode bn_M_port 96 = .ok (.return_, 1) := by decide +kernel
theorem dn_M_portGrammar_0 : decode bn_M_portGrammar 0 = .ok (.aload_n 0, 1) := by decide +kernel
theorem dn_M_portGrammar_1 : decode bn_M_portGrammar 1 = .ok (.sipush 302, 3) := by decide +kernel
theorem dn_M_portGrammar_4 : decode bn_M_portGrammar 4 = .ok (.invokevirtual 273, 3) := by decide +kernel
theorem dn_M_portGrammar_7 : decode bn_M_portGrammar 7 = .ok (.ifCond .eq 27, 3) := by decide +kernel
theorem dn_M_portGrammar_10 : decode bn_M_portGrammar 10 = .ok (.aload_n 0, 1) := by decide +kernel
theorem dn_M_portGrammar_11 : decode bn_M_portGrammar 11 = .ok (.dup, 1) := by decide +kernel
theorem dn_M_portGrammar_12 : decode bn_M_portGrammar 12 = .ok (.getfield 263, 3) := by decide +kernel
theorem dn_M_portGrammar_15 : decode bn_M_portGrammar 15 = .ok (.iconst 1, 1) := by decide +kernel
theorem dn_M_portGrammar_16 : decode bn_M_portGrammar 16 = .ok (.iadd, 1) := by decide +kernel
theorem dn_M_portGrammar_17 : decode bn_M_portGrammar 17 = .ok (.putfield 263, 3) := by decide +kernel
theorem dn_M_portGrammar_20 : decode bn_M_portGrammar 20 = .ok (.aload_n 0, 1) := by decide +kernel
theorem dn_M_portGrammar_21 : decode bn_M_portGrammar 21 = .ok (.invokevirtual 311, 3) := by decide +kernel
theorem dn_M_portGrammar_24 : decode bn_M_portGrammar 24 = .ok (.aload_n 0, 1) := by decide +kernel
theorem dn_M_portGrammar_25 : decode bn_M_portGrammar 25 = .ok (.sipush 400, 3) := by decide +kernel
theorem dn_M_portGrammar_28 : decode bn_M_portGrammar 28 = .ok (.invokevirtual 279, 3) := by decide +kernel
theorem dn_M_portGrammar_31 : decode bn_M_portGrammar 31 = .ok (.goto 59, 3) := by decide +kernel
theorem dn_M_portGrammar_34 : decode bn_M_portGrammar 34 = .ok (.aload_n 0, 1) := by decide +kernel
theorem dn_M_portGrammar_35 : decode bn_M_portGrammar 35 = .ok (.sipush 303, 3) := by decide +kernel
theorem dn_M_portGrammar_38 : decode bn_M_portGrammar 38 = .ok (.invokevirtual 279, 3) := by decide +kernel
theorem dn_M_portGrammar_41 : decode bn_M_portGrammar 41 = .ok (.aload_n 0, 1) := by decide +kernel
theorem dn_M_portGrammar_42 : decode bn_M_portGrammar 42 = .ok (.sipush 305, 3) := by decide +kernel
theorem dn_M_portGrammar_45 : decode bn_M_portGrammar 45 = .ok (.invokevirtual 273, 3) := by decide +kernel
theorem dn_M_portGrammar_48 : decode bn_M_portGrammar 48 = .ok (.ifCond .eq 31, 3) := by decide +kernel
theorem dn_M_portGrammar_51 : decode bn_M_portGrammar 51 = .ok (.aload_n 0, 1) := by decide +kernel
theorem dn_M_portGrammar_52 : decode bn_M_portGrammar 52 = .ok (.dup, 1) := by decide +kernel
theorem dn_M_portGrammar_53 : decode bn_M_portGrammar 53 = .ok (.getfield 263, 3) := by decide +kernel
theorem dn_M_portGrammar_56 : decode bn_M_portGrammar 56 = .ok (.iconst 1, 1) := by decide +kernel
theorem dn_M_portGrammar_57 : decode bn_M_portGrammar 57 = .ok (.iadd, 1) := by decide +kernel
theorem dn_M_portGrammar_58 : decode bn_M_portGrammar 58 = .ok (.putfield 263, 3) := by decide +kernel
theorem dn_M_portGrammar_61 : decode bn_M_portGrammar 61 = .ok (.aload_n 0, 1) := by decide +kernel
theorem dn_M_portGrammar_62 : decode bn_M_portGrammar 62 = .ok (.invokevirtual 311, 3) := by decide +kernel
theorem dn_M_portGrammar_65 : decode bn_M_portGrammar 65 = .ok (.aload_n 0, 1) := by decide +kernel
theorem dn_M_portGrammar_66 : decode bn_M_portGrammar 66 = .ok (.sipush 400, 3) := by decide +kernel
theorem dn_M_portGrammar_69 : decode bn_M_portGrammar 69 = .ok (.invokevirtual 279, 3) := by decide +kernel
theorem dn_M_portGrammar_72 : decode bn_M_portGrammar 72 = .ok (.aload_n 0, 1) := by decide +kernel
theorem dn_M_portGrammar_73 : decode bn_M_portGrammar 73 = .ok (.invokevirtual 314, 3) := by decide +kernel
theorem dn_M_portGrammar_76 : decode bn_M_portGrammar 76 = .ok (.goto 14, 3) := by decide +kernel
theorem dn_M_portGrammar_79 : decode bn_M_portGrammar 79 = .ok (.aload_n 0, 1) := by decide +kernel
theorem dn_M_portGrammar_80 : decode bn_M_portGrammar 80 = .ok (.invokevirtual 311, 3) := by decide +kernel
theorem dn_M_portGrammar_83 : decode bn_M_portGrammar 83 = .ok (.aload_n 0, 1) := by decide +kernel
theorem dn_M_portGrammar_84 : decode bn_M_portGrammar 84 = .ok (.sipush 400, 3) := by decide +kernel
theorem dn_M_portGrammar_87 : decode bn_M_portGrammar 87 = .ok (.invokevirtual 279, 3) := by decide +kernel
theorem dn_M_portGrammar_90 : decode bn_M_portGrammar 90 = .ok (.return_, 1) := by decide +kernel
theorem dn_M_primary_0 : decode bn_M_primary 0 = .ok (.aload_n 0, 1) := by decide +kernel
theorem dn_M_primary_1 : decode bn_M_primary 1 = .ok (.getfield 257, 3) := by decide +kernel
theorem dn_M_primary_4 : decode bn_M_primary 4 = .ok (.ifCond .eq 5, 3) := by decide +kernel
theorem dn_M_primary_7 : decode bn_M_primary 7 = .ok (.iconst 1, 1) := by decide +kernel
theorem dn_M_primary_8 : decode bn_M_primary 8 = .ok (.ireturn, 1) := by decide +kernel
theorem dn_M_primary_9 : decode bn_M_primary 9 = .ok (.aload_n 0, 1) := by decide +kernel
theorem dn_M_primary_10 : decode bn_M_primary 10 = .ok (.getfield 263, 3) := by decide +kernel
theorem dn_M_primary_13 : decode bn_M_primary 13 = .ok (.istore_n 1, 1) := by decide +kernel
theorem dn_M_primary_14 : decode bn_M_primary 14 = .ok (.aload_n 0, 1) := by decide +kernel
theorem dn_M_primary_15 : decode bn_M_primary 15 = .ok (.dup, 1) := by decide +kernel
theorem dn_M_primary_16 : decode bn_M_primary 16 = .ok (.getfield 263, 3) := by decide +kernel
theorem dn_M_primary_19 : decode bn_M_primary 19 = .ok (.iconst 1, 1) := by decide +kernel
theorem dn_M_primary_20 : decode bn_M_primary 20 = .ok (.iadd, 1) := by decide +kernel
theorem dn_M_primary_21 : decode bn_M_primary 21 = .ok (.putfield 263, 3) := by decide +kernel
theorem dn_M_primary_24 : decode bn_M_primary 24 = .ok (.aload_n 0, 1) := by decide +kernel
theorem dn_M_primary_25 : decode bn_M_primary 25 = .ok (.getfield 15, 3) := by decide +kernel
theorem dn_M_primary_28 : decode bn_M_primary 28 = .ok (.iload_n 1, 1) := by decide +kernel
theorem dn_M_primary_29 : decode bn_M_primary 29 = .ok (.iaload, 1) := by decide +kernel
theorem dn_M_primary_30 : decode bn_M_primary 30 = .ok (.sipush 402, 3) := by decide +kernel
theorem dn_M_primary_33 : decode bn_M_primary 33 = .ok (.if_icmp .ne 24, 3) := by decide +kernel
theorem dn_M_primary_36 : decode bn_M_primary 36 = .ok (.aload_n 0, 1) := by decide +kernel
theorem dn_M_primary_37 : decode bn_M_primary 37 = .ok (.iconst 0, 1) := by decide +kernel
theorem dn_M_primary_38 : decode bn_M_primary 38 = .ok (.aload_n 0, 1) := by decide +kernel
theorem dn_M_primary_39 : decode bn_M_primary 39 = .ok (.aload_n 0, 1) := by decide +kernel
theorem dn_M_primary_40 : decode bn_M_primary 40 = .ok (.iload_n 1, 1) := by decide +kernel
theorem dn_M_primary_41 : decode bn_M_primary 41 = .ok (.invokevirtual 386, 3) := by decide +kernel
theorem dn_M_primary_44 : decode bn_M_primary 44 = .ok (.invokevirtual 390, 3) := by decide +kernel
theorem dn_M_primary_47 : decode bn_M_primary 47 = .ok (.iconst 0, 1) := by decide +kernel
theorem dn_M_primary_48 : decode bn_M_primary 48 = .ok (.invokevirtual 365, 3) := by decide +kernel
theorem dn_M_primary_51 : decode bn_M_primary 51 = .ok (.aload_n 0, 1) := by decide +kernel
theorem dn_M_primary_52 : decode bn_M_primary 52 = .ok (.iload_n 1, 1) := by decide +kernel
theorem dn_M_primary_53 : decode bn_M_primary 53 = .ok (.invokevirtual 394, 3) := by decide +kernel
theorem dn_M_primary_56 : decode bn_M_primary 56 = .ok (.ireturn, 1) := by decide +kernel
theorem dn_M_primary_57 : decode bn_M_primary 57 = .ok (.aload_n 0, 1) := by decide +kernel
theorem dn_M_primary_58 : decode bn_M_primary 58 = .ok (.getfield 15, 3) := by decide +kernel
theorem dn_M_primary_61 : decode bn_M_primary 61 = .ok (.iload_n 1, 1) := by decide +kernel
theorem dn_M_primary_62 : decode bn_M_primary 62 = .ok (.iaload, 1) := by decide +kernel
theorem dn_M_primary_63 : decode bn_M_primary 63 = .ok (.bipush 40, 2) := by decide +kernel
theorem dn_M_primary_65 : decode bn_M_primary 65 = .ok (.if_icmp .ne 20, 3) := by decide +kernel
theorem dn_M_primary_68 : decode bn_M_primary 68 = .ok (.aload_n 0, 1) := by decide +kernel
theorem dn_M_primary_69 : decode bn_M_primary 69 = .ok (.invokevirtual 358, 3) := by decide +kernel
theorem dn_M_primary_72 : decode bn_M_primary 72 = .ok (.istore_n 2, 1) := by decide +kernel
theorem dn_M_primary_73 : decode bn_M_primary 73 = .ok (.aload_n 0, 1) := by decide +kernel
theorem dn_M_primary_74 : decode bn_M_primary 74 = .ok (.dup, 1) := by decide +kernel
theorem dn_M_primary_75 : decode bn_M_primary 75 = .ok (.getfield 263, 3) := by decide +kernel
theorem dn_M_primary_78 : decode bn_M_primary 78 = .ok (.iconst 1, 1) := by decide +kernel
theorem dn_M_primary_79 : decode bn_M_primary 79 = .ok (.iadd, 1) := by decide +kernel
theorem dn_M_primary_80 : decode bn_M_primary 80 = .ok (.putfield 263, 3) := by decide +kernel
theorem dn_M_primary_83 : decode bn_M_primary 83 = .ok (.iload_n 2, 1) := by decide +kernel
theorem dn_M_primary_84 : decode bn_M_primary 84 = .ok (.ireturn, 1) := by decide +kernel
theorem dn_M_primary_85 : decode bn_M_primary 85 = .ok (.aload_n 0, 1) := by decide +kernel
theorem dn_M_primary_86 : decode bn_M_primary 86 = .ok (.getfield 15, 3) := by decide +kernel
theorem dn_M_primary_89 : decode bn_M_primary 89 = .ok (.iload_n 1, 1) := by decide +kernel
theorem dn_M_primary_90 : decode bn_M_primary 90 = .ok (.iaload, 1) := by decide +kernel
theorem dn_M_primary_91 : decode bn_M_primary 91 = .ok (.bipush 123, 2) := by decide +kernel
theorem dn_M_primary_93 : decode bn_M_primary 93 = .ok (.if_icmp .ne 14, 3) := by decide +kernel
theorem dn_M_primary_96 : decode bn_M_primary 96 = .ok (.aload_n 0, 1) := by decide +kernel
theorem dn_M_primary_97 : decode bn_M_primary 97 = .ok (.aload_n 0, 1) := by decide +kernel
theorem dn_M_primary_98 : decode bn_M_primary 98 = .ok (.getfield 19, 3) := by decide +kernel
theorem dn_M_primary_101 : decode bn_M_primary 101 = .ok (.iload_n 1, 1) := by decide +kernel
theorem dn_M_primary_102 : decode bn_M_primary 102 = .ok (.iaload, 1) := by decide +kernel
theorem dn_M_primary_103 : decode bn_M_primary 103 = .ok (.invokevirtual 397, 3) := by decide +kernel
theorem dn_M_primary_106 : decode bn_M_primary 106 = .ok (.ireturn, 1) := by decide +kernel
theorem dn_M_primary_107 : decode bn_M_primary 107 = .ok (.aload_n 0, 1) := by decide +kernel
theorem dn_M_primary_108 : decode bn_M_primary 108 = .ok (.iload_n 1, 1) := by decide +kernel
theorem dn_M_primary_109 : decode bn_M_primary 109 = .ok (.invokevirtual 400, 3) := by decide +kernel
theorem dn_M_primary_112 : decode bn_M_primary 112 = .ok (.istore_n 2, 1) := by decide +kernel
theorem dn_M_primary_113 : decode bn_M_primary 113 = .ok (.iload_n 2, 1) := by decide +kernel
theorem dn_M_primary_114 : decode bn_M_primary 114 = .ok (.ifCond .ge 17, 3) := by decide +kernel
theorem dn_M_primary_117 : decode bn_M_primary 117 = .ok (.aload_n 0, 1) := by decide +kernel
theorem dn_M_primary_118 : decode bn_M_primary 118 = .ok (.bipush 22, 2) := by decide +kernel
theorem dn_M_primary_120 : decode bn_M_primary 120 = .ok (.aload_n 0, 1) := by decide +kernel
theorem dn_M_primary_121 : decode bn_M_primary 121 = .ok (.getfield 19, 3) := by decide +kernel
theorem dn_M_primary_124 : decode bn_M_primary 124 = .ok (.iload_n 1, 1) := by decide +kernel
theorem dn_M_primary_125 : decode bn_M_primary 125 = .ok (.iaload, 1) := by decide +kernel
theorem dn_M_primary_126 : decode bn_M_primary 126 = .ok (.invokevirtual 266, 3) := by decide +kernel
theorem dn_M_primary_129 : decode bn_M_primary 129 = .ok (.iconst 1, 1) := by decide +kernel
theorem dn_M_primary_130 : decode bn_M_primary 130 = .ok (.ireturn, 1) := by decide +kernel
theorem dn_M_primary_131 : decode bn_M_primary 131 = .ok (.aload_n 0, 1) := by decide +kernel
theorem dn_M_primary_132 : decode bn_M_primary 132 = .ok (.iconst 1, 1) := by decide +kernel
theorem dn_M_primary_133 : decode bn_M_primary 133 = .ok (.iload_n 2, 1) := by decide +kernel
theorem dn_M_primary_134 : decode bn_M_primary 134 = .ok (.iconst 0, 1) := by decide +kernel
theorem dn_M_primary_135 : decode bn_M_primary 135 = .ok (.invokevirtual 365, 3) := by decide +kernel
theorem dn_M_primary_138 : decode bn_M_primary 138 = .ok (.aload_n 0, 1) := by decide +kernel
theorem dn_M_primary_139 : decode bn_M_primary 139 = .ok (.invokevirtual 286, 3) := by decide +kernel
theorem dn_M_primary_142 : decode bn_M_primary 142 = .ok (.bipush 91, 2) := by decide +kernel
theorem dn_M_primary_144 : decode bn_M_primary 144 = .ok (.if_icmp .eq 10, 3) := by decide +kernel
theorem dn_M_primary_147 : decode bn_M_primary 147 = .ok (.aload_n 0, 1) := by decide +kernel
theorem dn_M_primary_148 : decode bn_M_primary 148 = .ok (.getfield 43, 3) := by decide +kernel
theorem dn_M_primary_151 : decode bn_M_primary 151 = .ok (.iload_n 2, 1) := by decide +kernel
theorem dn_M_primary_152 : decode bn_M_primary 152 = .ok (.iaload, 1) := by decide +kernel
theorem dn_M_primary_153 : decode bn_M_primary 153 = .ok (.ireturn, 1) := by decide +kernel
theorem dn_M_primary_154 : decode bn_M_primary 154 = .ok (.aload_n 0, 1) := by decide +kernel
theorem dn_M_primary_155 : decode bn_M_primary 155 = .ok (.getfield 15, 3) := by decide +kernel
theorem dn_M_primary_158 : decode bn_M_primary 158 = .ok (.aload_n 0, 1) := by decide +kernel
theorem dn_M_primary_159 : decode bn_M_primary 159 = .ok (.getfield 263, 3) := by decide +kernel
theorem dn_M_primary_162 : decode bn_M_primary 162 = .ok (.iconst 1, 1) := by decide +kernel
theorem dn_M_primary_163 : decode bn_M_primary 163 = .ok (.iadd, 1) := by decide +kernel
theorem dn_M_primary_164 : decode bn_M_primary 164 = .ok (.iaload, 1) := by decide +kernel
theorem dn_M_primary_165 : decode bn_M_primary 165 = .ok (.sipush 401, 3) := by decide +kernel
theorem dn_M_primary_168 : decode bn_M_primary 168 = .ok (.if_icmp .ne 38, 3) := by decide +kernel
theorem dn_M_primary_171 : decode bn_M_primary 171 = .ok (.aload_n 0, 1) := by decide +kernel
theorem dn_M_primary_172 : decode bn_M_primary 172 = .ok (.iload_n 2, 1) := by decide +kernel
theorem dn_M_primary_173 : decode bn_M_primary 173 = .ok (.invokevirtual 403, 3) := by decide +kernel
theorem dn_M_primary_176 : decode bn_M_primary 176 = .ok (.istore_n 3, 1) := by decide +kernel
theorem dn_M_primary_177 : decode bn_M_primary 177 = .ok (.aload_n 0, 1) := by decide +kernel
theorem dn_M_primary_178 : decode bn_M_primary 178 = .ok (.iconst 2, 1) := by decide +kernel
theorem dn_M_primary_179 : decode bn_M_primary 179 = .ok (.iload_n 3, 1) := by decide +kernel
theorem dn_M_primary_180 : decode bn_M_primary 180 = .ok (.sipush 256, 3) := by decide +kernel
theorem dn_M_primary_183 : decode bn_M_primary 183 = .ok (.idiv, 1) := by decide +kernel
theorem dn_M_primary_184 : decode bn_M_primary 184 = .ok (.iload_n 3, 1) := by decide +kernel
theorem dn_M_primary_185 : decode bn_M_primary 185 = .ok (.sipush 256, 3) := by decide +kernel
theorem dn_M_primary_188 : decode bn_M_primary 188 = .ok (.irem, 1) := by decide +kernel
theorem dn_M_primary_189 : decode bn_M_primary 189 = .ok (.invokevirtual 365, 3) := by decide +kernel
theorem dn_M_primary_192 : decode bn_M_primary 192 = .ok (.iload_n 3, 1) := by decide +kernel
theorem dn_M_primary_193 : decode bn_M_primary 193 = .ok (.sipush 256, 3) := by decide +kernel
theorem dn_M_primary_196 : decode bn_M_primary 196 = .ok (.idiv, 1) := by decide +kernel
theorem dn_M_primary_197 : decode bn_M_primary 197 = .ok (.iload_n 3, 1) := by decide +kernel
theorem dn_M_primary_198 : decode bn_M_primary 198 = .ok (.sipush 256, 3) := by decide +kernel
theorem dn_M_primary_201 : decode bn_M_primary 201 = .ok (.irem, 1) := by decide +kernel
theorem dn_M_primary_202 : decode bn_M_primary 202 = .ok (.isub, 1) := by decide +kernel
theorem dn_M_primary_203 : decode bn_M_primary 203 = .ok (.iconst 1, 1) := by decide +kernel
theorem dn_M_primary_204 : decode bn_M_primary 204 = .ok (.iadd, 1) := by decide +kernel
theorem dn_M_primary_205 : decode bn_M_primary 205 = .ok (.ireturn, 1) := by decide +kernel
theorem dn_M_primary_206 : decode bn_M_primary 206 = .ok (.aload_n 0, 1) := by decide +kernel
theorem dn_M_primary_207 : decode bn_M_primary 207 = .ok (.dup, 1) := by decide +kernel
theorem dn_M_primary_208 : decode bn_M_primary 208 = .ok (.getfield 263, 3) := by decide +kernel
theorem dn_M_primary_211 : decode bn_M_primary 211 = .ok (.iconst 1, 1) := by decide +kernel
theorem dn_M_primary_212 : decode bn_M_primary 212 = .ok (.iadd, 1) := by decide +kernel
theorem dn_M_primary_213 : decode bn_M_primary 213 = .ok (.putfield 263, 3) := by decide +kernel
theorem dn_M_primary_216 : decode bn_M_primary 216 = .ok (.aload_n 0, 1) := by decide +kernel
theorem dn_M_primary_217 : decode bn_M_primary 217 = .ok (.invokevirtual 358, 3) := by decide +kernel
theorem dn_M_primary_220 : decode bn_M_primary 220 = .ok (.istore_n 3, 1) := by decide +kernel
theorem dn_M_primary_221 : decode bn_M_primary 221 = .ok (.aload_n 0, 1) := by decide +kernel
theorem dn_M_primary_222 : decode bn_M_primary 222 = .ok (.dup, 1) := by decide +kernel
theorem dn_M_primary_223 : decode bn_M_primary 223 = .ok (.getfield 263, 3) := by decide +kernel
theorem dn_M_primary_226 : decode bn_M_primary 226 = .ok (.iconst 1, 1) := by decide +kernel
theorem dn_M_primary_227 : decode bn_M_primary 227 = .ok (.iadd, 1) := by decide +kernel
theorem dn_M_primary_228 : decode bn_M_primary 228 = .ok (.putfield 263, 3) := by decide +kernel
theorem dn_M_primary_231 : decode bn_M_primary 231 = .ok (.aload_n 0, 1) := by decide +kernel
theorem dn_M_primary_232 : decode bn_M_primary 232 = .ok (.iload_n 3, 1) := by decide +kernel
theorem dn_M_primary_233 : decode bn_M_primary 233 = .ok (.aload_n 0, 1) := by decide +kernel
theorem dn_M_primary_234 : decode bn_M_primary 234 = .ok (.getfield 43, 3) := by decide +kernel
theorem dn_M_primary_237 : decode bn_M_primary 237 = .ok (.iload_n 2, 1) := by decide +kernel
theorem dn_M_primary_238 : decode bn_M_primary 238 = .ok (.iaload, 1) := by decide +kernel
theorem dn_M_primary_239 : decode bn_M_primary 239 = .ok (.if_icmp .le 8, 3) := by decide +kernel
theorem dn_M_primary_242 : decode bn_M_primary 242 = .ok (.iload_n 3, 1) := by decide +kernel
theorem dn_M_primary_243 : decode bn_M_primary 243 = .ok (.i2l, 1) := by decide +kernel
theorem dn_M_primary_244 : decode bn_M_primary 244 = .ok (.goto 10, 3) := by decide +kernel
theorem dn_M_primary_247 : decode bn_M_primary 247 = .ok (.aload_n 0, 1) := by decide +kernel
theorem dn_M_primary_248 : decode bn_M_primary 248 = .ok (.getfield 43, 3) := by decide +kernel
theorem dn_M_primary_251 : decode bn_M_primary 251 = .ok (.iload_n 2, 1) := by decide +kernel
theorem dn_M_primary_252 : decode bn_M_primary 252 = .ok (.iaload, 1) := by decide +kernel
theorem dn_M_primary_253 : decode bn_M_primary 253 = .ok (.i2l, 1) := by decide +kernel
theorem dn_M_primary_254 : decode bn_M_primary 254 = .ok (.invokevirtual 361, 3) := by decide +kernel
theorem dn_M_primary_257 : decode bn_M_primary 257 = .ok (.aload_n 0, 1) := by decide +kernel
theorem dn_M_primary_258 : decode bn_M_primary 258 = .ok (.iconst 3, 1) := by decide +kernel
theorem dn_M_primary_259 : decode bn_M_primary 259 = .ok (.aload_n 0, 1) := by decide +kernel
theorem dn_M_primary_260 : decode bn_M_primary 260 = .ok (.getfield 43, 3) := by decide +kernel
theorem dn_M_primary_263 : decode bn_M_primary 263 = .ok (.iload_n 2, 1) := by decide +kernel
theorem dn_M_primary_264 : decode bn_M_primary 264 = .ok (.iaload, 1) := by decide +kernel
theorem dn_M_primary_265 : decode bn_M_primary 265 = .ok (.iconst 0, 1) := by decide +kernel
theorem dn_M_primary_266 : decode bn_M_primary 266 = .ok (.invokevirtual 365, 3) := by decide +kernel
theorem dn_M_primary_269 : decode bn_M_primary 269 = .ok (.iconst 1, 1) := by decide +kernel
theorem dn_M_primary_270 : decode bn_M_primary 270 = .ok (.ireturn, 1) := by decide +kernel
theorem dn_M_push_0 : decode bn_M_push 0 = .ok (.aload_n 0, 1) := by decide +kernel
theorem dn_M_push_1 : decode bn_M_push 1 = .ok (.getfield 186, 3) := by decide +kernel
theorem dn_M_push_4 : decode bn_M_push 4 = .ok (.aload_n 0, 1) := by decide +kernel
theorem dn_M_push_5 : decode bn_M_push 5 = .ok (.getfield 584, 3) := by decide +kernel
theorem dn_M_push_8 : decode bn_M_push 8 = .ok (.lload_n 1, 1) := by decide +kernel
theorem dn_M_push_9 : decode bn_M_push 9 = .ok (.lastore, 1) := by decide +kernel
theorem dn_M_push_10 : decode bn_M_push 10 = .ok (.aload_n 0, 1) := by decide +kernel
theorem dn_M_push_11 : decode bn_M_push 11 = .ok (.dup, 1) := by decide +kernel
theorem dn_M_push_12 : decode bn_M_push 12 = .ok (.getfield 584, 3) := by decide +kernel
theorem dn_M_push_15 : decode bn_M_push 15 = .ok (.iconst 1, 1) := by decide +kernel
theorem dn_M_push_16 : decode bn_M_push 16 = .ok (.iadd, 1) := by decide +kernel
theorem dn_M_push_17 : decode bn_M_push 17 = .ok (.putfield 584, 3) := by decide +kernel
theorem dn_M_push_20 : decode bn_M_push 20 = .ok (.return_, 1) := by decide +kernel
theorem dn_M_pushWidth_0 : decode bn_M_pushWidth 0 = .ok (.aload_n 0, 1) := by decide +kernel
theorem dn_M_pushWidth_1 : decode bn_M_pushWidth 1 = .ok (.getfield 119, 3) := by decide +kernel
theorem dn_M_pushWidth_4 : decode bn_M_pushWidth 4 = .ok (.aload_n 0, 1) := by decide +kernel
theorem dn_M_pushWidth_5 : decode bn_M_pushWidth 5 = .ok (.getfield 380, 3) := by decide +kernel
theorem dn_M_pushWidth_8 : decode bn_M_pushWidth 8 = .ok (.iload_n 1, 1) := by decide +kernel
theorem dn_M_pushWidth_9 : decode bn_M_pushWidth 9 = .ok (.iastore, 1) := by decide +kernel
theorem dn_M_pushWidth_10 : decode bn_M_pushWidth 10 = .ok (.aload_n 0, 1) := by decide +kernel
theorem dn_M_pushWidth_11 : decode bn_M_pushWidth 11 = .ok (.dup, 1) := by decide +kernel
theorem dn_M_pushWidth_12 : decode bn_M_pushWidth 12 = .ok (.getfield 380, 3) := by decide +kernel
theorem dn_M_pushWidth_15 : decode bn_M_pushWidth 15 = .ok (.iconst 1, 1) := by decide +kernel
theorem dn_M_pushWidth_16 : decode bn_M_pushWidth 16 = .ok (.iadd, 1) := by decide +kernel
theorem dn_M_pushWidth_17 : decode bn_M_pushWidth 17 = .ok (.putfield 380, 3) := by decide +kernel
theorem dn_M_pushWidth_20 : decode bn_M_pushWidth 20 = .ok (.return_, 1) := by decide +kernel
theorem dn_M_putInOrder_0 : decode bn_M_putInOrder 0 = .ok (.aload_n 0, 1) := by decide +kernel
theorem dn_M_putInOrder_1 : decode bn_M_putInOrder 1 = .ok (.iconst 0, 1) := by decide +kernel
theorem dn_M_putInOrder_2 : decode bn_M_putInOrder 2 = .ok (.putfield 509, 3) := by decide +kernel
theorem dn_M_putInOrder_5 : decode bn_M_putInOrder 5 = .ok (.iconst 0, 1) := by decide +kernel
theorem dn_M_putInOrder_6 : decode bn_M_putInOrder 6 = .ok (.istore_n 1, 1) := by decide +kernel
theorem dn_M_putInOrder_7 : decode bn_M_putInOrder 7 = .ok (.iload_n 1, 1) := by decide +kernel
theorem dn_M_putInOrder_8 : decode bn_M_putInOrder 8 = .ok (.aload_n 0, 1) := by decide +kernel
theorem dn_M_putInOrder_9 : decode bn_M_putInOrder 9 = .ok (.getfield 497, 3) := by decide +kernel
theorem dn_M_putInOrder_12 : decode bn_M_putInOrder 12 = .ok (.if_icmp .ge 29, 3) := by decide +kernel
theorem dn_M_putInOrder_15 : decode bn_M_putInOrder 15 = .ok (.aload_n 0, 1) := by decide +kernel
theorem dn_M_putInOrder_16 : decode bn_M_putInOrder 16 = .ok (.getfield 164, 3) := by decide +kernel
theorem dn_M_putInOrder_19 : decode bn_M_putInOrder 19 = .ok (.iload_n 1, 1) := by decide +kernel
theorem dn_M_putInOrder_20 : decode bn_M_putInOrder 20 = .ok (.aload_n 0, 1) := by decide +kernel
theorem dn_M_putInOrder_21 : decode bn_M_putInOrder 21 = .ok (.getfield 149, 3) := by decide +kernel
theorem dn_M_putInOrder_24 : decode bn_M_putInOrder 24 = .ok (.iload_n 1, 1) := by decide +kernel
theorem dn_M_putInOrder_25 : decode bn_M_putInOrder 25 = .ok (.iaload, 1) := by decide +kernel
theorem dn_M_putInOrder_26 : decode bn_M_putInOrder 26 = .ok (.ifCond .ne 7, 3) := by decide +kernel
theorem dn_M_putInOrder_29 : decode bn_M_putInOrder 29 = .ok (.iconst 1, 1) := by decide +kernel
theorem dn_M_putInOrder_30 : decode bn_M_putInOrder 30 = .ok (.goto 4, 3) := by decide +kernel
theorem dn_M_putInOrder_33 : decode bn_M_putInOrder 33 = .ok (.iconst 0, 1) := by decide +kernel
theorem dn_M_putInOrder_34 : decode bn_M_putInOrder 34 = .ok (.bastore, 1) := by decide +kernel
theorem dn_M_putInOrder_35 : decode bn_M_putInOrder 35 = .ok (.iinc 1 1, 3) := by decide +kernel
theorem dn_M_putInOrder_38 : decode bn_M_putInOrder 38 = .ok (.goto (-31), 3) := by decide +kernel
theorem dn_M_putInOrder_41 : decode bn_M_putInOrder 41 = .ok (.iconst 1, 1) := by decide +kernel
theorem dn_M_putInOrder_42 : decode bn_M_putInOrder 42 = .ok (.istore_n 1, 1) := by decide +kernel
theorem dn_M_putInOrder_43 : decode bn_M_putInOrder 43 = .ok (.iload_n 1, 1) := by decide +kernel
theorem dn_M_putInOrder_44 : decode bn_M_putInOrder 44 = .ok (.ifCond .eq 70, 3) := by decide +kernel
theorem dn_M_putInOrder_47 : decode bn_M_putInOrder 47 = .ok (.iconst 0, 1) := by decide +kernel
theorem dn_M_putInOrder_48 : decode bn_M_putInOrder 48 = .ok (.istore_n 1, 1) := by decide +kernel
theorem dn_M_putInOrder_49 : decode bn_M_putInOrder 49 = .ok (.iconst 0, 1) := by decide +kernel
theorem dn_M_putInOrder_50 : decode bn_M_putInOrder 50 = .ok (.istore_n 2, 1) := by decide +kernel
theorem dn_M_putInOrder_51 : decode bn_M_putInOrder 51 = .ok (.iload_n 2, 1) := by decide +kernel
theorem dn_M_putInOrder_52 : decode bn_M_putInOrder 52 = .ok (.aload_n 0, 1) := by decide +kernel
theorem dn_M_putInOrder_53 : decode bn_M_putInOrder 53 = .ok (.getfield 497, 3) := by decide +kernel
theorem dn_M_putInOrder_56 : decode bn_M_putInOrder 56 = .ok (.if_icmp .ge 55, 3) := by decide +kernel
theorem dn_M_putInOrder_59 : decode bn_M_putInOrder 59 = .ok (.aload_n 0, 1) := by decide +kernel
theorem dn_M_putInOrder_60 : decode bn_M_putInOrder 60 = .ok (.getfield 164, 3) := by decide +kernel
theorem dn_M_putInOrder_63 : decode bn_M_putInOrder 63 = .ok (.iload_n 2, 1) := by decide +kernel
theorem dn_M_putInOrder_64 : decode bn_M_putInOrder 64 = .ok (.baload, 1) := by decide +kernel
theorem dn_M_putInOrder_65 : decode bn_M_putInOrder 65 = .ok (.ifCond .ne 40, 3) := by decide +kernel
theorem dn_M_putInOrder_68 : decode bn_M_putInOrder 68 = .ok (.aload_n 0, 1) := by decide +kernel
theorem dn_M_putInOrder_69 : decode bn_M_putInOrder 69 = .ok (.iload_n 2, 1) := by decide +kernel
theorem dn_M_putInOrder_70 : decode bn_M_putInOrder 70 = .ok (.invokevirtual 512, 3) := by decide +kernel
theorem dn_M_putInOrder_73 : decode bn_M_putInOrder 73 = .ok (.ifCond .eq 32, 3) := by decide +kernel
theorem dn_M_putInOrder_76 : decode bn_M_putInOrder 76 = .ok (.aload_n 0, 1) := by decide +kernel
theorem dn_M_putInOrder_77 : decode bn_M_putInOrder 77 = .ok (.getfield 164, 3) := by decide +kernel
theorem dn_M_putInOrder_80 : decode bn_M_putInOrder 80 = .ok (.iload_n 2, 1) := by decide +kernel
theorem dn_M_putInOrder_81 : decode bn_M_putInOrder 81 = .ok (.iconst 1, 1) := by decide +kernel
theorem dn_M_putInOrder_82 : decode bn_M_putInOrder 82 = .ok (.bastore, 1) := by decide +kernel
theorem dn_M_putInOrder_83 : decode bn_M_putInOrder 83 = .ok (.aload_n 0, 1) := by decide +kernel
theorem dn_M_putInOrder_84 : decode bn_M_putInOrder 84 = .ok (.getfield 161, 3) := by decide +kernel
theorem dn_M_putInOrder_87 : decode bn_M_putInOrder 87 = .ok (.aload_n 0, 1) := by decide +kernel
theorem dn_M_putInOrder_88 : decode bn_M_putInOrder 88 = .ok (.getfield 509, 3) := by decide +kernel
theorem dn_M_putInOrder_91 : decode bn_M_putInOrder 91 = .ok (.iload_n 2, 1) := by decide +kernel
theorem dn_M_putInOrder_92 : decode bn_M_putInOrder 92 = .ok (.iastore, 1) := by decide +kernel
theorem dn_M_putInOrder_93 : decode bn_M_putInOrder 93 = .ok (.aload_n 0, 1) := by decide +kernel
theorem dn_M_putInOrder_94 : decode bn_M_putInOrder 94 = .ok (.dup, 1) := by decide +kernel
theorem dn_M_putInOrder_95 : decode bn_M_putInOrder 95 = .ok (.getfield 509, 3) := by decide +kernel
theorem dn_M_putInOrder_98 : decode bn_M_putInOrder 98 = .ok (.iconst 1, 1) := by decide +kernel
theorem dn_M_putInOrder_99 : decode bn_M_putInOrder 99 = .ok (.iadd, 1) := by decide +kernel
theorem dn_M_putInOrder_100 : decode bn_M_putInOrder 100 = .ok (.putfield 509, 3) := by decide +kernel
theorem dn_M_putInOrder_103 : decode bn_M_putInOrder 103 = .ok (.iconst 1, 1) := by decide +kernel
theorem dn_M_putInOrder_104 : decode bn_M_putInOrder 104 = .ok (.istore_n 1, 1) := by decide +kernel
theorem dn_M_putInOrder_105 : decode bn_M_putInOrder 105 = .ok (.iinc 2 1, 3) := by decide +kernel
theorem dn_M_putInOrder_108 : decode bn_M_putInOrder 108 = .ok (.goto (-57), 3) := by decide +kernel
theorem dn_M_putInOrder_111 : decode bn_M_putInOrder 111 = .ok (.goto (-68), 3) := by decide +kernel
theorem dn_M_putInOrder_114 : decode bn_M_putInOrder 114 = .ok (.iconst 0, 1) := by decide +kernel
theorem dn_M_putInOrder_115 : decode bn_M_putInOrder 115 = .ok (.istore_n 2, 1) := by decide +kernel
theorem dn_M_putInOrder_116 : decode bn_M_putInOrder 116 = .ok (.iload_n 2, 1) := by decide +kernel
theorem dn_M_putInOrder_117 : decode bn_M_putInOrder 117 = .ok (.aload_n 0, 1) := by decide +kernel
theorem dn_M_putInOrder_118 : decode bn_M_putInOrder 118 = .ok (.getfield 497, 3) := by decide +kernel
theorem dn_M_putInOrder_121 : decode bn_M_putInOrder 121 = .ok (.if_icmp .ge 55, 3) := by decide +kernel
theorem dn_M_putInOrder_124 : decode bn_M_putInOrder 124 = .ok (.aload_n 0, 1) := by decide +kernel
theorem dn_M_putInOrder_125 : decode bn_M_putInOrder 125 = .ok (.getfield 257, 3) := by decide +kernel
theorem dn_M_putInOrder_128 : decode bn_M_putInOrder 128 = .ok (.ifCond .ne 48, 3) := by decide +kernel
theorem dn_M_putInOrder_131 : decode bn_M_putInOrder 131 = .ok (.aload_n 0, 1) := by decide +kernel
theorem dn_M_putInOrder_132 : decode bn_M_putInOrder 132 = .ok (.getfield 164, 3) := by decide +kernel
theorem dn_M_putInOrder_135 : decode bn_M_putInOrder 135 = .ok (.iload_n 2, 1) := by decide +kernel
theorem dn_M_putInOrder_136 : decode bn_M_putInOrder 136 = .ok (.baload, 1) := by decide +kernel
theorem dn_M_putInOrder_137 : decode bn_M_putInOrder 137 = .ok (.ifCond .ne 33, 3) := by decide +kernel
theorem dn_M_putInOrder_140 : decode bn_M_putInOrder 140 = .ok (.aload_n 0, 1) := by decide +kernel
theorem dn_M_putInOrder_141 : decode bn_M_putInOrder 141 = .ok (.iload_n 2, 1) := by decide +kernel
theorem dn_M_putInOrder_142 : decode bn_M_putInOrder 142 = .ok (.invokevirtual 515, 3) := by decide +kernel
theorem dn_M_putInOrder_145 : decode bn_M_putInOrder 145 = .ok (.ifCond .eq 25, 3) := by decide +kernel
theorem dn_M_putInOrder_148 : decode bn_M_putInOrder 148 = .ok (.aload_n 0, 1) := by decide +kernel
theorem dn_M_putInOrder_149 : decode bn_M_putInOrder 149 = .ok (.bipush 45, 2) := by decide +kernel
theorem dn_M_putInOrder_151 : decode bn_M_putInOrder 151 = .ok (.aload_n 0, 1) := by decide +kernel
theorem dn_M_putInOrder_152 : decode bn_M_putInOrder 152 = .ok (.getfield 19, 3) := by decide +kernel
theorem dn_M_putInOrder_155 : decode bn_M_putInOrder 155 = .ok (.aload_n 0, 1) := by decide +kernel
theorem dn_M_putInOrder_156 : decode bn_M_putInOrder 156 = .ok (.getfield 40, 3) := by decide +kernel
theorem dn_M_putInOrder_159 : decode bn_M_putInOrder 159 = .ok (.aload_n 0, 1) := by decide +kernel
theorem dn_M_putInOrder_160 : decode bn_M_putInOrder 160 = .ok (.getfield 143, 3) := by decide +kernel
theorem dn_M_putInOrder_163 : decode bn_M_putInOrder 163 = .ok (.iload_n 2, 1) := by decide +kernel
theorem dn_M_putInOrder_164 : decode bn_M_putInOrder 164 = .ok (.iaload, 1) := by decide +kernel
theorem dn_M_putInOrder_165 : decode bn_M_putInOrder 165 = .ok (.iaload, 1) := by decide +kernel
theorem dn_M_putInOrder_166 : decode bn_M_putInOrder 166 = .ok (.iaload, 1) := by decide +kernel
theorem dn_M_putInOrder_167 : decode bn_M_putInOrder 167 = .ok (.invokevirtual 266, 3) := by decide +kernel
theorem dn_M_putInOrder_170 : decode bn_M_putInOrder 170 = .ok (.iinc 2 1, 3) := by decide +kernel
theorem dn_M_putInOrder_173 : decode bn_M_putInOrder 173 = .ok (.goto (-57), 3) := by decide +kernel
theorem dn_M_putInOrder_176 : decode bn_M_putInOrder 176 = .ok (.return_, 1) := by decide +kernel
theorem dn_M_range_0 : decode bn_M_range 0 = .ok (.aload_n 0, 1) := by decide +kernel
theorem dn_M_range_1 : decode bn_M_range 1 = .ok (.bipush 91, 2) := by decide +kernel
theorem dn_M_range_3 : decode bn_M_range 3 = .ok (.invokevirtual 273, 3) := by decide +kernel
theorem dn_M_range_6 : decode bn_M_range 6 = .ok (.ifCond .ne 5, 3) := by decide +kernel
theorem dn_M_range_9 : decode bn_M_range 9 = .ok (.iconst 1, 1) := by decide +kernel
theorem dn_M_range_10 : decode bn_M_range 10 = .ok (.ireturn, 1) := by decide +kernel
theorem dn_M_range_11 : decode bn_M_range 11 = .ok (.aload_n 0, 1) := by decide +kernel
theorem dn_M_range_12 : decode bn_M_range 12 = .ok (.aload_n 0, 1) := by decide +kernel
theorem dn_M_range_13 : decode bn_M_range 13 = .ok (.getfield 263, 3) := by decide +kernel
theorem dn_M_range_16 : decode bn_M_range 16 = .ok (.iconst 1, 1) := by decide +kernel
theorem dn_M_range_17 : decode bn_M_range 17 = .ok (.iadd, 1) := by decide +kernel
theorem dn_M_range_18 : decode bn_M_range 18 = .ok (.invokevirtual 386, 3) := by decide +kernel
theorem dn_M_range_21 : decode bn_M_range 21 = .ok (.lstore_n 1, 1) := by decide +kernel
theorem dn_M_range_22 : decode bn_M_range 22 = .ok (.aload_n 0, 1) := by decide +kernel
theorem dn_M_range_23 : decode bn_M_range 23 = .ok (.aload_n 0, 1) := by decide +kernel
theorem dn_M_range_24 : decode bn_M_range 24 = .ok (.getfield 263, 3) := by decide +kernel
theorem dn_M_range_27 : decode bn_M_range 27 = .ok (.iconst 3, 1) := by decide +kernel
theorem dn_M_range_28 : decode bn_M_range 28 = .ok (.iadd, 1) := by decide +kernel
theorem dn_M_range_29 : decode bn_M_range 29 = .ok (.invokevirtual 386, 3) := by decide +kernel
theorem dn_M_range_32 : decode bn_M_range 32 = .ok (.lstore_n 3, 1) := by decide +kernel
theorem dn_M_range_33 : decode bn_M_range 33 = .ok (.lload_n 1, 1) := by decide +kernel
theorem dn_M_range_34 : decode bn_M_range 34 = .ok (.ldc2_w 406, 3) := by decide +kernel
theorem dn_M_range_37 : decode bn_M_range 37 = .ok (.lcmp, 1) := by decide +kernel
theorem dn_M_range_38 : decode bn_M_range 38 = .ok (.ifCond .gt 9, 3) := by decide +kernel
theorem dn_M_range_41 : decode bn_M_range 41 = .ok (.lload_n 3, 1) := by decide +kernel
theorem dn_M_range_42 : decode bn_M_range 42 = .ok (.lconst 0, 1) := by decide +kernel
theorem dn_M_range_43 : decode bn_M_range 43 = .ok (.lcmp, 1) := by decide +kernel
theorem dn_M_range_44 : decode bn_M_range 44 = .ok (.ifCond .eq 18, 3) := by decide +kernel
theorem dn_M_range_47 : decode bn_M_range 47 = .ok (.aload_n 0, 1) := by decide +kernel
theorem dn_M_range_48 : decode bn_M_range 48 = .ok (.bipush 30, 2) := by decide +kernel
theorem dn_M_range_50 : decode bn_M_range 50 = .ok (.aload_n 0, 1) := by decide +kernel
theorem dn_M_range_51 : decode bn_M_range 51 = .ok (.getfield 19, 3) := by decide +kernel
theorem dn_M_range_54 : decode bn_M_range 54 = .ok (.aload_n 0, 1) := by decide +kernel
theorem dn_M_range_55 : decode bn_M_range 55 = .ok (.getfield 263, 3) := by decide +kernel
theorem dn_M_range_58 : decode bn_M_range 58 = .ok (.iaload, 1) := by decide +kernel
theorem dn_M_range_59 : decode bn_M_range 59 = .ok (.invokevirtual 266, 3) := by decide +kernel
theorem dn_M_range_62 : decode bn_M_range 62 = .ok (.aload_n 0, 1) := by decide +kernel
theorem dn_M_range_63 : decode bn_M_range 63 = .ok (.aload_n 0, 1) := by decide +kernel
theorem dn_M_range_64 : decode bn_M_range 64 = .ok (.getfield 263, 3) := by decide +kernel
theorem dn_M_range_67 : decode bn_M_range 67 = .ok (.iconst 5, 1) := by decide +kernel
theorem dn_M_range_68 : decode bn_M_range 68 = .ok (.iadd, 1) := by decide +kernel
theorem dn_M_range_69 : decode bn_M_range 69 = .ok (.putfield 263, 3) := by decide +kernel
theorem dn_M_range_72 : decode bn_M_range 72 = .ok (.lload_n 1, 1) := by decide +kernel
theorem dn_M_range_73 : decode bn_M_range 73 = .ok (.l2i, 1) := by decide +kernel
theorem dn_M_range_74 : decode bn_M_range 74 = .ok (.iconst 1, 1) := by decide +kernel
theorem dn_M_range_75 : decode bn_M_range 75 = .ok (.iadd, 1) := by decide +kernel
theorem dn_M_range_76 : decode bn_M_range 76 = .ok (.ireturn, 1) := by decide +kernel
theorem dn_M_rangeGrammar_0 : decode bn_M_rangeGrammar 0 = .ok (.aload_n 0, 1) := by decide +kernel
theorem dn_M_rangeGrammar_1 : decode bn_M_rangeGrammar 1 = .ok (.bipush 91, 2) := by decide +kernel
theorem dn_M_rangeGrammar_3 : decode bn_M_rangeGrammar 3 = .ok (.invokevirtual 273, 3) := by decide +kernel
theorem dn_M_rangeGrammar_6 : decode bn_M_rangeGrammar 6 = .ok (.ifCond .eq 35, 3) := by decide +kernel
theorem dn_M_rangeGrammar_9 : decode bn_M_rangeGrammar 9 = .ok (.aload_n 0, 1) := by decide +kernel
theorem dn_M_rangeGrammar_10 : decode bn_M_rangeGrammar 10 = .ok (.bipush 91, 2) := by decide +kernel
theorem dn_M_rangeGrammar_12 : decode bn_M_rangeGrammar 12 = .ok (.invokevirtual 293, 3) := by decide +kernel
theorem dn_M_rangeGrammar_15 : decode bn_M_rangeGrammar 15 = .ok (.aload_n 0, 1) := by decide +kernel
theorem dn_M_rangeGrammar_16 : decode bn_M_rangeGrammar 16 = .ok (.sipush 401, 3) := by decide +kernel
theorem dn_M_rangeGrammar_19 : decode bn_M_rangeGrammar 19 = .ok (.invokevirtual 279, 3) := by decide +kernel
theorem dn_M_rangeGrammar_22 : decode bn_M_rangeGrammar 22 = .ok (.aload_n 0, 1) := by decide +kernel
theorem dn_M_rangeGrammar_23 : decode bn_M_rangeGrammar 23 = .ok (.bipush 58, 2) := by decide +kernel
theorem dn_M_rangeGrammar_25 : decode bn_M_rangeGrammar 25 = .ok (.invokevirtual 279, 3) := by decide +kernel
theorem dn_M_rangeGrammar_28 : decode bn_M_rangeGrammar 28 = .ok (.aload_n 0, 1) := by decide +kernel
theorem dn_M_rangeGrammar_29 : decode bn_M_rangeGrammar 29 = .ok (.sipush 401, 3) := by decide +kernel
theorem dn_M_rangeGrammar_32 : decode bn_M_rangeGrammar 32 = .ok (.invokevirtual 279, 3) := by decide +kernel
theorem dn_M_rangeGrammar_35 : decode bn_M_rangeGrammar 35 = .ok (.aload_n 0, 1) := by decide +kernel
theorem dn_M_rangeGrammar_36 : decode bn_M_rangeGrammar 36 = .ok (.bipush 93, 2) := by decide +kernel
theorem dn_M_rangeGrammar_38 : decode bn_M_rangeGrammar 38 = .ok (.invokevirtual 305, 3) := by decide +kernel
theorem dn_M_rangeGrammar_41 : decode bn_M_rangeGrammar 41 = .ok (.return_, 1) := by decide +kernel
theorem dn_M_rank_0 : decode bn_M_rank 0 = .ok (.iload_n 0, 1) := by decide +kernel
theorem dn_M_rank_1 : decode bn_M_rank 1 = .ok (.lookupswitch 164 #[(38, 147), (42, 161), (43, 158), (45, 158), (60, 152), (62, 152), (94, 145), (124, 143), (256, 141), (257, 139), (258, 149), (259, 149), (260, 152), (261, 152), (262, 155), (263, 155)], 139) := by decide +kernel
theorem dn_M_rank_140 : decode bn_M_rank 140 = .ok (.iconst 1, 1) := by decide +kernel
theorem dn_M_rank_141 : decode bn_M_rank 141 = .ok (.ireturn, 1) := by decide +kernel
theorem dn_M_rank_142 : decode bn_M_rank 142 = .ok (.iconst 2, 1) := by decide +kernel
theorem dn_M_rank_143 : decode bn_M_rank 143 = .ok (.ireturn, 1) := by decide +kernel
theorem dn_M_rank_144 : decode bn_M_rank 144 = .ok (.iconst 3, 1) := by decide +kernel
theorem dn_M_rank_145 : decode bn_M_rank 145 = .ok (.ireturn, 1) := by decide +kernel
theorem dn_M_rank_146 : decode bn_M_rank 146 = .ok (.iconst 4, 1) := by decide +kernel
theorem dn_M_rank_147 : decode bn_M_rank 147 = .ok (.ireturn, 1) := by decide +kernel
theorem dn_M_rank_148 : decode bn_M_rank 148 = .ok (.iconst 5, 1) := by decide +kernel
theorem dn_M_rank_149 : decode bn_M_rank 149 = .ok (.ireturn, 1) := by decide +kernel
theorem dn_M_rank_150 : decode bn_M_rank 150 = .ok (.bipush 6, 2) := by decide +kernel
theorem dn_M_rank_152 : decode bn_M_rank 152 = .ok (.ireturn, 1) := by decide +kernel
theorem dn_M_rank_153 : decode bn_M_rank 153 = .ok (.bipush 7, 2) := by decide +kernel
theorem dn_M_rank_155 : decode bn_M_rank 155 = .ok (.ireturn, 1) := by decide +kernel
theorem dn_M_rank_156 : decode bn_M_rank 156 = .ok (.bipush 8, 2) := by decide +kernel
theorem dn_M_rank_158 : decode bn_M_rank 158 = .ok (.ireturn, 1) := by decide +kernel
theorem dn_M_rank_159 : decode bn_M_rank 159 = .ok (.bipush 9, 2) := by decide +kernel
theorem dn_M_rank_161 : decode bn_M_rank 161 = .ok (.ireturn, 1) := by decide +kernel
theorem dn_M_rank_162 : decode bn_M_rank 162 = .ok (.bipush 10, 2) := by decide +kernel
theorem dn_M_rank_164 : decode bn_M_rank 164 = .ok (.ireturn, 1) := by decide +kernel
theorem dn_M_rank_165 : decode bn_M_rank 165 = .ok (.iconst 0, 1) := by decide +kernel
theorem dn_M_rank_166 : decode bn_M_rank 166 = .ok (.ireturn, 1) := by decide +kernel
theorem dn_M_readSource_0 : decode bn_M_readSource 0 = .ok (.aload_n 0, 1) := by decide +kernel
theorem dn_M_readSource_1 : decode bn_M_readSource 1 = .ok (.iconst 0, 1) := by decide +kernel
theorem dn_M_readSource_2 : decode bn_M_readSource 2 = .ok (.putfield 257, 3) := by decide +kernel
theorem dn_M_readSource_5 : decode bn_M_readSource 5 = .ok (.aload_n 0, 1) := by decide +kernel
theorem dn_M_readSource_6 : decode bn_M_readSource 6 = .ok (.iconst (-1), 1) := by decide +kernel
theorem dn_M_readSource_7 : decode bn_M_readSource 7 = .ok (.putfield 260, 3) := by decide +kernel
theorem dn_M_readSource_10 : decode bn_M_readSource 10 = .ok (.aload_n 0, 1) := by decide +kernel
theorem dn_M_readSource_11 : decode bn_M_readSource 11 = .ok (.invokevirtual 518, 3) := by decide +kernel
theorem dn_M_readSource_14 : decode bn_M_readSource 14 = .ok (.aload_n 0, 1) := by decide +kernel
theorem dn_M_readSource_15 : decode bn_M_readSource 15 = .ok (.invokevirtual 521, 3) := by decide +kernel
theorem dn_M_readSource_18 : decode bn_M_readSource 18 = .ok (.aload_n 0, 1) := by decide +kernel
theorem dn_M_readSource_19 : decode bn_M_readSource 19 = .ok (.getfield 257, 3) := by decide +kernel
theorem dn_M_readSource_22 : decode bn_M_readSource 22 = .ok (.ifCond .ne 7, 3) := by decide +kernel
theorem dn_M_readSource_25 : decode bn_M_readSource 25 = .ok (.aload_n 0, 1) := by decide +kernel
theorem dn_M_readSource_26 : decode bn_M_readSource 26 = .ok (.invokevirtual 524, 3) := by decide +kernel
theorem dn_M_readSource_29 : decode bn_M_readSource 29 = .ok (.aload_n 0, 1) := by decide +kernel
theorem dn_M_readSource_30 : decode bn_M_readSource 30 = .ok (.getfield 257, 3) := by decide +kernel
theorem dn_M_readSource_33 : decode bn_M_readSource 33 = .ok (.ifCond .ne 7, 3) := by decide +kernel
theorem dn_M_readSource_36 : decode bn_M_readSource 36 = .ok (.aload_n 0, 1) := by decide +kernel
theorem dn_M_readSource_37 : decode bn_M_readSource 37 = .ok (.invokevirtual 527, 3) := by decide +kernel
theorem dn_M_readSource_40 : decode bn_M_readSource 40 = .ok (.aload_n 0, 1) := by decide +kernel
theorem dn_M_readSource_41 : decode bn_M_readSource 41 = .ok (.getfield 257, 3) := by decide +kernel
theorem dn_M_readSource_44 : decode bn_M_readSource 44 = .ok (.ifCond .ne 11, 3) := by decide +kernel
theorem dn_M_readSource_47 : decode bn_M_readSource 47 = .ok (.aload_n 0, 1) := by decide +kernel
theorem dn_M_readSource_48 : decode bn_M_readSource 48 = .ok (.invokevirtual 530, 3) := by decide +kernel
theorem dn_M_readSource_51 : decode bn_M_readSource 51 = .ok (.aload_n 0, 1) := by decide +kernel
theorem dn_M_readSource_52 : decode bn_M_readSource 52 = .ok (.invokevirtual 533, 3) := by decide +kernel
theorem dn_M_readSource_55 : decode bn_M_readSource 55 = .ok (.return_, 1) := by decide +kernel
theorem dn_M_read_I_0 : decode bn_M_read_I 0 = .ok (.aload_n 0, 1) := by decide +kernel
theorem dn_M_read_I_1 : decode bn_M_read_I 1 = .ok (.iconst 0, 1) := by decide +kernel
theorem dn_M_read_I_2 : decode bn_M_read_I 2 = .ok (.putfield 192, 3) := by decide +kernel
theorem dn_M_read_I_5 : decode bn_M_read_I 5 = .ok (.iconst 0, 1) := by decide +kernel
theorem dn_M_read_I_6 : decode bn_M_read_I 6 = .ok (.istore_n 1, 1) := by decide +kernel
theorem dn_M_read_I_7 : decode bn_M_read_I 7 = .ok (.iload_n 1, 1) := by decide +kernel
theorem dn_M_read_I_8 : decode bn_M_read_I 8 = .ok (.aload_n 0, 1) := by decide +kernel
theorem dn_M_read_I_9 : decode bn_M_read_I 9 = .ok (.getfield 536, 3) := by decide +kernel
theorem dn_M_read_I_12 : decode bn_M_read_I 12 = .ok (.if_icmp .ge 21, 3) := by decide +kernel
theorem dn_M_read_I_15 : decode bn_M_read_I 15 = .ok (.aload_n 0, 1) := by decide +kernel
theorem dn_M_read_I_16 : decode bn_M_read_I 16 = .ok (.getfield 189, 3) := by decide +kernel
theorem dn_M_read_I_19 : decode bn_M_read_I 19 = .ok (.iload_n 1, 1) := by decide +kernel
theorem dn_M_read_I_20 : decode bn_M_read_I 20 = .ok (.aload_n 0, 1) := by decide +kernel
theorem dn_M_read_I_21 : decode bn_M_read_I 21 = .ok (.getfield 8, 3) := by decide +kernel
theorem dn_M_read_I_24 : decode bn_M_read_I 24 = .ok (.iload_n 1, 1) := by decide +kernel
theorem dn_M_read_I_25 : decode bn_M_read_I 25 = .ok (.baload, 1) := by decide +kernel
theorem dn_M_read_I_26 : decode bn_M_read_I 26 = .ok (.bastore, 1) := by decide +kernel
theorem dn_M_read_I_27 : decode bn_M_read_I 27 = .ok (.iinc 1 1, 3) := by decide +kernel
theorem dn_M_read_I_30 : decode bn_M_read_I 30 = .ok (.goto (-23), 3) := by decide +kernel
theorem dn_M_read_I_33 : decode bn_M_read_I 33 = .ok (.aload_n 0, 1) := by decide +kernel
theorem dn_M_read_I_34 : decode bn_M_read_I 34 = .ok (.aload_n 0, 1) := by decide +kernel
theorem dn_M_read_I_35 : decode bn_M_read_I 35 = .ok (.getfield 536, 3) := by decide +kernel
theorem dn_M_read_I_38 : decode bn_M_read_I 38 = .ok (.putfield 196, 3) := by decide +kernel
theorem dn_M_read_I_41 : decode bn_M_read_I 41 = .ok (.aload_n 0, 1) := by decide +kernel
theorem dn_M_read_I_42 : decode bn_M_read_I 42 = .ok (.iconst 0, 1) := by decide +kernel
theorem dn_M_read_I_43 : decode bn_M_read_I 43 = .ok (.putfield 536, 3) := by decide +kernel
theorem dn_M_read_I_46 : decode bn_M_read_I 46 = .ok (.aload_n 0, 1) := by decide +kernel
theorem dn_M_read_I_47 : decode bn_M_read_I 47 = .ok (.invokevirtual 539, 3) := by decide +kernel
theorem dn_M_read_I_50 : decode bn_M_read_I 50 = .ok (.aload_n 0, 1) := by decide +kernel
theorem dn_M_read_I_51 : decode bn_M_read_I 51 = .ok (.aload_n 0, 1) := by decide +kernel
theorem dn_M_read_I_52 : decode bn_M_read_I 52 = .ok (.getfield 257, 3) := by decide +kernel
theorem dn_M_read_I_55 : decode bn_M_read_I 55 = .ok (.putfield 542, 3) := by decide +kernel
theorem dn_M_read_I_58 : decode bn_M_read_I 58 = .ok (.aload_n 0, 1) := by decide +kernel
theorem dn_M_read_I_59 : decode bn_M_read_I 59 = .ok (.getfield 260, 3) := by decide +kernel
theorem dn_M_read_I_62 : decode bn_M_read_I 62 = .ok (.istore_n 1, 1) := by decide +kernel
theorem dn_M_read_I_63 : decode bn_M_read_I 63 = .ok (.aload_n 0, 1) := by decide +kernel
theorem dn_M_read_I_64 : decode bn_M_read_I 64 = .ok (.getfield 257, 3) := by decide +kernel
theorem dn_M_read_I_67 : decode bn_M_read_I 67 = .ok (.ifCond .eq 52, 3) := by decide +kernel
theorem dn_M_read_I_70 : decode bn_M_read_I 70 = .ok (.aload_n 0, 1) := by decide +kernel
theorem dn_M_read_I_71 : decode bn_M_read_I 71 = .ok (.getfield 545, 3) := by decide +kernel
theorem dn_M_read_I_74 : decode bn_M_read_I 74 = .ok (.ifCond .eq 43, 3) := by decide +kernel
theorem dn_M_read_I_77 : decode bn_M_read_I 77 = .ok (.iconst 0, 1) := by decide +kernel
theorem dn_M_read_I_78 : decode bn_M_read_I 78 = .ok (.istore_n 2, 1) := by decide +kernel
theorem dn_M_read_I_79 : decode bn_M_read_I 79 = .ok (.iload_n 2, 1) := by decide +kernel
theorem dn_M_read_I_80 : decode bn_M_read_I 80 = .ok (.aload_n 0, 1) := by decide +kernel
theorem dn_M_read_I_81 : decode bn_M_read_I 81 = .ok (.getfield 548, 3) := by decide +kernel
theorem dn_M_read_I_84 : decode bn_M_read_I 84 = .ok (.if_icmp .ge 21, 3) := by decide +kernel
theorem dn_M_read_I_87 : decode bn_M_read_I 87 = .ok (.aload_n 0, 1) := by decide +kernel
theorem dn_M_read_I_88 : decode bn_M_read_I 88 = .ok (.getfield 189, 3) := by decide +kernel
theorem dn_M_read_I_91 : decode bn_M_read_I 91 = .ok (.iload_n 2, 1) := by decide +kernel
theorem dn_M_read_I_92 : decode bn_M_read_I 92 = .ok (.aload_n 0, 1) := by decide +kernel
theorem dn_M_read_I_93 : decode bn_M_read_I 93 = .ok (.getfield 122, 3) := by decide +kernel
theorem dn_M_read_I_96 : decode bn_M_read_I 96 = .ok (.iload_n 2, 1) := by decide +kernel
theorem dn_M_read_I_97 : decode bn_M_read_I 97 = .ok (.baload, 1) := by decide +kernel
theorem dn_M_read_I_98 : decode bn_M_read_I 98 = .ok (.bastore, 1) := by decide +kernel
theorem dn_M_read_I_99 : decode bn_M_read_I 99 = .ok (.iinc 2 1, 3) := by decide +kernel
theorem dn_M_read_I_102 : decode bn_M_read_I 102 = .ok (.goto (-23), 3) := by decide +kernel
theorem dn_M_read_I_105 : decode bn_M_read_I 105 = .ok (.aload_n 0, 1) := by decide +kernel
theorem dn_M_read_I_106 : decode bn_M_read_I 106 = .ok (.aload_n 0, 1) := by decide +kernel
theorem dn_M_read_I_107 : decode bn_M_read_I 107 = .ok (.getfield 548, 3) := by decide +kernel
theorem dn_M_read_I_110 : decode bn_M_read_I 110 = .ok (.putfield 196, 3) := by decide +kernel
theorem dn_M_read_I_113 : decode bn_M_read_I 113 = .ok (.aload_n 0, 1) := by decide +kernel
theorem dn_M_read_I_114 : decode bn_M_read_I 114 = .ok (.invokevirtual 539, 3) := by decide +kernel
theorem dn_M_read_I_117 : decode bn_M_read_I 117 = .ok (.iload_n 1, 1) := by decide +kernel
theorem dn_M_read_I_118 : decode bn_M_read_I 118 = .ok (.ireturn, 1) := by decide +kernel
theorem dn_M_read_I_119 : decode bn_M_read_I 119 = .ok (.iconst 0, 1) := by decide +kernel
theorem dn_M_read_I_120 : decode bn_M_read_I 120 = .ok (.istore_n 2, 1) := by decide +kernel
theorem dn_M_read_I_121 : decode bn_M_read_I 121 = .ok (.iload_n 2, 1) := by decide +kernel
theorem dn_M_read_I_122 : decode bn_M_read_I 122 = .ok (.aload_n 0, 1) := by decide +kernel
theorem dn_M_read_I_123 : decode bn_M_read_I 123 = .ok (.getfield 196, 3) := by decide +kernel
theorem dn_M_read_I_126 : decode bn_M_read_I 126 = .ok (.if_icmp .ge 21, 3) := by decide +kernel
theorem dn_M_read_I_129 : decode bn_M_read_I 129 = .ok (.aload_n 0, 1) := by decide +kernel
theorem dn_M_read_I_130 : decode bn_M_read_I 130 = .ok (.getfield 122, 3) := by decide +kernel
theorem dn_M_read_I_133 : decode bn_M_read_I 133 = .ok (.iload_n 2, 1) := by decide +kernel
theorem dn_M_read_I_134 : decode bn_M_read_I 134 = .ok (.aload_n 0, 1) := by decide +kernel
theorem dn_M_read_I_135 : decode bn_M_read_I 135 = .ok (.getfield 189, 3) := by decide +kernel
theorem dn_M_read_I_138 : decode bn_M_read_I 138 = .ok (.iload_n 2, 1) := by decide +kernel
theorem dn_M_read_I_139 : decode bn_M_read_I 139 = .ok (.baload, 1) := by decide +kernel
theorem dn_M_read_I_140 : decode bn_M_read_I 140 = .ok (.bastore, 1) := by decide +kernel
theorem dn_M_read_I_141 : decode bn_M_read_I 141 = .ok (.iinc 2 1, 3) := by decide +kernel
theorem dn_M_read_I_144 : decode bn_M_read_I 144 = .ok (.goto (-23), 3) := by decide +kernel
theorem dn_M_read_I_147 : decode bn_M_read_I 147 = .ok (.aload_n 0, 1) := by decide +kernel
theorem dn_M_read_I_148 : decode bn_M_read_I 148 = .ok (.aload_n 0, 1) := by decide +kernel
theorem dn_M_read_I_149 : decode bn_M_read_I 149 = .ok (.getfield 196, 3) := by decide +kernel
theorem dn_M_read_I_152 : decode bn_M_read_I 152 = .ok (.putfield 548, 3) := by decide +kernel
theorem dn_M_read_I_155 : decode bn_M_read_I 155 = .ok (.aload_n 0, 1) := by decide +kernel
theorem dn_M_read_I_156 : decode bn_M_read_I 156 = .ok (.iconst 1, 1) := by decide +kernel
theorem dn_M_read_I_157 : decode bn_M_read_I 157 = .ok (.putfield 545, 3) := by decide +kernel
theorem dn_M_read_I_160 : decode bn_M_read_I 160 = .ok (.aload_n 0, 1) := by decide +kernel
theorem dn_M_read_I_161 : decode bn_M_read_I 161 = .ok (.invokevirtual 551, 3) := by decide +kernel
theorem dn_M_read_I_164 : decode bn_M_read_I 164 = .ok (.iconst 0, 1) := by decide +kernel
theorem dn_M_read_I_165 : decode bn_M_read_I 165 = .ok (.istore_n 2, 1) := by decide +kernel
theorem dn_M_read_I_166 : decode bn_M_read_I 166 = .ok (.iload_n 2, 1) := by decide +kernel
theorem dn_M_read_I_167 : decode bn_M_read_I 167 = .ok (.aload_n 0, 1) := by decide +kernel
theorem dn_M_read_I_168 : decode bn_M_read_I 168 = .ok (.getfield 497, 3) := by decide +kernel
theorem dn_M_read_I_171 : decode bn_M_read_I 171 = .ok (.if_icmp .ge 16, 3) := by decide +kernel
theorem dn_M_read_I_174 : decode bn_M_read_I 174 = .ok (.aload_n 0, 1) := by decide +kernel
theorem dn_M_read_I_175 : decode bn_M_read_I 175 = .ok (.getfield 183, 3) := by decide +kernel
theorem dn_M_read_I_178 : decode bn_M_read_I 178 = .ok (.iload_n 2, 1) := by decide +kernel
theorem dn_M_read_I_179 : decode bn_M_read_I 179 = .ok (.lconst 0, 1) := by decide +kernel
theorem dn_M_read_I_180 : decode bn_M_read_I 180 = .ok (.lastore, 1) := by decide +kernel
theorem dn_M_read_I_181 : decode bn_M_read_I 181 = .ok (.iinc 2 1, 3) := by decide +kernel
theorem dn_M_read_I_184 : decode bn_M_read_I 184 = .ok (.goto (-18), 3) := by decide +kernel
theorem dn_M_read_I_187 : decode bn_M_read_I 187 = .ok (.aload_n 0, 1) := by decide +kernel
theorem dn_M_read_I_188 : decode bn_M_read_I 188 = .ok (.invokevirtual 554, 3) := by decide +kernel
theorem dn_M_read_I_191 : decode bn_M_read_I 191 = .ok (.iconst (-1), 1) := by decide +kernel
theorem dn_M_read_I_192 : decode bn_M_read_I 192 = .ok (.ireturn, 1) := by decide +kernel
theorem dn_M_read_IIIIJ_0 : decode bn_M_read_IIIIJ 0 = .ok (.lconst 0, 1) := by decide +kernel
theorem dn_M_read_IIIIJ_1 : decode bn_M_read_IIIIJ 1 = .ok (.lstore 5, 2) := by decide +kernel
theorem dn_M_read_IIIIJ_3 : decode bn_M_read_IIIIJ 3 = .ok (.lconst 0, 1) := by decide +kernel
theorem dn_M_read_IIIIJ_4 : decode bn_M_read_IIIIJ 4 = .ok (.lstore 7, 2) := by decide +kernel
theorem dn_M_read_IIIIJ_6 : decode bn_M_read_IIIIJ 6 = .ok (.iconst 0, 1) := by decide +kernel
theorem dn_M_read_IIIIJ_7 : decode bn_M_read_IIIIJ 7 = .ok (.istore 9, 2) := by decide +kernel
theorem dn_M_read_IIIIJ_9 : decode bn_M_read_IIIIJ 9 = .ok (.iload_n 1, 1) := by decide +kernel
theorem dn_M_read_IIIIJ_10 : decode bn_M_read_IIIIJ 10 = .ok (.istore 10, 2) := by decide +kernel
theorem dn_M_read_IIIIJ_12 : decode bn_M_read_IIIIJ 12 = .ok (.iload 10, 2) := by decide +kernel
theorem dn_M_read_IIIIJ_14 : decode bn_M_read_IIIIJ 14 = .ok (.iload_n 2, 1) := by decide +kernel
theorem dn_M_read_IIIIJ_15 : decode bn_M_read_IIIIJ 15 = .ok (.if_icmp .ge 77, 3) := by decide +kernel
theorem dn_M_read_IIIIJ_18 : decode bn_M_read_IIIIJ 18 = .ok (.lload 7, 2) := by decide +kernel
theorem dn_M_read_IIIIJ_20 : decode bn_M_read_IIIIJ 20 = .ok (.iload_n 3, 1) := by decide +kernel
theorem dn_M_read_IIIIJ_21 : decode bn_M_read_IIIIJ 21 = .ok (.i2l, 1) := by decide +kernel
theorem dn_M_read_IIIIJ_22 : decode bn_M_read_IIIIJ 22 = .ok (.lmul, 1) := by decide +kernel
theorem dn_M_read_IIIIJ_23 : decode bn_M_read_IIIIJ 23 = .ok (.aload_n 0, 1) := by decide +kernel
theorem dn_M_read_IIIIJ_24 : decode bn_M_read_IIIIJ 24 = .ok (.iload 10, 2) := by decide +kernel
theorem dn_M_read_IIIIJ_26 : decode bn_M_read_IIIIJ 26 = .ok (.invokevirtual 206, 3) := by decide +kernel
theorem dn_M_read_IIIIJ_29 : decode bn_M_read_IIIIJ 29 = .ok (.invokestatic 213, 3) := by decide +kernel
theorem dn_M_read_IIIIJ_32 : decode bn_M_read_IIIIJ 32 = .ok (.i2l, 1) := by decide +kernel
theorem dn_M_read_IIIIJ_33 : decode bn_M_read_IIIIJ 33 = .ok (.ladd, 1) := by decide +kernel
theorem dn_M_read_IIIIJ_34 : decode bn_M_read_IIIIJ 34 = .ok (.lstore 7, 2) := by decide +kernel
theorem dn_M_read_IIIIJ_36 : decode bn_M_read_IIIIJ 36 = .ok (.lload 5, 2) := by decide +kernel
theorem dn_M_read_IIIIJ_38 : decode bn_M_read_IIIIJ 38 = .ok (.iload_n 3, 1) := by decide +kernel
theorem dn_M_read_IIIIJ_39 : decode bn_M_read_IIIIJ 39 = .ok (.i2l, 1) := by decide +kernel
theorem dn_M_read_IIIIJ_40 : decode bn_M_read_IIIIJ 40 = .ok (.lmul, 1) := by decide +kernel
theorem dn_M_read_IIIIJ_41 : decode bn_M_read_IIIIJ 41 = .ok (.lload 7, 2) := by decide +kernel
theorem dn_M_read_IIIIJ_43 : decode bn_M_read_IIIIJ 43 = .ok (.bipush 32, 2) := by decide +kernel
theorem dn_M_read_IIIIJ_45 : decode bn_M_read_IIIIJ 45 = .ok (.lshr, 1) := by decide +kernel
theorem dn_M_read_IIIIJ_46 : decode bn_M_read_IIIIJ 46 = .ok (.ladd, 1) := by decide +kernel
theorem dn_M_read_IIIIJ_47 : decode bn_M_read_IIIIJ 47 = .ok (.lstore 5, 2) := by decide +kernel
theorem dn_M_read_IIIIJ_49 : decode bn_M_read_IIIIJ 49 = .ok (.lload 7, 2) := by decide +kernel
theorem dn_M_read_IIIIJ_51 : decode bn_M_read_IIIIJ 51 = .ok (.ldc2_w 216, 3) := by decide +kernel
theorem dn_M_read_IIIIJ_54 : decode bn_M_read_IIIIJ 54 = .ok (.land, 1) := by decide +kernel
theorem dn_M_read_IIIIJ_55 : decode bn_M_read_IIIIJ 55 = .ok (.lstore 7, 2) := by decide +kernel
theorem dn_M_read_IIIIJ_57 : decode bn_M_read_IIIIJ 57 = .ok (.iload 9, 2) := by decide +kernel
theorem dn_M_read_IIIIJ_59 : decode bn_M_read_IIIIJ 59 = .ok (.ifCond .ne 12, 3) := by decide +kernel
theorem dn_M_read_IIIIJ_62 : decode bn_M_read_IIIIJ 62 = .ok (.lload 5, 2) := by decide +kernel
theorem dn_M_read_IIIIJ_64 : decode bn_M_read_IIIIJ 64 = .ok (.ldc2_w 216, 3) := by decide +kernel
theorem dn_M_read_IIIIJ_67 : decode bn_M_read_IIIIJ 67 = .ok (.lcmp, 1) := by decide +kernel
theorem dn_M_read_IIIIJ_68 : decode bn_M_read_IIIIJ 68 = .ok (.ifCond .le 7, 3) := by decide +kernel
theorem dn_M_read_IIIIJ_71 : decode bn_M_read_IIIIJ 71 = .ok (.iconst 1, 1) := by decide +kernel
theorem dn_M_read_IIIIJ_72 : decode bn_M_read_IIIIJ 72 = .ok (.goto 4, 3) := by decide +kernel
theorem dn_M_read_IIIIJ_75 : decode bn_M_read_IIIIJ 75 = .ok (.iconst 0, 1) := by decide +kernel
theorem dn_M_read_IIIIJ_76 : decode bn_M_read_IIIIJ 76 = .ok (.istore 9, 2) := by decide +kernel
theorem dn_M_read_IIIIJ_78 : decode bn_M_read_IIIIJ 78 = .ok (.lload 5, 2) := by decide +kernel
theorem dn_M_read_IIIIJ_80 : decode bn_M_read_IIIIJ 80 = .ok (.ldc2_w 216, 3) := by decide +kernel
theorem dn_M_read_IIIIJ_83 : decode bn_M_read_IIIIJ 83 = .ok (.land, 1) := by decide +kernel
theorem dn_M_read_IIIIJ_84 : decode bn_M_read_IIIIJ 84 = .ok (.lstore 5, 2) := by decide +kernel
theorem dn_M_read_IIIIJ_86 : decode bn_M_read_IIIIJ 86 = .ok (.iinc 10 1, 3) := by decide +kernel
theorem dn_M_read_IIIIJ_89 : decode bn_M_read_IIIIJ 89 = .ok (.goto (-77), 3) := by decide +kernel
theorem dn_M_read_IIIIJ_92 : decode bn_M_read_IIIIJ 92 = .ok (.iload 9, 2) := by decide +kernel
theorem dn_M_read_IIIIJ_94 : decode bn_M_read_IIIIJ 94 = .ok (.ifCond .ne 54, 3) := by decide +kernel
theorem dn_M_read_IIIIJ_97 : decode bn_M_read_IIIIJ 97 = .ok (.iload 4, 2) := by decide +kernel
theorem dn_M_read_IIIIJ_99 : decode bn_M_read_IIIIJ 99 = .ok (.bipush 64, 2) := by decide +kernel
theorem dn_M_read_IIIIJ_101 : decode bn_M_read_IIIIJ 101 = .ok (.if_icmp .ge 43, 3) := by decide +kernel
theorem dn_M_read_IIIIJ_104 : decode bn_M_read_IIIIJ 104 = .ok (.iload 4, 2) := by decide +kernel
theorem dn_M_read_IIIIJ_106 : decode bn_M_read_IIIIJ 106 = .ok (.bipush 32, 2) := by decide +kernel
theorem dn_M_read_IIIIJ_108 : decode bn_M_read_IIIIJ 108 = .ok (.if_icmp .lt 19, 3) := by decide +kernel
theorem dn_M_read_IIIIJ_111 : decode bn_M_read_IIIIJ 111 = .ok (.lload 5, 2) := by decide +kernel
theorem dn_M_read_IIIIJ_113 : decode bn_M_read_IIIIJ 113 = .ok (.iload 4, 2) := by decide +kernel
theorem dn_M_read_IIIIJ_115 : decode bn_M_read_IIIIJ 115 = .ok (.bipush 32, 2) := by decide +kernel
theorem dn_M_read_IIIIJ_117 : decode bn_M_read_IIIIJ 117 = .ok (.isub, 1) := by decide +kernel
theorem dn_M_read_IIIIJ_118 : decode bn_M_read_IIIIJ 118 = .ok (.lshr, 1) := by decide +kernel
theorem dn_M_read_IIIIJ_119 : decode bn_M_read_IIIIJ 119 = .ok (.lconst 0, 1) := by decide +kernel
theorem dn_M_read_IIIIJ_120 : decode bn_M_read_IIIIJ 120 = .ok (.lcmp, 1) := by decide +kernel
theorem dn_M_read_IIIIJ_121 : decode bn_M_read_IIIIJ 121 = .ok (.ifCond .ne 27, 3) := by decide +kernel
theorem dn_M_read_IIIIJ_124 : decode bn_M_read_IIIIJ 124 = .ok (.goto 20, 3) := by decide +kernel
theorem dn_M_read_IIIIJ_127 : decode bn_M_read_IIIIJ 127 = .ok (.lload 5, 2) := by decide +kernel
theorem dn_M_read_IIIIJ_129 : decode bn_M_read_IIIIJ 129 = .ok (.lconst 0, 1) := by decide +kernel
theorem dn_M_read_IIIIJ_130 : decode bn_M_read_IIIIJ 130 = .ok (.lcmp, 1) := by decide +kernel
theorem dn_M_read_IIIIJ_131 : decode bn_M_read_IIIIJ 131 = .ok (.ifCond .ne 17, 3) := by decide +kernel
theorem dn_M_read_IIIIJ_134 : decode bn_M_read_IIIIJ 134 = .ok (.lload 7, 2) := by decide +kernel
theorem dn_M_read_IIIIJ_136 : decode bn_M_read_IIIIJ 136 = .ok (.iload 4, 2) := by decide +kernel
theorem dn_M_read_IIIIJ_138 : decode bn_M_read_IIIIJ 138 = .ok (.lshr, 1) := by decide +kernel
theorem dn_M_read_IIIIJ_139 : decode bn_M_read_IIIIJ 139 = .ok (.lconst 0, 1) := by decide +kernel
theorem dn_M_read_IIIIJ_140 : decode bn_M_read_IIIIJ 140 = .ok (.lcmp, 1) := by decide +kernel
theorem dn_M_read_IIIIJ_141 : decode bn_M_read_IIIIJ 141 = .ok (.ifCond .ne 7, 3) := by decide +kernel
theorem dn_M_read_IIIIJ_144 : decode bn_M_read_IIIIJ 144 = .ok (.iconst 1, 1) := by decide +kernel
theorem dn_M_read_IIIIJ_145 : decode bn_M_read_IIIIJ 145 = .ok (.goto 4, 3) := by decide +kernel
theorem dn_M_read_IIIIJ_148 : decode bn_M_read_IIIIJ 148 = .ok (.iconst 0, 1) := by decide +kernel
theorem dn_M_read_IIIIJ_149 : decode bn_M_read_IIIIJ 149 = .ok (.istore 10, 2) := by decide +kernel
theorem dn_M_read_IIIIJ_151 : decode bn_M_read_IIIIJ 151 = .ok (.aload_n 0, 1) := by decide +kernel
theorem dn_M_read_IIIIJ_152 : decode bn_M_read_IIIIJ 152 = .ok (.iload 10, 2) := by decide +kernel
theorem dn_M_read_IIIIJ_154 : decode bn_M_read_IIIIJ 154 = .ok (.putfield 218, 3) := by decide +kernel
theorem dn_M_read_IIIIJ_157 : decode bn_M_read_IIIIJ 157 = .ok (.lload 5, 2) := by decide +kernel
theorem dn_M_read_IIIIJ_159 : decode bn_M_read_IIIIJ 159 = .ok (.bipush 32, 2) := by decide +kernel
theorem dn_M_read_IIIIJ_161 : decode bn_M_read_IIIIJ 161 = .ok (.lshl, 1) := by decide +kernel
theorem dn_M_read_IIIIJ_162 : decode bn_M_read_IIIIJ 162 = .ok (.lload 7, 2) := by decide +kernel
theorem dn_M_read_IIIIJ_164 : decode bn_M_read_IIIIJ 164 = .ok (.lor, 1) := by decide +kernel
theorem dn_M_read_IIIIJ_165 : decode bn_M_read_IIIIJ 165 = .ok (.lreturn, 1) := by decide +kernel
theorem dn_M_reckon_0 : decode bn_M_reckon 0 = .ok (.aload_n 0, 1) := by decide +kernel
theorem dn_M_reckon_1 : decode bn_M_reckon 1 = .ok (.dup, 1) := by decide +kernel
theorem dn_M_reckon_2 : decode bn_M_reckon 2 = .ok (.getfield 368, 3) := by decide +kernel
theorem dn_M_reckon_5 : decode bn_M_reckon 5 = .ok (.iconst 1, 1) := by decide +kernel
theorem dn_M_reckon_6 : decode bn_M_reckon 6 = .ok (.isub, 1) := by decide +kernel
theorem dn_M_reckon_7 : decode bn_M_reckon 7 = .ok (.putfield 368, 3) := by decide +kernel
theorem dn_M_reckon_10 : decode bn_M_reckon 10 = .ok (.aload_n 0, 1) := by decide +kernel
theorem dn_M_reckon_11 : decode bn_M_reckon 11 = .ok (.getfield 113, 3) := by decide +kernel
theorem dn_M_reckon_14 : decode bn_M_reckon 14 = .ok (.aload_n 0, 1) := by decide +kernel
theorem dn_M_reckon_15 : decode bn_M_reckon 15 = .ok (.getfield 368, 3) := by decide +kernel
theorem dn_M_reckon_18 : decode bn_M_reckon 18 = .ok (.iaload, 1) := by decide +kernel
theorem dn_M_reckon_19 : decode bn_M_reckon 19 = .ok (.istore_n 1, 1) := by decide +kernel
theorem dn_M_reckon_20 : decode bn_M_reckon 20 = .ok (.aload_n 0, 1) := by decide +kernel
theorem dn_M_reckon_21 : decode bn_M_reckon 21 = .ok (.dup, 1) := by decide +kernel
theorem dn_M_reckon_22 : decode bn_M_reckon 22 = .ok (.getfield 380, 3) := by decide +kernel
theorem dn_M_reckon_25 : decode bn_M_reckon 25 = .ok (.iconst 1, 1) := by decide +kernel
theorem dn_M_reckon_26 : decode bn_M_reckon 26 = .ok (.isub, 1) := by decide +kernel
theorem dn_M_reckon_27 : decode bn_M_reckon 27 = .ok (.putfield 380, 3) := by decide +kernel
theorem dn_M_reckon_30 : decode bn_M_reckon 30 = .ok (.aload_n 0, 1) := by decide +kernel
theorem dn_M_reckon_31 : decode bn_M_reckon 31 = .ok (.getfield 119, 3) := by decide +kernel
theorem dn_M_reckon_34 : decode bn_M_reckon 34 = .ok (.aload_n 0, 1) := by decide +kernel
theorem dn_M_reckon_35 : decode bn_M_reckon 35 = .ok (.getfield 380, 3) := by decide +kernel
theorem dn_M_reckon_38 : decode bn_M_reckon 38 = .ok (.iaload, 1) := by decide +kernel
theorem dn_M_reckon_39 : decode bn_M_reckon 39 = .ok (.istore_n 2, 1) := by decide +kernel
theorem dn_M_reckon_40 : decode bn_M_reckon 40 = .ok (.aload_n 0, 1) := by decide +kernel
theorem dn_M_reckon_41 : decode bn_M_reckon 41 = .ok (.getfield 119, 3) := by decide +kernel
theorem dn_M_reckon_44 : decode bn_M_reckon 44 = .ok (.aload_n 0, 1) := by decide +kernel
theorem dn_M_reckon_45 : decode bn_M_reckon 45 = .ok (.getfield 380, 3) := by decide +kernel
theorem dn_M_reckon_48 : decode bn_M_reckon 48 = .ok (.iconst 1, 1) := by decide +kernel
theorem dn_M_reckon_49 : decode bn_M_reckon 49 = .ok (.isub, 1) := by decide +kernel
theorem dn_M_reckon_50 : decode bn_M_reckon 50 = .ok (.iaload, 1) := by decide +kernel
theorem dn_M_reckon_51 : decode bn_M_reckon 51 = .ok (.istore_n 3, 1) := by decide +kernel
theorem dn_M_reckon_52 : decode bn_M_reckon 52 = .ok (.iload_n 1, 1) := by decide +kernel
theorem dn_M_reckon_53 : decode bn_M_reckon 53 = .ok (.invokestatic 290, 3) := by decide +kernel
theorem dn_M_reckon_56 : decode bn_M_reckon 56 = .ok (.istore 4, 2) := by decide +kernel
theorem dn_M_reckon_58 : decode bn_M_reckon 58 = .ok (.iload 4, 2) := by decide +kernel
theorem dn_M_reckon_60 : decode bn_M_reckon 60 = .ok (.iconst 3, 1) := by decide +kernel
theorem dn_M_reckon_61 : decode bn_M_reckon 61 = .ok (.if_icmp .lt 10, 3) := by decide +kernel
theorem dn_M_reckon_64 : decode bn_M_reckon 64 = .ok (.iload 4, 2) := by decide +kernel
theorem dn_M_reckon_66 : decode bn_M_reckon 66 = .ok (.bipush 8, 2) := by decide +kernel
theorem dn_M_reckon_68 : decode bn_M_reckon 68 = .ok (.if_icmp .ne 7, 3) := by decide +kernel
theorem dn_M_reckon_71 : decode bn_M_reckon 71 = .ok (.iconst 1, 1) := by decide +kernel
theorem dn_M_reckon_72 : decode bn_M_reckon 72 = .ok (.goto 4, 3) := by decide +kernel
theorem dn_M_reckon_75 : decode bn_M_reckon 75 = .ok (.iconst 0, 1) := by decide +kernel
theorem dn_M_reckon_76 : decode bn_M_reckon 76 = .ok (.istore 5, 2) := by decide +kernel
theorem dn_M_reckon_78 : decode bn_M_reckon 78 = .ok (.aload_n 0, 1) := by decide +kernel
theorem dn_M_reckon_79 : decode bn_M_reckon 79 = .ok (.getfield 257, 3) := by decide +kernel
theorem dn_M_reckon_82 : decode bn_M_reckon 82 = .ok (.ifCond .ne 28, 3) := by decide +kernel
theorem dn_M_reckon_85 : decode bn_M_reckon 85 = .ok (.iload 5, 2) := by decide +kernel
theorem dn_M_reckon_87 : decode bn_M_reckon 87 = .ok (.ifCond .ne 23, 3) := by decide +kernel
theorem dn_M_reckon_90 : decode bn_M_reckon 90 = .ok (.iload_n 3, 1) := by decide +kernel
theorem dn_M_reckon_91 : decode bn_M_reckon 91 = .ok (.iload_n 2, 1) := by decide +kernel
theorem dn_M_reckon_92 : decode bn_M_reckon 92 = .ok (.if_icmp .eq 18, 3) := by decide +kernel
theorem dn_M_reckon_95 : decode bn_M_reckon 95 = .ok (.aload_n 0, 1) := by decide +kernel
theorem dn_M_reckon_96 : decode bn_M_reckon 96 = .ok (.bipush 30, 2) := by decide +kernel
theorem dn_M_reckon_98 : decode bn_M_reckon 98 = .ok (.aload_n 0, 1) := by decide +kernel
theorem dn_M_reckon_99 : decode bn_M_reckon 99 = .ok (.getfield 116, 3) := by decide +kernel
theorem dn_M_reckon_102 : decode bn_M_reckon 102 = .ok (.aload_n 0, 1) := by decide +kernel
theorem dn_M_reckon_103 : decode bn_M_reckon 103 = .ok (.getfield 368, 3) := by decide +kernel
theorem dn_M_reckon_106 : decode bn_M_reckon 106 = .ok (.iaload, 1) := by decide +kernel
theorem dn_M_reckon_107 : decode bn_M_reckon 107 = .ok (.invokevirtual 266, 3) := by decide +kernel
theorem dn_M_reckon_110 : decode bn_M_reckon 110 = .ok (.iload_n 3, 1) := by decide +kernel
theorem dn_M_reckon_111 : decode bn_M_reckon 111 = .ok (.iload_n 2, 1) := by decide +kernel
theorem dn_M_reckon_112 : decode bn_M_reckon 112 = .ok (.if_icmp .le 7, 3) := by decide +kernel
theorem dn_M_reckon_115 : decode bn_M_reckon 115 = .ok (.iload_n 3, 1) := by decide +kernel
theorem dn_M_reckon_116 : decode bn_M_reckon 116 = .ok (.goto 4, 3) := by decide +kernel
theorem dn_M_reckon_119 : decode bn_M_reckon 119 = .ok (.iload_n 2, 1) := by decide +kernel
theorem dn_M_reckon_120 : decode bn_M_reckon 120 = .ok (.istore 6, 2) := by decide +kernel
theorem dn_M_reckon_122 : decode bn_M_reckon 122 = .ok (.aload_n 0, 1) := by decide +kernel
theorem dn_M_reckon_123 : decode bn_M_reckon 123 = .ok (.iload 4, 2) := by decide +kernel
theorem dn_M_reckon_125 : decode bn_M_reckon 125 = .ok (.bipush 8, 2) := by decide +kernel
theorem dn_M_reckon_127 : decode bn_M_reckon 127 = .ok (.if_icmp .ne 12, 3) := by decide +kernel
theorem dn_M_reckon_130 : decode bn_M_reckon 130 = .ok (.iconst 3, 1) := by decide +kernel
theorem dn_M_reckon_131 : decode bn_M_reckon 131 = .ok (.iload_n 3, 1) := by decide +kernel
theorem dn_M_reckon_132 : decode bn_M_reckon 132 = .ok (.imul, 1) := by decide +kernel
theorem dn_M_reckon_133 : decode bn_M_reckon 133 = .ok (.iload_n 2, 1) := by decide +kernel
theorem dn_M_reckon_134 : decode bn_M_reckon 134 = .ok (.iadd, 1) := by decide +kernel
theorem dn_M_reckon_135 : decode bn_M_reckon 135 = .ok (.i2l, 1) := by decide +kernel
theorem dn_M_reckon_136 : decode bn_M_reckon 136 = .ok (.goto 19, 3) := by decide +kernel
theorem dn_M_reckon_139 : decode bn_M_reckon 139 = .ok (.iload_n 1, 1) := by decide +kernel
theorem dn_M_reckon_140 : decode bn_M_reckon 140 = .ok (.bipush 42, 2) := by decide +kernel
theorem dn_M_reckon_142 : decode bn_M_reckon 142 = .ok (.if_icmp .ne 10, 3) := by decide +kernel
theorem dn_M_reckon_145 : decode bn_M_reckon 145 = .ok (.iload_n 3, 1) := by decide +kernel
theorem dn_M_reckon_146 : decode bn_M_reckon 146 = .ok (.iload_n 3, 1) := by decide +kernel
theorem dn_M_reckon_147 : decode bn_M_reckon 147 = .ok (.imul, 1) := by decide +kernel
theorem dn_M_reckon_148 : decode bn_M_reckon 148 = .ok (.i2l, 1) := by decide +kernel
theorem dn_M_reckon_149 : decode bn_M_reckon 149 = .ok (.goto 6, 3) := by decide +kernel
theorem dn_M_reckon_152 : decode bn_M_reckon 152 = .ok (.iload 6, 2) := by decide +kernel
theorem dn_M_reckon_154 : decode bn_M_reckon 154 = .ok (.i2l, 1) := by decide +kernel
theorem dn_M_reckon_155 : decode bn_M_reckon 155 = .ok (.invokevirtual 361, 3) := by decide +kernel
theorem dn_M_reckon_158 : decode bn_M_reckon 158 = .ok (.iload 4, 2) := by decide +kernel
theorem dn_M_reckon_160 : decode bn_M_reckon 160 = .ok (.iconst 3, 1) := by decide +kernel
theorem dn_M_reckon_161 : decode bn_M_reckon 161 = .ok (.if_icmp .lt 17, 3) := by decide +kernel
theorem dn_M_reckon_164 : decode bn_M_reckon 164 = .ok (.iload 4, 2) := by decide +kernel
theorem dn_M_reckon_166 : decode bn_M_reckon 166 = .ok (.bipush 6, 2) := by decide +kernel
theorem dn_M_reckon_168 : decode bn_M_reckon 168 = .ok (.if_icmp .eq 10, 3) := by decide +kernel
theorem dn_M_reckon_171 : decode bn_M_reckon 171 = .ok (.iload 4, 2) := by decide +kernel
theorem dn_M_reckon_173 : decode bn_M_reckon 173 = .ok (.bipush 7, 2) := by decide +kernel
theorem dn_M_reckon_175 : decode bn_M_reckon 175 = .ok (.if_icmp .ne 7, 3) := by decide +kernel
theorem dn_M_reckon_178 : decode bn_M_reckon 178 = .ok (.iconst 1, 1) := by decide +kernel
theorem dn_M_reckon_179 : decode bn_M_reckon 179 = .ok (.goto 4, 3) := by decide +kernel
theorem dn_M_reckon_182 : decode bn_M_reckon 182 = .ok (.iload_n 3, 1) := by decide +kernel
theorem dn_M_reckon_183 : decode bn_M_reckon 183 = .ok (.istore 7, 2) := by decide +kernel
theorem dn_M_reckon_185 : decode bn_M_reckon 185 = .ok (.aload_n 0, 1) := by decide +kernel
theorem dn_M_reckon_186 : decode bn_M_reckon 186 = .ok (.getfield 119, 3) := by decide +kernel
theorem dn_M_reckon_189 : decode bn_M_reckon 189 = .ok (.aload_n 0, 1) := by decide +kernel
theorem dn_M_reckon_190 : decode bn_M_reckon 190 = .ok (.getfield 380, 3) := by decide +kernel
theorem dn_M_reckon_193 : decode bn_M_reckon 193 = .ok (.iconst 1, 1) := by decide +kernel
theorem dn_M_reckon_194 : decode bn_M_reckon 194 = .ok (.isub, 1) := by decide +kernel
theorem dn_M_reckon_195 : decode bn_M_reckon 195 = .ok (.iload 7, 2) := by decide +kernel
theorem dn_M_reckon_197 : decode bn_M_reckon 197 = .ok (.iastore, 1) := by decide +kernel
theorem dn_M_reckon_198 : decode bn_M_reckon 198 = .ok (.aload_n 0, 1) := by decide +kernel
theorem dn_M_reckon_199 : decode bn_M_reckon 199 = .ok (.iconst 5, 1) := by decide +kernel
theorem dn_M_reckon_200 : decode bn_M_reckon 200 = .ok (.iload_n 1, 1) := by decide +kernel
theorem dn_M_reckon_201 : decode bn_M_reckon 201 = .ok (.iload 7, 2) := by decide +kernel
theorem dn_M_reckon_203 : decode bn_M_reckon 203 = .ok (.invokevirtual 365, 3) := by decide +kernel
theorem dn_M_reckon_206 : decode bn_M_reckon 206 = .ok (.return_, 1) := by decide +kernel
theorem dn_M_reset_0 : decode bn_M_reset 0 = .ok (.aload_n 0, 1) := by decide +kernel
theorem dn_M_reset_1 : decode bn_M_reset 1 = .ok (.aload_n 0, 1) := by decide +kernel
theorem dn_M_reset_2 : decode bn_M_reset 2 = .ok (.getfield 545, 3) := by decide +kernel
theorem dn_M_reset_5 : decode bn_M_reset 5 = .ok (.ifCond .eq 7, 3) := by decide +kernel
theorem dn_M_reset_8 : decode bn_M_reset 8 = .ok (.iconst 0, 1) := by decide +kernel
theorem dn_M_reset_9 : decode bn_M_reset 9 = .ok (.goto 4, 3) := by decide +kernel
theorem dn_M_reset_12 : decode bn_M_reset 12 = .ok (.iconst 1, 1) := by decide +kernel
theorem dn_M_reset_13 : decode bn_M_reset 13 = .ok (.putfield 192, 3) := by decide +kernel
theorem dn_M_reset_16 : decode bn_M_reset 16 = .ok (.aload_n 0, 1) := by decide +kernel
theorem dn_M_reset_17 : decode bn_M_reset 17 = .ok (.getfield 545, 3) := by decide +kernel
theorem dn_M_reset_20 : decode bn_M_reset 20 = .ok (.ifCond .eq 7, 3) := by decide +kernel
theorem dn_M_reset_23 : decode bn_M_reset 23 = .ok (.aload_n 0, 1) := by decide +kernel
theorem dn_M_reset_24 : decode bn_M_reset 24 = .ok (.invokevirtual 554, 3) := by decide +kernel
theorem dn_M_reset_27 : decode bn_M_reset 27 = .ok (.return_, 1) := by decide +kernel
theorem dn_M_run_0 : decode bn_M_run 0 = .ok (.iload_n 1, 1) := by decide +kernel
theorem dn_M_run_1 : decode bn_M_run 1 = .ok (.istore 4, 2) := by decide +kernel
theorem dn_M_run_3 : decode bn_M_run 3 = .ok (.iload 4, 2) := by decide +kernel
theorem dn_M_run_5 : decode bn_M_run 5 = .ok (.iload_n 2, 1) := by decide +kernel
theorem dn_M_run_6 : decode bn_M_run 6 = .ok (.if_icmp .ge 513, 3) := by decide +kernel
theorem dn_M_run_9 : decode bn_M_run 9 = .ok (.aload_n 0, 1) := by decide +kernel
theorem dn_M_run_10 : decode bn_M_run 10 = .ok (.getfield 95, 3) := by decide +kernel
theorem dn_M_run_13 : decode bn_M_run 13 = .ok (.iload 4, 2) := by decide +kernel
theorem dn_M_run_15 : decode bn_M_run 15 = .ok (.iconst 1, 1) := by decide +kernel
theorem dn_M_run_16 : decode bn_M_run 16 = .ok (.iadd, 1) := by decide +kernel
theorem dn_M_run_17 : decode bn_M_run 17 = .ok (.iaload, 1) := by decide +kernel
theorem dn_M_run_18 : decode bn_M_run 18 = .ok (.istore 5, 2) := by decide +kernel
theorem dn_M_run_20 : decode bn_M_run 20 = .ok (.aload_n 0, 1) := by decide +kernel
theorem dn_M_run_21 : decode bn_M_run 21 = .ok (.getfield 95, 3) := by decide +kernel
theorem dn_M_run_24 : decode bn_M_run 24 = .ok (.iload 4, 2) := by decide +kernel
theorem dn_M_run_26 : decode bn_M_run 26 = .ok (.iconst 2, 1) := by decide +kernel
theorem dn_M_run_27 : decode bn_M_run 27 = .ok (.iadd, 1) := by decide +kernel
theorem dn_M_run_28 : decode bn_M_run 28 = .ok (.iaload, 1) := by decide +kernel
theorem dn_M_run_29 : decode bn_M_run 29 = .ok (.istore 6, 2) := by decide +kernel
theorem dn_M_run_31 : decode bn_M_run 31 = .ok (.iload 4, 2) := by decide +kernel
theorem dn_M_run_33 : decode bn_M_run 33 = .ok (.iconst 3, 1) := by decide +kernel
theorem dn_M_run_34 : decode bn_M_run 34 = .ok (.iadd, 1) := by decide +kernel
theorem dn_M_run_35 : decode bn_M_run 35 = .ok (.istore 7, 2) := by decide +kernel
theorem dn_M_run_37 : decode bn_M_run 37 = .ok (.aload_n 0, 1) := by decide +kernel
theorem dn_M_run_38 : decode bn_M_run 38 = .ok (.getfield 95, 3) := by decide +kernel
theorem dn_M_run_41 : decode bn_M_run 41 = .ok (.iload 4, 2) := by decide +kernel
theorem dn_M_run_43 : decode bn_M_run 43 = .ok (.iaload, 1) := by decide +kernel
theorem dn_M_run_44 : decode bn_M_run 44 = .ok (.tableswitch 458 0 12 #[68, 82, 101, 126, 173, 191, 221, 256, 279, 324, 396, 417, 424], 68) := by decide +kernel
theorem dn_M_run_112 : decode bn_M_run 112 = .ok (.aload_n 0, 1) := by decide +kernel
theorem dn_M_run_113 : decode bn_M_run 113 = .ok (.aload_n 0, 1) := by decide +kernel
theorem dn_M_run_114 : decode bn_M_run 114 = .ok (.getfield 98, 3) := by decide +kernel
theorem dn_M_run_117 : decode bn_M_run 117 = .ok (.iload 5, 2) := by decide +kernel
theorem dn_M_run_119 : decode bn_M_run 119 = .ok (.laload, 1) := by decide +kernel
theorem dn_M_run_120 : decode bn_M_run 120 = .ok (.invokevirtual 587, 3) := by decide +kernel
theorem dn_M_run_123 : decode bn_M_run 123 = .ok (.goto 389, 3) := by decide +kernel
theorem dn_M_run_126 : decode bn_M_run 126 = .ok (.aload_n 0, 1) := by decide +kernel
theorem dn_M_run_127 : decode bn_M_run 127 = .ok (.aload_n 0, 1) := by decide +kernel
theorem dn_M_run_128 : decode bn_M_run 128 = .ok (.getfield 174, 3) := by decide +kernel
theorem dn_M_run_131 : decode bn_M_run 131 = .ok (.aload_n 0, 1) := by decide +kernel
theorem dn_M_run_132 : decode bn_M_run 132 = .ok (.iload_n 3, 1) := by decide +kernel
theorem dn_M_run_133 : decode bn_M_run 133 = .ok (.iload 5, 2) := by decide +kernel
theorem dn_M_run_135 : decode bn_M_run 135 = .ok (.invokevirtual 506, 3) := by decide +kernel
theorem dn_M_run_138 : decode bn_M_run 138 = .ok (.laload, 1) := by decide +kernel
theorem dn_M_run_139 : decode bn_M_run 139 = .ok (.invokevirtual 587, 3) := by decide +kernel
theorem dn_M_run_142 : decode bn_M_run 142 = .ok (.goto 370, 3) := by decide +kernel
theorem dn_M_run_145 : decode bn_M_run 145 = .ok (.aload_n 0, 1) := by decide +kernel
theorem dn_M_run_146 : decode bn_M_run 146 = .ok (.aload_n 0, 1) := by decide +kernel
theorem dn_M_run_147 : decode bn_M_run 147 = .ok (.invokevirtual 590, 3) := by decide +kernel
theorem dn_M_run_150 : decode bn_M_run 150 = .ok (.iload 6, 2) := by decide +kernel
theorem dn_M_run_152 : decode bn_M_run 152 = .ok (.lushr, 1) := by decide +kernel
theorem dn_M_run_153 : decode bn_M_run 153 = .ok (.iload 5, 2) := by decide +kernel
theorem dn_M_run_155 : decode bn_M_run 155 = .ok (.iload 6, 2) := by decide +kernel
theorem dn_M_run_157 : decode bn_M_run 157 = .ok (.isub, 1) := by decide +kernel
theorem dn_M_run_158 : decode bn_M_run 158 = .ok (.iconst 1, 1) := by decide +kernel
theorem dn_M_run_159 : decode bn_M_run 159 = .ok (.iadd, 1) := by decide +kernel
theorem dn_M_run_160 : decode bn_M_run 160 = .ok (.invokestatic 581, 3) := by decide +kernel
theorem dn_M_run_163 : decode bn_M_run 163 = .ok (.land, 1) := by decide +kernel
theorem dn_M_run_164 : decode bn_M_run 164 = .ok (.invokevirtual 587, 3) := by decide +kernel
theorem dn_M_run_167 : decode bn_M_run 167 = .ok (.goto 345, 3) := by decide +kernel
theorem dn_M_run_170 : decode bn_M_run 170 = .ok (.aload_n 0, 1) := by decide +kernel
theorem dn_M_run_171 : decode bn_M_run 171 = .ok (.invokevirtual 590, 3) := by decide +kernel
theorem dn_M_run_174 : decode bn_M_run 174 = .ok (.lstore 8, 2) := by decide +kernel
theorem dn_M_run_176 : decode bn_M_run 176 = .ok (.aload_n 0, 1) := by decide +kernel
theorem dn_M_run_177 : decode bn_M_run 177 = .ok (.invokevirtual 590, 3) := by decide +kernel
theorem dn_M_run_180 : decode bn_M_run 180 = .ok (.lstore 10, 2) := by decide +kernel
theorem dn_M_run_182 : decode bn_M_run 182 = .ok (.aload_n 0, 1) := by decide +kernel
theorem dn_M_run_183 : decode bn_M_run 183 = .ok (.lload 8, 2) := by decide +kernel
theorem dn_M_run_185 : decode bn_M_run 185 = .ok (.lconst 0, 1) := by decide +kernel
theorem dn_M_run_186 : decode bn_M_run 186 = .ok (.lcmp, 1) := by decide +kernel
theorem dn_M_run_187 : decode bn_M_run 187 = .ok (.ifCond .lt 12, 3) := by decide +kernel
theorem dn_M_run_190 : decode bn_M_run 190 = .ok (.lload 8, 2) := by decide +kernel
theorem dn_M_run_192 : decode bn_M_run 192 = .ok (.iload 5, 2) := by decide +kernel
theorem dn_M_run_194 : decode bn_M_run 194 = .ok (.i2l, 1) := by decide +kernel
theorem dn_M_run_195 : decode bn_M_run 195 = .ok (.lcmp, 1) := by decide +kernel
theorem dn_M_run_196 : decode bn_M_run 196 = .ok (.ifCond .lt 7, 3) := by decide +kernel
theorem dn_M_run_199 : decode bn_M_run 199 = .ok (.lconst 0, 1) := by decide +kernel
theorem dn_M_run_200 : decode bn_M_run 200 = .ok (.goto 11, 3) := by decide +kernel
theorem dn_M_run_203 : decode bn_M_run 203 = .ok (.lload 10, 2) := by decide +kernel
theorem dn_M_run_205 : decode bn_M_run 205 = .ok (.lload 8, 2) := by decide +kernel
theorem dn_M_run_207 : decode bn_M_run 207 = .ok (.l2i, 1) := by decide +kernel
theorem dn_M_run_208 : decode bn_M_run 208 = .ok (.lushr, 1) := by decide +kernel
theorem dn_M_run_209 : decode bn_M_run 209 = .ok (.lconst 1, 1) := by decide +kernel
theorem dn_M_run_210 : decode bn_M_run 210 = .ok (.land, 1) := by decide +kernel
theorem dn_M_run_211 : decode bn_M_run 211 = .ok (.invokevirtual 587, 3) := by decide +kernel
theorem dn_M_run_214 : decode bn_M_run 214 = .ok (.goto 298, 3) := by decide +kernel
theorem dn_M_run_217 : decode bn_M_run 217 = .ok (.aload_n 0, 1) := by decide +kernel
theorem dn_M_run_218 : decode bn_M_run 218 = .ok (.iload 5, 2) := by decide +kernel
theorem dn_M_run_220 : decode bn_M_run 220 = .ok (.iload 6, 2) := by decide +kernel
theorem dn_M_run_222 : decode bn_M_run 222 = .ok (.aload_n 0, 1) := by decide +kernel
theorem dn_M_run_223 : decode bn_M_run 223 = .ok (.invokevirtual 590, 3) := by decide +kernel
theorem dn_M_run_226 : decode bn_M_run 226 = .ok (.invokestatic 594, 3) := by decide +kernel
theorem dn_M_run_229 : decode bn_M_run 229 = .ok (.invokevirtual 587, 3) := by decide +kernel
theorem dn_M_run_232 : decode bn_M_run 232 = .ok (.goto 280, 3) := by decide +kernel
theorem dn_M_run_235 : decode bn_M_run 235 = .ok (.aload_n 0, 1) := by decide +kernel
theorem dn_M_run_236 : decode bn_M_run 236 = .ok (.invokevirtual 590, 3) := by decide +kernel
theorem dn_M_run_239 : decode bn_M_run 239 = .ok (.lstore 12, 2) := by decide +kernel
theorem dn_M_run_241 : decode bn_M_run 241 = .ok (.aload_n 0, 1) := by decide +kernel
theorem dn_M_run_242 : decode bn_M_run 242 = .ok (.invokevirtual 590, 3) := by decide +kernel
theorem dn_M_run_245 : decode bn_M_run 245 = .ok (.lstore 14, 2) := by decide +kernel
theorem dn_M_run_247 : decode bn_M_run 247 = .ok (.aload_n 0, 1) := by decide +kernel
theorem dn_M_run_248 : decode bn_M_run 248 = .ok (.iload 5, 2) := by decide +kernel
theorem dn_M_run_250 : decode bn_M_run 250 = .ok (.iload 6, 2) := by decide +kernel
theorem dn_M_run_252 : decode bn_M_run 252 = .ok (.lload 14, 2) := by decide +kernel
theorem dn_M_run_254 : decode bn_M_run 254 = .ok (.lload 12, 2) := by decide +kernel
theorem dn_M_run_256 : decode bn_M_run 256 = .ok (.invokestatic 598, 3) := by decide +kernel
theorem dn_M_run_259 : decode bn_M_run 259 = .ok (.invokevirtual 587, 3) := by decide +kernel
theorem dn_M_run_262 : decode bn_M_run 262 = .ok (.goto 250, 3) := by decide +kernel
theorem dn_M_run_265 : decode bn_M_run 265 = .ok (.aload_n 0, 1) := by decide +kernel
theorem dn_M_run_266 : decode bn_M_run 266 = .ok (.invokevirtual 590, 3) := by decide +kernel
theorem dn_M_run_269 : decode bn_M_run 269 = .ok (.lstore 16, 2) := by decide +kernel
theorem dn_M_run_271 : decode bn_M_run 271 = .ok (.aload_n 0, 1) := by decide +kernel
theorem dn_M_run_272 : decode bn_M_run 272 = .ok (.invokevirtual 590, 3) := by decide +kernel
theorem dn_M_run_275 : decode bn_M_run 275 = .ok (.lstore 18, 2) := by decide +kernel
theorem dn_M_run_277 : decode bn_M_run 277 = .ok (.aload_n 0, 1) := by decide +kernel
theorem dn_M_run_278 : decode bn_M_run 278 = .ok (.aload_n 0, 1) := by decide +kernel
theorem dn_M_run_279 : decode bn_M_run 279 = .ok (.invokevirtual 590, 3) := by decide +kernel
theorem dn_M_run_282 : decode bn_M_run 282 = .ok (.lconst 0, 1) := by decide +kernel
theorem dn_M_run_283 : decode bn_M_run 283 = .ok (.lcmp, 1) := by decide +kernel
theorem dn_M_run_284 : decode bn_M_run 284 = .ok (.ifCond .eq 8, 3) := by decide +kernel
theorem dn_M_run_287 : decode bn_M_run 287 = .ok (.lload 18, 2) := by decide +kernel
theorem dn_M_run_289 : decode bn_M_run 289 = .ok (.goto 5, 3) := by decide +kernel
theorem dn_M_run_292 : decode bn_M_run 292 = .ok (.lload 16, 2) := by decide +kernel
theorem dn_M_run_294 : decode bn_M_run 294 = .ok (.invokevirtual 587, 3) := by decide +kernel
theorem dn_M_run_297 : decode bn_M_run 297 = .ok (.goto 215, 3) := by decide +kernel
theorem dn_M_run_300 : decode bn_M_run 300 = .ok (.aload_n 0, 1) := by decide +kernel
theorem dn_M_run_301 : decode bn_M_run 301 = .ok (.invokevirtual 590, 3) := by decide +kernel
theorem dn_M_run_304 : decode bn_M_run 304 = .ok (.lstore 20, 2) := by decide +kernel
theorem dn_M_run_306 : decode bn_M_run 306 = .ok (.aload_n 0, 1) := by decide +kernel
theorem dn_M_run_307 : decode bn_M_run 307 = .ok (.aload_n 0, 1) := by decide +kernel
theorem dn_M_run_308 : decode bn_M_run 308 = .ok (.invokevirtual 590, 3) := by decide +kernel
theorem dn_M_run_311 : decode bn_M_run 311 = .ok (.iload 5, 2) := by decide +kernel
theorem dn_M_run_313 : decode bn_M_run 313 = .ok (.lshl, 1) := by decide +kernel
theorem dn_M_run_314 : decode bn_M_run 314 = .ok (.lload 20, 2) := by decide +kernel
theorem dn_M_run_316 : decode bn_M_run 316 = .ok (.lor, 1) := by decide +kernel
theorem dn_M_run_317 : decode bn_M_run 317 = .ok (.invokevirtual 587, 3) := by decide +kernel
theorem dn_M_run_320 : decode bn_M_run 320 = .ok (.goto 192, 3) := by decide +kernel
theorem dn_M_run_323 : decode bn_M_run 323 = .ok (.aload_n 0, 1) := by decide +kernel
theorem dn_M_run_324 : decode bn_M_run 324 = .ok (.invokevirtual 590, 3) := by decide +kernel
theorem dn_M_run_327 : decode bn_M_run 327 = .ok (.lstore 22, 2) := by decide +kernel
theorem dn_M_run_329 : decode bn_M_run 329 = .ok (.lload 22, 2) := by decide +kernel
theorem dn_M_run_331 : decode bn_M_run 331 = .ok (.lstore 24, 2) := by decide +kernel
theorem dn_M_run_333 : decode bn_M_run 333 = .ok (.iconst 1, 1) := by decide +kernel
theorem dn_M_run_334 : decode bn_M_run 334 = .ok (.istore 26, 2) := by decide +kernel
theorem dn_M_run_336 : decode bn_M_run 336 = .ok (.iload 26, 2) := by decide +kernel
theorem dn_M_run_338 : decode bn_M_run 338 = .ok (.iload 5, 2) := by decide +kernel
theorem dn_M_run_340 : decode bn_M_run 340 = .ok (.if_icmp .ge 19, 3) := by decide +kernel
theorem dn_M_run_343 : decode bn_M_run 343 = .ok (.lload 24, 2) := by decide +kernel
theorem dn_M_run_345 : decode bn_M_run 345 = .ok (.iload 6, 2) := by decide +kernel
theorem dn_M_run_347 : decode bn_M_run 347 = .ok (.lshl, 1) := by decide +kernel
theorem dn_M_run_348 : decode bn_M_run 348 = .ok (.lload 22, 2) := by decide +kernel
theorem dn_M_run_350 : decode bn_M_run 350 = .ok (.lor, 1) := by decide +kernel
theorem dn_M_run_351 : decode bn_M_run 351 = .ok (.lstore 24, 2) := by decide +kernel
theorem dn_M_run_353 : decode bn_M_run 353 = .ok (.iinc 26 1, 3) := by decide +kernel
theorem dn_M_run_356 : decode bn_M_run 356 = .ok (.goto (-20), 3) := by decide +kernel
theorem dn_M_run_359 : decode bn_M_run 359 = .ok (.aload_n 0, 1) := by decide +kernel
theorem dn_M_run_360 : decode bn_M_run 360 = .ok (.lload 24, 2) := by decide +kernel
theorem dn_M_run_362 : decode bn_M_run 362 = .ok (.invokevirtual 587, 3) := by decide +kernel
theorem dn_M_run_365 : decode bn_M_run 365 = .ok (.goto 147, 3) := by decide +kernel
theorem dn_M_run_368 : decode bn_M_run 368 = .ok (.aload_n 0, 1) := by decide +kernel
theorem dn_M_run_369 : decode bn_M_run 369 = .ok (.iload_n 3, 1) := by decide +kernel
theorem dn_M_run_370 : decode bn_M_run 370 = .ok (.iload 5, 2) := by decide +kernel
theorem dn_M_run_372 : decode bn_M_run 372 = .ok (.invokevirtual 506, 3) := by decide +kernel
theorem dn_M_run_375 : decode bn_M_run 375 = .ok (.istore 26, 2) := by decide +kernel
theorem dn_M_run_377 : decode bn_M_run 377 = .ok (.iload 6, 2) := by decide +kernel
theorem dn_M_run_379 : decode bn_M_run 379 = .ok (.sipush 256, 3) := by decide +kernel
theorem dn_M_run_382 : decode bn_M_run 382 = .ok (.idiv, 1) := by decide +kernel
theorem dn_M_run_383 : decode bn_M_run 383 = .ok (.iload 6, 2) := by decide +kernel
theorem dn_M_run_385 : decode bn_M_run 385 = .ok (.sipush 256, 3) := by decide +kernel
theorem dn_M_run_388 : decode bn_M_run 388 = .ok (.irem, 1) := by decide +kernel
theorem dn_M_run_389 : decode bn_M_run 389 = .ok (.isub, 1) := by decide +kernel
theorem dn_M_run_390 : decode bn_M_run 390 = .ok (.iconst 1, 1) := by decide +kernel
theorem dn_M_run_391 : decode bn_M_run 391 = .ok (.iadd, 1) := by decide +kernel
theorem dn_M_run_392 : decode bn_M_run 392 = .ok (.invokestatic 581, 3) := by decide +kernel
theorem dn_M_run_395 : decode bn_M_run 395 = .ok (.iload 6, 2) := by decide +kernel
theorem dn_M_run_397 : decode bn_M_run 397 = .ok (.sipush 256, 3) := by decide +kernel
theorem dn_M_run_400 : decode bn_M_run 400 = .ok (.irem, 1) := by decide +kernel
theorem dn_M_run_401 : decode bn_M_run 401 = .ok (.lshl, 1) := by decide +kernel
theorem dn_M_run_402 : decode bn_M_run 402 = .ok (.lstore 27, 2) := by decide +kernel
theorem dn_M_run_404 : decode bn_M_run 404 = .ok (.aload_n 0, 1) := by decide +kernel
theorem dn_M_run_405 : decode bn_M_run 405 = .ok (.getfield 177, 3) := by decide +kernel
theorem dn_M_run_408 : decode bn_M_run 408 = .ok (.iload 26, 2) := by decide +kernel
theorem dn_M_run_410 : decode bn_M_run 410 = .ok (.aload_n 0, 1) := by decide +kernel
theorem dn_M_run_411 : decode bn_M_run 411 = .ok (.getfield 177, 3) := by decide +kernel
theorem dn_M_run_414 : decode bn_M_run 414 = .ok (.iload 26, 2) := by decide +kernel
theorem dn_M_run_416 : decode bn_M_run 416 = .ok (.laload, 1) := by decide +kernel
theorem dn_M_run_417 : decode bn_M_run 417 = .ok (.lload 27, 2) := by decide +kernel
theorem dn_M_run_419 : decode bn_M_run 419 = .ok (.ldc2_w 573, 3) := by decide +kernel
theorem dn_M_run_422 : decode bn_M_run 422 = .ok (.lxor, 1) := by decide +kernel
theorem dn_M_run_423 : decode bn_M_run 423 = .ok (.land, 1) := by decide +kernel
theorem dn_M_run_424 : decode bn_M_run 424 = .ok (.aload_n 0, 1) := by decide +kernel
theorem dn_M_run_425 : decode bn_M_run 425 = .ok (.invokevirtual 590, 3) := by decide +kernel
theorem dn_M_run_428 : decode bn_M_run 428 = .ok (.iload 6, 2) := by decide +kernel
theorem dn_M_run_430 : decode bn_M_run 430 = .ok (.sipush 256, 3) := by decide +kernel
theorem dn_M_run_433 : decode bn_M_run 433 = .ok (.irem, 1) := by decide +kernel
theorem dn_M_run_434 : decode bn_M_run 434 = .ok (.lshl, 1) := by decide +kernel
theorem dn_M_run_435 : decode bn_M_run 435 = .ok (.lor, 1) := by decide +kernel
theorem dn_M_run_436 : decode bn_M_run 436 = .ok (.lastore, 1) := by decide +kernel
theorem dn_M_run_437 : decode bn_M_run 437 = .ok (.goto 75, 3) := by decide +kernel
theorem dn_M_run_440 : decode bn_M_run 440 = .ok (.aload_n 0, 1) := by decide +kernel
theorem dn_M_run_441 : decode bn_M_run 441 = .ok (.invokevirtual 590, 3) := by decide +kernel
theorem dn_M_run_444 : decode bn_M_run 444 = .ok (.lconst 0, 1) := by decide +kernel
theorem dn_M_run_445 : decode bn_M_run 445 = .ok (.lcmp, 1) := by decide +kernel
theorem dn_M_run_446 : decode bn_M_run 446 = .ok (.ifCond .ne 8, 3) := by decide +kernel
theorem dn_M_run_449 : decode bn_M_run 449 = .ok (.iload 5, 2) := by decide +kernel
theorem dn_M_run_451 : decode bn_M_run 451 = .ok (.goto 5, 3) := by decide +kernel
theorem dn_M_run_454 : decode bn_M_run 454 = .ok (.iload 7, 2) := by decide +kernel
theorem dn_M_run_456 : decode bn_M_run 456 = .ok (.istore 7, 2) := by decide +kernel
theorem dn_M_run_458 : decode bn_M_run 458 = .ok (.goto 54, 3) := by decide +kernel
theorem dn_M_run_461 : decode bn_M_run 461 = .ok (.iload 5, 2) := by decide +kernel
theorem dn_M_run_463 : decode bn_M_run 463 = .ok (.istore 7, 2) := by decide +kernel
theorem dn_M_run_465 : decode bn_M_run 465 = .ok (.goto 47, 3) := by decide +kernel
theorem dn_M_run_468 : decode bn_M_run 468 = .ok (.aload_n 0, 1) := by decide +kernel
theorem dn_M_run_469 : decode bn_M_run 469 = .ok (.getfield 186, 3) := by decide +kernel
theorem dn_M_run_472 : decode bn_M_run 472 = .ok (.aload_n 0, 1) := by decide +kernel
theorem dn_M_run_473 : decode bn_M_run 473 = .ok (.getfield 584, 3) := by decide +kernel
theorem dn_M_run_476 : decode bn_M_run 476 = .ok (.iconst 1, 1) := by decide +kernel
theorem dn_M_run_477 : decode bn_M_run 477 = .ok (.isub, 1) := by decide +kernel
theorem dn_M_run_478 : decode bn_M_run 478 = .ok (.laload, 1) := by decide +kernel
theorem dn_M_run_479 : decode bn_M_run 479 = .ok (.aload_n 0, 1) := by decide +kernel
theorem dn_M_run_480 : decode bn_M_run 480 = .ok (.getfield 98, 3) := by decide +kernel
theorem dn_M_run_483 : decode bn_M_run 483 = .ok (.iload 6, 2) := by decide +kernel
theorem dn_M_run_485 : decode bn_M_run 485 = .ok (.laload, 1) := by decide +kernel
theorem dn_M_run_486 : decode bn_M_run 486 = .ok (.lcmp, 1) := by decide +kernel
theorem dn_M_run_487 : decode bn_M_run 487 = .ok (.ifCond .ne 8, 3) := by decide +kernel
theorem dn_M_run_490 : decode bn_M_run 490 = .ok (.iload 5, 2) := by decide +kernel
theorem dn_M_run_492 : decode bn_M_run 492 = .ok (.goto 5, 3) := by decide +kernel
theorem dn_M_run_495 : decode bn_M_run 495 = .ok (.iload 7, 2) := by decide +kernel
theorem dn_M_run_497 : decode bn_M_run 497 = .ok (.istore 7, 2) := by decide +kernel
theorem dn_M_run_499 : decode bn_M_run 499 = .ok (.goto 13, 3) := by decide +kernel
theorem dn_M_run_502 : decode bn_M_run 502 = .ok (.aload_n 0, 1) := by decide +kernel
theorem dn_M_run_503 : decode bn_M_run 503 = .ok (.dup, 1) := by decide +kernel
theorem dn_M_run_504 : decode bn_M_run 504 = .ok (.getfield 584, 3) := by decide +kernel
theorem dn_M_run_507 : decode bn_M_run 507 = .ok (.iconst 1, 1) := by decide +kernel
theorem dn_M_run_508 : decode bn_M_run 508 = .ok (.isub, 1) := by decide +kernel
theorem dn_M_run_509 : decode bn_M_run 509 = .ok (.putfield 584, 3) := by decide +kernel
theorem dn_M_run_512 : decode bn_M_run 512 = .ok (.iload 7, 2) := by decide +kernel
theorem dn_M_run_514 : decode bn_M_run 514 = .ok (.istore 4, 2) := by decide +kernel
theorem dn_M_run_516 : decode bn_M_run 516 = .ok (.goto (-513), 3) := by decide +kernel
theorem dn_M_run_519 : decode bn_M_run 519 = .ok (.return_, 1) := by decide +kernel
theorem dn_M_sameToken_0 : decode bn_M_sameToken 0 = .ok (.aload_n 0, 1) := by decide +kernel
theorem dn_M_sameToken_1 : decode bn_M_sameToken 1 = .ok (.getfield 22, 3) := by decide +kernel
theorem dn_M_sameToken_4 : decode bn_M_sameToken 4 = .ok (.iload_n 1, 1) := by decide +kernel
theorem dn_M_sameToken_5 : decode bn_M_sameToken 5 = .ok (.iaload, 1) := by decide +kernel
theorem dn_M_sameToken_6 : decode bn_M_sameToken 6 = .ok (.aload_n 0, 1) := by decide +kernel
theorem dn_M_sameToken_7 : decode bn_M_sameToken 7 = .ok (.getfield 19, 3) := by decide +kernel
theorem dn_M_sameToken_10 : decode bn_M_sameToken 10 = .ok (.iload_n 1, 1) := by decide +kernel
theorem dn_M_sameToken_11 : decode bn_M_sameToken 11 = .ok (.iaload, 1) := by decide +kernel
theorem dn_M_sameToken_12 : decode bn_M_sameToken 12 = .ok (.isub, 1) := by decide +kernel
theorem dn_M_sameToken_13 : decode bn_M_sameToken 13 = .ok (.aload_n 0, 1) := by decide +kernel
theorem dn_M_sameToken_14 : decode bn_M_sameToken 14 = .ok (.getfield 22, 3) := by decide +kernel
theorem dn_M_sameToken_17 : decode bn_M_sameToken 17 = .ok (.iload_n 2, 1) := by decide +kernel
theorem dn_M_sameToken_18 : decode bn_M_sameToken 18 = .ok (.iaload, 1) := by decide +kernel
theorem dn_M_sameToken_19 : decode bn_M_sameToken 19 = .ok (.aload_n 0, 1) := by decide +kernel
theorem dn_M_sameToken_20 : decode bn_M_sameToken 20 = .ok (.getfield 19, 3) := by decide +kernel
theorem dn_M_sameToken_23 : decode bn_M_sameToken 23 = .ok (.iload_n 2, 1) := by decide +kernel
theorem dn_M_sameToken_24 : decode bn_M_sameToken 24 = .ok (.iaload, 1) := by decide +kernel
theorem dn_M_sameToken_25 : decode bn_M_sameToken 25 = .ok (.isub, 1) := by decide +kernel
theorem dn_M_sameToken_26 : decode bn_M_sameToken 26 = .ok (.if_icmp .ne 7, 3) := by decide +kernel
theorem dn_M_sameToken_29 : decode bn_M_sameToken 29 = .ok (.iconst 1, 1) := by decide +kernel
theorem dn_M_sameToken_30 : decode bn_M_sameToken 30 = .ok (.goto 4, 3) := by decide +kernel
theorem dn_M_sameToken_33 : decode bn_M_sameToken 33 = .ok (.iconst 0, 1) := by decide +kernel
theorem dn_M_sameToken_34 : decode bn_M_sameToken 34 = .ok (.istore_n 3, 1) := by decide +kernel
theorem dn_M_sameToken_35 : decode bn_M_sameToken 35 = .ok (.iconst 0, 1) := by decide +kernel
theorem dn_M_sameToken_36 : decode bn_M_sameToken 36 = .ok (.istore 4, 2) := by decide +kernel
theorem dn_M_sameToken_38 : decode bn_M_sameToken 38 = .ok (.iload_n 3, 1) := by decide +kernel
theorem dn_M_sameToken_39 : decode bn_M_sameToken 39 = .ok (.ifCond .eq 64, 3) := by decide +kernel
theorem dn_M_sameToken_42 : decode bn_M_sameToken 42 = .ok (.iload 4, 2) := by decide +kernel
theorem dn_M_sameToken_44 : decode bn_M_sameToken 44 = .ok (.aload_n 0, 1) := by decide +kernel
theorem dn_M_sameToken_45 : decode bn_M_sameToken 45 = .ok (.getfield 22, 3) := by decide +kernel
theorem dn_M_sameToken_48 : decode bn_M_sameToken 48 = .ok (.iload_n 1, 1) := by decide +kernel
theorem dn_M_sameToken_49 : decode bn_M_sameToken 49 = .ok (.iaload, 1) := by decide +kernel
theorem dn_M_sameToken_50 : decode bn_M_sameToken 50 = .ok (.aload_n 0, 1) := by decide +kernel
theorem dn_M_sameToken_51 : decode bn_M_sameToken 51 = .ok (.getfield 19, 3) := by decide +kernel
theorem dn_M_sameToken_54 : decode bn_M_sameToken 54 = .ok (.iload_n 1, 1) := by decide +kernel
theorem dn_M_sameToken_55 : decode bn_M_sameToken 55 = .ok (.iaload, 1) := by decide +kernel
theorem dn_M_sameToken_56 : decode bn_M_sameToken 56 = .ok (.isub, 1) := by decide +kernel
theorem dn_M_sameToken_57 : decode bn_M_sameToken 57 = .ok (.if_icmp .ge 46, 3) := by decide +kernel
theorem dn_M_sameToken_60 : decode bn_M_sameToken 60 = .ok (.aload_n 0, 1) := by decide +kernel
theorem dn_M_sameToken_61 : decode bn_M_sameToken 61 = .ok (.getfield 189, 3) := by decide +kernel
theorem dn_M_sameToken_64 : decode bn_M_sameToken 64 = .ok (.aload_n 0, 1) := by decide +kernel
theorem dn_M_sameToken_65 : decode bn_M_sameToken 65 = .ok (.getfield 19, 3) := by decide +kernel
theorem dn_M_sameToken_68 : decode bn_M_sameToken 68 = .ok (.iload_n 1, 1) := by decide +kernel
theorem dn_M_sameToken_69 : decode bn_M_sameToken 69 = .ok (.iaload, 1) := by decide +kernel
theorem dn_M_sameToken_70 : decode bn_M_sameToken 70 = .ok (.iload 4, 2) := by decide +kernel
theorem dn_M_sameToken_72 : decode bn_M_sameToken 72 = .ok (.iadd, 1) := by decide +kernel
theorem dn_M_sameToken_73 : decode bn_M_sameToken 73 = .ok (.baload, 1) := by decide +kernel
theorem dn_M_sameToken_74 : decode bn_M_sameToken 74 = .ok (.aload_n 0, 1) := by decide +kernel
theorem dn_M_sameToken_75 : decode bn_M_sameToken 75 = .ok (.getfield 189, 3) := by decide +kernel
theorem dn_M_sameToken_78 : decode bn_M_sameToken 78 = .ok (.aload_n 0, 1) := by decide +kernel
theorem dn_M_sameToken_79 : decode bn_M_sameToken 79 = .ok (.getfield 19, 3) := by decide +kernel
theorem dn_M_sameToken_82 : decode bn_M_sameToken 82 = .ok (.iload_n 2, 1) := by decide +kernel
theorem dn_M_sameToken_83 : decode bn_M_sameToken 83 = .ok (.iaload, 1) := by decide +kernel
theorem dn_M_sameToken_84 : decode bn_M_sameToken 84 = .ok (.iload 4, 2) := by decide +kernel
theorem dn_M_sameToken_86 : decode bn_M_sameToken 86 = .ok (.iadd, 1) := by decide +kernel
theorem dn_M_sameToken_87 : decode bn_M_sameToken 87 = .ok (.baload, 1) := by decide +kernel
theorem dn_M_sameToken_88 : decode bn_M_sameToken 88 = .ok (.if_icmp .ne 7, 3) := by decide +kernel
theorem dn_M_sameToken_91 : decode bn_M_sameToken 91 = .ok (.iconst 1, 1) := by decide +kernel
theorem dn_M_sameToken_92 : decode bn_M_sameToken 92 = .ok (.goto 4, 3) := by decide +kernel
theorem dn_M_sameToken_95 : decode bn_M_sameToken 95 = .ok (.iconst 0, 1) := by decide +kernel
theorem dn_M_sameToken_96 : decode bn_M_sameToken 96 = .ok (.istore_n 3, 1) := by decide +kernel
theorem dn_M_sameToken_97 : decode bn_M_sameToken 97 = .ok (.iinc 4 1, 3) := by decide +kernel
theorem dn_M_sameToken_100 : decode bn_M_sameToken 100 = .ok (.goto (-62), 3) := by decide +kernel
theorem dn_M_sameToken_103 : decode bn_M_sameToken 103 = .ok (.iload_n 3, 1) := by decide +kernel
theorem dn_M_sameToken_104 : decode bn_M_sameToken 104 = .ok (.ireturn, 1) := by decide +kernel
theorem dn_M_set_0 : decode bn_M_set 0 = .ok (.aload_n 0, 1) := by decide +kernel
theorem dn_M_set_1 : decode bn_M_set 1 = .ok (.aload_n 0, 1) := by decide +kernel
theorem dn_M_set_2 : decode bn_M_set 2 = .ok (.getfield 545, 3) := by decide +kernel
theorem dn_M_set_5 : decode bn_M_set 5 = .ok (.ifCond .ne 7, 3) := by decide +kernel
theorem dn_M_set_8 : decode bn_M_set 8 = .ok (.iconst 1, 1) := by decide +kernel
theorem dn_M_set_9 : decode bn_M_set 9 = .ok (.goto 48, 3) := by decide +kernel
theorem dn_M_set_12 : decode bn_M_set 12 = .ok (.aload_n 0, 1) := by decide +kernel
theorem dn_M_set_13 : decode bn_M_set 13 = .ok (.iload_n 1, 1) := by decide +kernel
theorem dn_M_set_14 : decode bn_M_set 14 = .ok (.invokevirtual 618, 3) := by decide +kernel
theorem dn_M_set_17 : decode bn_M_set 17 = .ok (.ifCond .ne 7, 3) := by decide +kernel
theorem dn_M_set_20 : decode bn_M_set 20 = .ok (.iconst 2, 1) := by decide +kernel
theorem dn_M_set_21 : decode bn_M_set 21 = .ok (.goto 36, 3) := by decide +kernel
theorem dn_M_set_24 : decode bn_M_set 24 = .ok (.aload_n 0, 1) := by decide +kernel
theorem dn_M_set_25 : decode bn_M_set 25 = .ok (.iload_n 1, 1) := by decide +kernel
theorem dn_M_set_26 : decode bn_M_set 26 = .ok (.invokevirtual 621, 3) := by decide +kernel
theorem dn_M_set_29 : decode bn_M_set 29 = .ok (.ifCond .ne 23, 3) := by decide +kernel
theorem dn_M_set_32 : decode bn_M_set 32 = .ok (.iload_n 2, 1) := by decide +kernel
theorem dn_M_set_33 : decode bn_M_set 33 = .ok (.ifCond .lt 19, 3) := by decide +kernel
theorem dn_M_set_36 : decode bn_M_set 36 = .ok (.iload_n 2, 1) := by decide +kernel
theorem dn_M_set_37 : decode bn_M_set 37 = .ok (.aload_n 0, 1) := by decide +kernel
theorem dn_M_set_38 : decode bn_M_set 38 = .ok (.getfield 43, 3) := by decide +kernel
theorem dn_M_set_41 : decode bn_M_set 41 = .ok (.aload_n 0, 1) := by decide +kernel
theorem dn_M_set_42 : decode bn_M_set 42 = .ok (.getfield 143, 3) := by decide +kernel
theorem dn_M_set_45 : decode bn_M_set 45 = .ok (.iload_n 1, 1) := by decide +kernel
theorem dn_M_set_46 : decode bn_M_set 46 = .ok (.iaload, 1) := by decide +kernel
theorem dn_M_set_47 : decode bn_M_set 47 = .ok (.iaload, 1) := by decide +kernel
theorem dn_M_set_48 : decode bn_M_set 48 = .ok (.ishr, 1) := by decide +kernel
theorem dn_M_set_49 : decode bn_M_set 49 = .ok (.ifCond .eq 7, 3) := by decide +kernel
theorem dn_M_set_52 : decode bn_M_set 52 = .ok (.iconst 3, 1) := by decide +kernel
theorem dn_M_set_53 : decode bn_M_set 53 = .ok (.goto 4, 3) := by decide +kernel
theorem dn_M_set_56 : decode bn_M_set 56 = .ok (.iconst 0, 1) := by decide +kernel
theorem dn_M_set_57 : decode bn_M_set 57 = .ok (.putfield 192, 3) := by decide +kernel
theorem dn_M_set_60 : decode bn_M_set 60 = .ok (.aload_n 0, 1) := by decide +kernel
theorem dn_M_set_61 : decode bn_M_set 61 = .ok (.getfield 192, 3) := by decide +kernel
theorem dn_M_set_64 : decode bn_M_set 64 = .ok (.ifCond .ne 23, 3) := by decide +kernel
theorem dn_M_set_67 : decode bn_M_set 67 = .ok (.aload_n 0, 1) := by decide +kernel
theorem dn_M_set_68 : decode bn_M_set 68 = .ok (.getfield 183, 3) := by decide +kernel
theorem dn_M_set_71 : decode bn_M_set 71 = .ok (.iload_n 1, 1) := by decide +kernel
theorem dn_M_set_72 : decode bn_M_set 72 = .ok (.iload_n 2, 1) := by decide +kernel
theorem dn_M_set_73 : decode bn_M_set 73 = .ok (.i2l, 1) := by decide +kernel
theorem dn_M_set_74 : decode bn_M_set 74 = .ok (.lastore, 1) := by decide +kernel
theorem dn_M_set_75 : decode bn_M_set 75 = .ok (.aload_n 0, 1) := by decide +kernel
theorem dn_M_set_76 : decode bn_M_set 76 = .ok (.aload_n 0, 1) := by decide +kernel
theorem dn_M_set_77 : decode bn_M_set 77 = .ok (.getfield 180, 3) := by decide +kernel
theorem dn_M_set_80 : decode bn_M_set 80 = .ok (.aload_n 0, 1) := by decide +kernel
theorem dn_M_set_81 : decode bn_M_set 81 = .ok (.getfield 183, 3) := by decide +kernel
theorem dn_M_set_84 : decode bn_M_set 84 = .ok (.invokevirtual 608, 3) := by decide +kernel
theorem dn_M_set_87 : decode bn_M_set 87 = .ok (.return_, 1) := by decide +kernel
theorem dn_M_setting_0 : decode bn_M_setting 0 = .ok (.aload_n 0, 1) := by decide +kernel
theorem dn_M_setting_1 : decode bn_M_setting 1 = .ok (.aload_n 0, 1) := by decide +kernel
theorem dn_M_setting_2 : decode bn_M_setting 2 = .ok (.getfield 263, 3) := by decide +kernel
theorem dn_M_setting_5 : decode bn_M_setting 5 = .ok (.invokevirtual 400, 3) := by decide +kernel
theorem dn_M_setting_8 : decode bn_M_setting 8 = .ok (.istore_n 1, 1) := by decide +kernel
theorem dn_M_setting_9 : decode bn_M_setting 9 = .ok (.iload_n 1, 1) := by decide +kernel
theorem dn_M_setting_10 : decode bn_M_setting 10 = .ok (.ifCond .lt 11, 3) := by decide +kernel
theorem dn_M_setting_13 : decode bn_M_setting 13 = .ok (.aload_n 0, 1) := by decide +kernel
theorem dn_M_setting_14 : decode bn_M_setting 14 = .ok (.iload_n 1, 1) := by decide +kernel
theorem dn_M_setting_15 : decode bn_M_setting 15 = .ok (.invokevirtual 432, 3) := by decide +kernel
theorem dn_M_setting_18 : decode bn_M_setting 18 = .ok (.ifCond .ne 19, 3) := by decide +kernel
theorem dn_M_setting_21 : decode bn_M_setting 21 = .ok (.aload_n 0, 1) := by decide +kernel
theorem dn_M_setting_22 : decode bn_M_setting 22 = .ok (.bipush 22, 2) := by decide +kernel
theorem dn_M_setting_24 : decode bn_M_setting 24 = .ok (.aload_n 0, 1) := by decide +kernel
theorem dn_M_setting_25 : decode bn_M_setting 25 = .ok (.getfield 19, 3) := by decide +kernel
theorem dn_M_setting_28 : decode bn_M_setting 28 = .ok (.aload_n 0, 1) := by decide +kernel
theorem dn_M_setting_29 : decode bn_M_setting 29 = .ok (.getfield 263, 3) := by decide +kernel
theorem dn_M_setting_32 : decode bn_M_setting 32 = .ok (.iaload, 1) := by decide +kernel
theorem dn_M_setting_33 : decode bn_M_setting 33 = .ok (.invokevirtual 266, 3) := by decide +kernel
theorem dn_M_setting_36 : decode bn_M_setting 36 = .ok (.return_, 1) := by decide +kernel
theorem dn_M_setting_37 : decode bn_M_setting 37 = .ok (.aload_n 0, 1) := by decide +kernel
theorem dn_M_setting_38 : decode bn_M_setting 38 = .ok (.getfield 62, 3) := by decide +kernel
theorem dn_M_setting_41 : decode bn_M_setting 41 = .ok (.iload_n 1, 1) := by decide +kernel
theorem dn_M_setting_42 : decode bn_M_setting 42 = .ok (.iaload, 1) := by decide +kernel
theorem dn_M_setting_43 : decode bn_M_setting 43 = .ok (.ifCond .eq 33, 3) := by decide +kernel
theorem dn_M_setting_46 : decode bn_M_setting 46 = .ok (.aload_n 0, 1) := by decide +kernel
theorem dn_M_setting_47 : decode bn_M_setting 47 = .ok (.getfield 62, 3) := by decide +kernel
theorem dn_M_setting_50 : decode bn_M_setting 50 = .ok (.iload_n 1, 1) := by decide +kernel
theorem dn_M_setting_51 : decode bn_M_setting 51 = .ok (.iaload, 1) := by decide +kernel
theorem dn_M_setting_52 : decode bn_M_setting 52 = .ok (.aload_n 0, 1) := by decide +kernel
theorem dn_M_setting_53 : decode bn_M_setting 53 = .ok (.getfield 435, 3) := by decide +kernel
theorem dn_M_setting_56 : decode bn_M_setting 56 = .ok (.iconst 1, 1) := by decide +kernel
theorem dn_M_setting_57 : decode bn_M_setting 57 = .ok (.iadd, 1) := by decide +kernel
theorem dn_M_setting_58 : decode bn_M_setting 58 = .ok (.if_icmp .eq 18, 3) := by decide +kernel
theorem dn_M_setting_61 : decode bn_M_setting 61 = .ok (.aload_n 0, 1) := by decide +kernel
theorem dn_M_setting_62 : decode bn_M_setting 62 = .ok (.bipush 32, 2) := by decide +kernel
theorem dn_M_setting_64 : decode bn_M_setting 64 = .ok (.aload_n 0, 1) := by decide +kernel
theorem dn_M_setting_65 : decode bn_M_setting 65 = .ok (.getfield 19, 3) := by decide +kernel
theorem dn_M_setting_68 : decode bn_M_setting 68 = .ok (.aload_n 0, 1) := by decide +kernel
theorem dn_M_setting_69 : decode bn_M_setting 69 = .ok (.getfield 263, 3) := by decide +kernel
theorem dn_M_setting_72 : decode bn_M_setting 72 = .ok (.iaload, 1) := by decide +kernel
theorem dn_M_setting_73 : decode bn_M_setting 73 = .ok (.invokevirtual 266, 3) := by decide +kernel
theorem dn_M_setting_76 : decode bn_M_setting 76 = .ok (.aload_n 0, 1) := by decide +kernel
theorem dn_M_setting_77 : decode bn_M_setting 77 = .ok (.getfield 62, 3) := by decide +kernel
theorem dn_M_setting_80 : decode bn_M_setting 80 = .ok (.iload_n 1, 1) := by decide +kernel
theorem dn_M_setting_81 : decode bn_M_setting 81 = .ok (.aload_n 0, 1) := by decide +kernel
theorem dn_M_setting_82 : decode bn_M_setting 82 = .ok (.getfield 435, 3) := by decide +kernel
theorem dn_M_setting_85 : decode bn_M_setting 85 = .ok (.iconst 1, 1) := by decide +kernel
theorem dn_M_setting_86 : decode bn_M_setting 86 = .ok (.iadd, 1) := by decide +kernel
theorem dn_M_setting_87 : decode bn_M_setting 87 = .ok (.iastore, 1) := by decide +kernel
theorem dn_M_setting_88 : decode bn_M_setting 88 = .ok (.aload_n 0, 1) := by decide +kernel
theorem dn_M_setting_89 : decode bn_M_setting 89 = .ok (.dup, 1) := by decide +kernel
theorem dn_M_setting_90 : decode bn_M_setting 90 = .ok (.getfield 263, 3) := by decide +kernel
theorem dn_M_setting_93 : decode bn_M_setting 93 = .ok (.iconst 1, 1) := by decide +kernel
theorem dn_M_setting_94 : decode bn_M_setting 94 = .ok (.iadd, 1) := by decide +kernel
theorem dn_M_setting_95 : decode bn_M_setting 95 = .ok (.putfield 263, 3) := by decide +kernel
theorem dn_M_setting_98 : decode bn_M_setting 98 = .ok (.sipush 256, 3) := by decide +kernel
theorem dn_M_setting_101 : decode bn_M_setting 101 = .ok (.aload_n 0, 1) := by decide +kernel
theorem dn_M_setting_102 : decode bn_M_setting 102 = .ok (.getfield 43, 3) := by decide +kernel
theorem dn_M_setting_105 : decode bn_M_setting 105 = .ok (.iload_n 1, 1) := by decide +kernel
theorem dn_M_setting_106 : decode bn_M_setting 106 = .ok (.iaload, 1) := by decide +kernel
theorem dn_M_setting_107 : decode bn_M_setting 107 = .ok (.iconst 1, 1) := by decide +kernel
theorem dn_M_setting_108 : decode bn_M_setting 108 = .ok (.isub, 1) := by decide +kernel
theorem dn_M_setting_109 : decode bn_M_setting 109 = .ok (.imul, 1) := by decide +kernel
theorem dn_M_setting_110 : decode bn_M_setting 110 = .ok (.istore_n 2, 1) := by decide +kernel
theorem dn_M_setting_111 : decode bn_M_setting 111 = .ok (.aload_n 0, 1) := by decide +kernel
theorem dn_M_setting_112 : decode bn_M_setting 112 = .ok (.invokevirtual 286, 3) := by decide +kernel
theorem dn_M_setting_115 : decode bn_M_setting 115 = .ok (.bipush 91, 2) := by decide +kernel
theorem dn_M_setting_117 : decode bn_M_setting 117 = .ok (.if_icmp .ne 9, 3) := by decide +kernel
theorem dn_M_setting_120 : decode bn_M_setting 120 = .ok (.aload_n 0, 1) := by decide +kernel
theorem dn_M_setting_121 : decode bn_M_setting 121 = .ok (.iload_n 1, 1) := by decide +kernel
theorem dn_M_setting_122 : decode bn_M_setting 122 = .ok (.invokevirtual 403, 3) := by decide +kernel
theorem dn_M_setting_125 : decode bn_M_setting 125 = .ok (.istore_n 2, 1) := by decide +kernel
theorem dn_M_setting_126 : decode bn_M_setting 126 = .ok (.aload_n 0, 1) := by decide +kernel
theorem dn_M_setting_127 : decode bn_M_setting 127 = .ok (.getfield 19, 3) := by decide +kernel
theorem dn_M_setting_130 : decode bn_M_setting 130 = .ok (.aload_n 0, 1) := by decide +kernel
theorem dn_M_setting_131 : decode bn_M_setting 131 = .ok (.getfield 263, 3) := by decide +kernel
theorem dn_M_setting_134 : decode bn_M_setting 134 = .ok (.iaload, 1) := by decide +kernel
theorem dn_M_setting_135 : decode bn_M_setting 135 = .ok (.istore_n 3, 1) := by decide +kernel
theorem dn_M_setting_136 : decode bn_M_setting 136 = .ok (.aload_n 0, 1) := by decide +kernel
theorem dn_M_setting_137 : decode bn_M_setting 137 = .ok (.dup, 1) := by decide +kernel
theorem dn_M_setting_138 : decode bn_M_setting 138 = .ok (.getfield 263, 3) := by decide +kernel
theorem dn_M_setting_141 : decode bn_M_setting 141 = .ok (.iconst 1, 1) := by decide +kernel
theorem dn_M_setting_142 : decode bn_M_setting 142 = .ok (.iadd, 1) := by decide +kernel
theorem dn_M_setting_143 : decode bn_M_setting 143 = .ok (.putfield 263, 3) := by decide +kernel
theorem dn_M_setting_146 : decode bn_M_setting 146 = .ok (.aload_n 0, 1) := by decide +kernel
theorem dn_M_setting_147 : decode bn_M_setting 147 = .ok (.invokevirtual 358, 3) := by decide +kernel
theorem dn_M_setting_150 : decode bn_M_setting 150 = .ok (.istore 4, 2) := by decide +kernel
theorem dn_M_setting_152 : decode bn_M_setting 152 = .ok (.iload_n 2, 1) := by decide +kernel
theorem dn_M_setting_153 : decode bn_M_setting 153 = .ok (.sipush 256, 3) := by decide +kernel
theorem dn_M_setting_156 : decode bn_M_setting 156 = .ok (.idiv, 1) := by decide +kernel
theorem dn_M_setting_157 : decode bn_M_setting 157 = .ok (.iload_n 2, 1) := by decide +kernel
theorem dn_M_setting_158 : decode bn_M_setting 158 = .ok (.sipush 256, 3) := by decide +kernel
theorem dn_M_setting_161 : decode bn_M_setting 161 = .ok (.irem, 1) := by decide +kernel
theorem dn_M_setting_162 : decode bn_M_setting 162 = .ok (.isub, 1) := by decide +kernel
theorem dn_M_setting_163 : decode bn_M_setting 163 = .ok (.iconst 1, 1) := by decide +kernel
theorem dn_M_setting_164 : decode bn_M_setting 164 = .ok (.iadd, 1) := by decide +kernel
theorem dn_M_setting_165 : decode bn_M_setting 165 = .ok (.istore 5, 2) := by decide +kernel
theorem dn_M_setting_167 : decode bn_M_setting 167 = .ok (.aload_n 0, 1) := by decide +kernel
theorem dn_M_setting_168 : decode bn_M_setting 168 = .ok (.getfield 257, 3) := by decide +kernel
theorem dn_M_setting_171 : decode bn_M_setting 171 = .ok (.ifCond .ne 17, 3) := by decide +kernel
theorem dn_M_setting_174 : decode bn_M_setting 174 = .ok (.iload 4, 2) := by decide +kernel
theorem dn_M_setting_176 : decode bn_M_setting 176 = .ok (.iload 5, 2) := by decide +kernel
theorem dn_M_setting_178 : decode bn_M_setting 178 = .ok (.if_icmp .eq 10, 3) := by decide +kernel
theorem dn_M_setting_181 : decode bn_M_setting 181 = .ok (.aload_n 0, 1) := by decide +kernel
theorem dn_M_setting_182 : decode bn_M_setting 182 = .ok (.bipush 30, 2) := by decide +kernel
theorem dn_M_setting_184 : decode bn_M_setting 184 = .ok (.iload_n 3, 1) := by decide +kernel
theorem dn_M_setting_185 : decode bn_M_setting 185 = .ok (.invokevirtual 266, 3) := by decide +kernel
theorem dn_M_setting_188 : decode bn_M_setting 188 = .ok (.aload_n 0, 1) := by decide +kernel
theorem dn_M_setting_189 : decode bn_M_setting 189 = .ok (.iload 5, 2) := by decide +kernel
theorem dn_M_setting_191 : decode bn_M_setting 191 = .ok (.i2l, 1) := by decide +kernel
theorem dn_M_setting_192 : decode bn_M_setting 192 = .ok (.invokevirtual 361, 3) := by decide +kernel
theorem dn_M_setting_195 : decode bn_M_setting 195 = .ok (.aload_n 0, 1) := by decide +kernel
theorem dn_M_setting_196 : decode bn_M_setting 196 = .ok (.bipush 9, 2) := by decide +kernel
theorem dn_M_setting_198 : decode bn_M_setting 198 = .ok (.iload_n 1, 1) := by decide +kernel
theorem dn_M_setting_199 : decode bn_M_setting 199 = .ok (.iload_n 2, 1) := by decide +kernel
theorem dn_M_setting_200 : decode bn_M_setting 200 = .ok (.invokevirtual 365, 3) := by decide +kernel
theorem dn_M_setting_203 : decode bn_M_setting 203 = .ok (.aload_n 0, 1) := by decide +kernel
theorem dn_M_setting_204 : decode bn_M_setting 204 = .ok (.dup, 1) := by decide +kernel
theorem dn_M_setting_205 : decode bn_M_setting 205 = .ok (.getfield 263, 3) := by decide +kernel
theorem dn_M_setting_208 : decode bn_M_setting 208 = .ok (.iconst 1, 1) := by decide +kernel
theorem dn_M_setting_209 : decode bn_M_setting 209 = .ok (.iadd, 1) := by decide +kernel
theorem dn_M_setting_210 : decode bn_M_setting 210 = .ok (.putfield 263, 3) := by decide +kernel
theorem dn_M_setting_213 : decode bn_M_setting 213 = .ok (.return_, 1) := by decide +kernel
theorem dn_M_settle_0 : decode bn_M_settle 0 = .ok (.iconst 0, 1) := by decide +kernel
theorem dn_M_settle_1 : decode bn_M_settle 1 = .ok (.istore_n 3, 1) := by decide +kernel
theorem dn_M_settle_2 : decode bn_M_settle 2 = .ok (.iload_n 3, 1) := by decide +kernel
theorem dn_M_settle_3 : decode bn_M_settle 3 = .ok (.aload_n 0, 1) := by decide +kernel
theorem dn_M_settle_4 : decode bn_M_settle 4 = .ok (.getfield 497, 3) := by decide +kernel
theorem dn_M_settle_7 : decode bn_M_settle 7 = .ok (.if_icmp .ge 47, 3) := by decide +kernel
theorem dn_M_settle_10 : decode bn_M_settle 10 = .ok (.aload_n 0, 1) := by decide +kernel
theorem dn_M_settle_11 : decode bn_M_settle 11 = .ok (.getfield 149, 3) := by decide +kernel
theorem dn_M_settle_14 : decode bn_M_settle 14 = .ok (.iload_n 3, 1) := by decide +kernel
theorem dn_M_settle_15 : decode bn_M_settle 15 = .ok (.iaload, 1) := by decide +kernel
theorem dn_M_settle_16 : decode bn_M_settle 16 = .ok (.ifCond .ne 32, 3) := by decide +kernel
theorem dn_M_settle_19 : decode bn_M_settle 19 = .ok (.aload_n 0, 1) := by decide +kernel
theorem dn_M_settle_20 : decode bn_M_settle 20 = .ok (.getfield 174, 3) := by decide +kernel
theorem dn_M_settle_23 : decode bn_M_settle 23 = .ok (.iload_n 3, 1) := by decide +kernel
theorem dn_M_settle_24 : decode bn_M_settle 24 = .ok (.aload_n 0, 1) := by decide +kernel
theorem dn_M_settle_25 : decode bn_M_settle 25 = .ok (.getfield 46, 3) := by decide +kernel
theorem dn_M_settle_28 : decode bn_M_settle 28 = .ok (.aload_n 0, 1) := by decide +kernel
theorem dn_M_settle_29 : decode bn_M_settle 29 = .ok (.getfield 143, 3) := by decide +kernel
theorem dn_M_settle_32 : decode bn_M_settle 32 = .ok (.iload_n 3, 1) := by decide +kernel
theorem dn_M_settle_33 : decode bn_M_settle 33 = .ok (.iaload, 1) := by decide +kernel
theorem dn_M_settle_34 : decode bn_M_settle 34 = .ok (.iaload, 1) := by decide +kernel
theorem dn_M_settle_35 : decode bn_M_settle 35 = .ok (.ifCond .ne 9, 3) := by decide +kernel
theorem dn_M_settle_38 : decode bn_M_settle 38 = .ok (.aload_n 2, 1) := by decide +kernel
theorem dn_M_settle_39 : decode bn_M_settle 39 = .ok (.iload_n 3, 1) := by decide +kernel
theorem dn_M_settle_40 : decode bn_M_settle 40 = .ok (.laload, 1) := by decide +kernel
theorem dn_M_settle_41 : decode bn_M_settle 41 = .ok (.goto 6, 3) := by decide +kernel
theorem dn_M_settle_44 : decode bn_M_settle 44 = .ok (.aload_n 1, 1) := by decide +kernel
theorem dn_M_settle_45 : decode bn_M_settle 45 = .ok (.iload_n 3, 1) := by decide +kernel
theorem dn_M_settle_46 : decode bn_M_settle 46 = .ok (.laload, 1) := by decide +kernel
theorem dn_M_settle_47 : decode bn_M_settle 47 = .ok (.lastore, 1) := by decide +kernel
theorem dn_M_settle_48 : decode bn_M_settle 48 = .ok (.iinc 3 1, 3) := by decide +kernel
theorem dn_M_settle_51 : decode bn_M_settle 51 = .ok (.goto (-49), 3) := by decide +kernel
theorem dn_M_settle_54 : decode bn_M_settle 54 = .ok (.iconst 0, 1) := by decide +kernel
theorem dn_M_settle_55 : decode bn_M_settle 55 = .ok (.istore_n 3, 1) := by decide +kernel
theorem dn_M_settle_56 : decode bn_M_settle 56 = .ok (.iload_n 3, 1) := by decide +kernel
theorem dn_M_settle_57 : decode bn_M_settle 57 = .ok (.aload_n 0, 1) := by decide +kernel
theorem dn_M_settle_58 : decode bn_M_settle 58 = .ok (.getfield 509, 3) := by decide +kernel
theorem dn_M_settle_61 : decode bn_M_settle 61 = .ok (.if_icmp .ge 86, 3) := by decide +kernel
theorem dn_M_settle_64 : decode bn_M_settle 64 = .ok (.aload_n 0, 1) := by decide +kernel
theorem dn_M_settle_65 : decode bn_M_settle 65 = .ok (.getfield 161, 3) := by decide +kernel
theorem dn_M_settle_68 : decode bn_M_settle 68 = .ok (.iload_n 3, 1) := by decide +kernel
theorem dn_M_settle_69 : decode bn_M_settle 69 = .ok (.iaload, 1) := by decide +kernel
theorem dn_M_settle_70 : decode bn_M_settle 70 = .ok (.istore 4, 2) := by decide +kernel
theorem dn_M_settle_72 : decode bn_M_settle 72 = .ok (.aload_n 0, 1) := by decide +kernel
theorem dn_M_settle_73 : decode bn_M_settle 73 = .ok (.getfield 149, 3) := by decide +kernel
theorem dn_M_settle_76 : decode bn_M_settle 76 = .ok (.iload 4, 2) := by decide +kernel
theorem dn_M_settle_78 : decode bn_M_settle 78 = .ok (.iaload, 1) := by decide +kernel
theorem dn_M_settle_79 : decode bn_M_settle 79 = .ok (.iconst 2, 1) := by decide +kernel
theorem dn_M_settle_80 : decode bn_M_settle 80 = .ok (.if_icmp .ne 25, 3) := by decide +kernel
theorem dn_M_settle_83 : decode bn_M_settle 83 = .ok (.aload_n 0, 1) := by decide +kernel
theorem dn_M_settle_84 : decode bn_M_settle 84 = .ok (.getfield 174, 3) := by decide +kernel
theorem dn_M_settle_87 : decode bn_M_settle 87 = .ok (.iload 4, 2) := by decide +kernel
theorem dn_M_settle_89 : decode bn_M_settle 89 = .ok (.aload_n 0, 1) := by decide +kernel
theorem dn_M_settle_90 : decode bn_M_settle 90 = .ok (.getfield 174, 3) := by decide +kernel
theorem dn_M_settle_93 : decode bn_M_settle 93 = .ok (.aload_n 0, 1) := by decide +kernel
theorem dn_M_settle_94 : decode bn_M_settle 94 = .ok (.getfield 152, 3) := by decide +kernel
theorem dn_M_settle_97 : decode bn_M_settle 97 = .ok (.iload 4, 2) := by decide +kernel
theorem dn_M_settle_99 : decode bn_M_settle 99 = .ok (.iaload, 1) := by decide +kernel
theorem dn_M_settle_100 : decode bn_M_settle 100 = .ok (.laload, 1) := by decide +kernel
theorem dn_M_settle_101 : decode bn_M_settle 101 = .ok (.lastore, 1) := by decide +kernel
theorem dn_M_settle_102 : decode bn_M_settle 102 = .ok (.goto 39, 3) := by decide +kernel
theorem dn_M_settle_105 : decode bn_M_settle 105 = .ok (.aload_n 0, 1) := by decide +kernel
theorem dn_M_settle_106 : decode bn_M_settle 106 = .ok (.aload_n 0, 1) := by decide +kernel
theorem dn_M_settle_107 : decode bn_M_settle 107 = .ok (.getfield 152, 3) := by decide +kernel
theorem dn_M_settle_110 : decode bn_M_settle 110 = .ok (.iload 4, 2) := by decide +kernel
theorem dn_M_settle_112 : decode bn_M_settle 112 = .ok (.iaload, 1) := by decide +kernel
theorem dn_M_settle_113 : decode bn_M_settle 113 = .ok (.aload_n 0, 1) := by decide +kernel
theorem dn_M_settle_114 : decode bn_M_settle 114 = .ok (.getfield 155, 3) := by decide +kernel
theorem dn_M_settle_117 : decode bn_M_settle 117 = .ok (.iload 4, 2) := by decide +kernel
theorem dn_M_settle_119 : decode bn_M_settle 119 = .ok (.iaload, 1) := by decide +kernel
theorem dn_M_settle_120 : decode bn_M_settle 120 = .ok (.aload_n 0, 1) := by decide +kernel
theorem dn_M_settle_121 : decode bn_M_settle 121 = .ok (.getfield 158, 3) := by decide +kernel
theorem dn_M_settle_124 : decode bn_M_settle 124 = .ok (.iload 4, 2) := by decide +kernel
theorem dn_M_settle_126 : decode bn_M_settle 126 = .ok (.iaload, 1) := by decide +kernel
theorem dn_M_settle_127 : decode bn_M_settle 127 = .ok (.invokevirtual 602, 3) := by decide +kernel
theorem dn_M_settle_130 : decode bn_M_settle 130 = .ok (.aload_n 0, 1) := by decide +kernel
theorem dn_M_settle_131 : decode bn_M_settle 131 = .ok (.getfield 174, 3) := by decide +kernel
theorem dn_M_settle_134 : decode bn_M_settle 134 = .ok (.iload 4, 2) := by decide +kernel
theorem dn_M_settle_136 : decode bn_M_settle 136 = .ok (.aload_n 0, 1) := by decide +kernel
theorem dn_M_settle_137 : decode bn_M_settle 137 = .ok (.invokevirtual 590, 3) := by decide +kernel
theorem dn_M_settle_140 : decode bn_M_settle 140 = .ok (.lastore, 1) := by decide +kernel
theorem dn_M_settle_141 : decode bn_M_settle 141 = .ok (.iinc 3 1, 3) := by decide +kernel
theorem dn_M_settle_144 : decode bn_M_settle 144 = .ok (.goto (-88), 3) := by decide +kernel
theorem dn_M_settle_147 : decode bn_M_settle 147 = .ok (.return_, 1) := by decide +kernel
theorem dn_M_shut_0 : decode bn_M_shut 0 = .ok (.aload_n 0, 1) := by decide +kernel
theorem dn_M_shut_1 : decode bn_M_shut 1 = .ok (.iload_n 1, 1) := by decide +kernel
theorem dn_M_shut_2 : decode bn_M_shut 2 = .ok (.invokevirtual 279, 3) := by decide +kernel
theorem dn_M_shut_5 : decode bn_M_shut 5 = .ok (.aload_n 0, 1) := by decide +kernel
theorem dn_M_shut_6 : decode bn_M_shut 6 = .ok (.dup, 1) := by decide +kernel
theorem dn_M_shut_7 : decode bn_M_shut 7 = .ok (.getfield 276, 3) := by decide +kernel
theorem dn_M_shut_10 : decode bn_M_shut 10 = .ok (.iconst 1, 1) := by decide +kernel
theorem dn_M_shut_11 : decode bn_M_shut 11 = .ok (.isub, 1) := by decide +kernel
theorem dn_M_shut_12 : decode bn_M_shut 12 = .ok (.putfield 276, 3) := by decide +kernel
theorem dn_M_shut_15 : decode bn_M_shut 15 = .ok (.return_, 1) := by decide +kernel
theorem dn_M_signal_0 : decode bn_M_signal 0 = .ok (.aload_n 0, 1) := by decide +kernel
theorem dn_M_signal_1 : decode bn_M_signal 1 = .ok (.aload_n 0, 1) := by decide +kernel
theorem dn_M_signal_2 : decode bn_M_signal 2 = .ok (.getfield 545, 3) := by decide +kernel
theorem dn_M_signal_5 : decode bn_M_signal 5 = .ok (.ifCond .ne 7, 3) := by decide +kernel
theorem dn_M_signal_8 : decode bn_M_signal 8 = .ok (.iconst 1, 1) := by decide +kernel
theorem dn_M_signal_9 : decode bn_M_signal 9 = .ok (.goto 29, 3) := by decide +kernel
theorem dn_M_signal_12 : decode bn_M_signal 12 = .ok (.aload_n 0, 1) := by decide +kernel
theorem dn_M_signal_13 : decode bn_M_signal 13 = .ok (.iload_n 1, 1) := by decide +kernel
theorem dn_M_signal_14 : decode bn_M_signal 14 = .ok (.invokevirtual 618, 3) := by decide +kernel
theorem dn_M_signal_17 : decode bn_M_signal 17 = .ok (.ifCond .ne 7, 3) := by decide +kernel
theorem dn_M_signal_20 : decode bn_M_signal 20 = .ok (.iconst 2, 1) := by decide +kernel
theorem dn_M_signal_21 : decode bn_M_signal 21 = .ok (.goto 17, 3) := by decide +kernel
theorem dn_M_signal_24 : decode bn_M_signal 24 = .ok (.iload_n 2, 1) := by decide +kernel
theorem dn_M_signal_25 : decode bn_M_signal 25 = .ok (.ifCond .lt 8, 3) := by decide +kernel
theorem dn_M_signal_28 : decode bn_M_signal 28 = .ok (.iload_n 2, 1) := by decide +kernel
theorem dn_M_signal_29 : decode bn_M_signal 29 = .ok (.iconst 2, 1) := by decide +kernel
theorem dn_M_signal_30 : decode bn_M_signal 30 = .ok (.if_icmp .le 7, 3) := by decide +kernel
theorem dn_M_signal_33 : decode bn_M_signal 33 = .ok (.iconst 3, 1) := by decide +kernel
theorem dn_M_signal_34 : decode bn_M_signal 34 = .ok (.goto 4, 3) := by decide +kernel
theorem dn_M_signal_37 : decode bn_M_signal 37 = .ok (.iconst 0, 1) := by decide +kernel
theorem dn_M_signal_38 : decode bn_M_signal 38 = .ok (.putfield 192, 3) := by decide +kernel
theorem dn_M_signal_41 : decode bn_M_signal 41 = .ok (.aload_n 0, 1) := by decide +kernel
theorem dn_M_signal_42 : decode bn_M_signal 42 = .ok (.getfield 192, 3) := by decide +kernel
theorem dn_M_signal_45 : decode bn_M_signal 45 = .ok (.ifCond .le 5, 3) := by decide +kernel
theorem dn_M_signal_48 : decode bn_M_signal 48 = .ok (.iconst 0, 1) := by decide +kernel
theorem dn_M_signal_49 : decode bn_M_signal 49 = .ok (.ireturn, 1) := by decide +kernel
theorem dn_M_signal_50 : decode bn_M_signal 50 = .ok (.iload_n 2, 1) := by decide +kernel
theorem dn_M_signal_51 : decode bn_M_signal 51 = .ok (.ifCond .ne 17, 3) := by decide +kernel
theorem dn_M_signal_54 : decode bn_M_signal 54 = .ok (.aload_n 0, 1) := by decide +kernel
theorem dn_M_signal_55 : decode bn_M_signal 55 = .ok (.getfield 43, 3) := by decide +kernel
theorem dn_M_signal_58 : decode bn_M_signal 58 = .ok (.aload_n 0, 1) := by decide +kernel
theorem dn_M_signal_59 : decode bn_M_signal 59 = .ok (.getfield 143, 3) := by decide +kernel
theorem dn_M_signal_62 : decode bn_M_signal 62 = .ok (.iload_n 1, 1) := by decide +kernel
theorem dn_M_signal_63 : decode bn_M_signal 63 = .ok (.iaload, 1) := by decide +kernel
theorem dn_M_signal_64 : decode bn_M_signal 64 = .ok (.iaload, 1) := by decide +kernel
theorem dn_M_signal_65 : decode bn_M_signal 65 = .ok (.goto 32, 3) := by decide +kernel
theorem dn_M_signal_68 : decode bn_M_signal 68 = .ok (.iload_n 2, 1) := by decide +kernel
theorem dn_M_signal_69 : decode bn_M_signal 69 = .ok (.iconst 1, 1) := by decide +kernel
theorem dn_M_signal_70 : decode bn_M_signal 70 = .ok (.if_icmp .ne 11, 3) := by decide +kernel
theorem dn_M_signal_73 : decode bn_M_signal 73 = .ok (.aload_n 0, 1) := by decide +kernel
theorem dn_M_signal_74 : decode bn_M_signal 74 = .ok (.iload_n 1, 1) := by decide +kernel
theorem dn_M_signal_75 : decode bn_M_signal 75 = .ok (.invokevirtual 621, 3) := by decide +kernel
theorem dn_M_signal_78 : decode bn_M_signal 78 = .ok (.goto 19, 3) := by decide +kernel
theorem dn_M_signal_81 : decode bn_M_signal 81 = .ok (.aload_n 0, 1) := by decide +kernel
theorem dn_M_signal_82 : decode bn_M_signal 82 = .ok (.getfield 19, 3) := by decide +kernel
theorem dn_M_signal_85 : decode bn_M_signal 85 = .ok (.aload_n 0, 1) := by decide +kernel
theorem dn_M_signal_86 : decode bn_M_signal 86 = .ok (.getfield 40, 3) := by decide +kernel
theorem dn_M_signal_89 : decode bn_M_signal 89 = .ok (.aload_n 0, 1) := by decide +kernel
theorem dn_M_signal_90 : decode bn_M_signal 90 = .ok (.getfield 143, 3) := by decide +kernel
theorem dn_M_signal_93 : decode bn_M_signal 93 = .ok (.iload_n 1, 1) := by decide +kernel
theorem dn_M_signal_94 : decode bn_M_signal 94 = .ok (.iaload, 1) := by decide +kernel
theorem dn_M_signal_95 : decode bn_M_signal 95 = .ok (.iaload, 1) := by decide +kernel
theorem dn_M_signal_96 : decode bn_M_signal 96 = .ok (.iaload, 1) := by decide +kernel
theorem dn_M_signal_97 : decode bn_M_signal 97 = .ok (.ireturn, 1) := by decide +kernel
theorem dn_M_signalNamed_0 : decode bn_M_signalNamed 0 = .ok (.iload_n 2, 1) := by decide +kernel
theorem dn_M_signalNamed_1 : decode bn_M_signalNamed 1 = .ok (.istore 4, 2) := by decide +kernel
theorem dn_M_signalNamed_3 : decode bn_M_signalNamed 3 = .ok (.iload 4, 2) := by decide +kernel
theorem dn_M_signalNamed_5 : decode bn_M_signalNamed 5 = .ok (.iload_n 3, 1) := by decide +kernel
theorem dn_M_signalNamed_6 : decode bn_M_signalNamed 6 = .ok (.if_icmp .ge 27, 3) := by decide +kernel
theorem dn_M_signalNamed_9 : decode bn_M_signalNamed 9 = .ok (.aload_n 0, 1) := by decide +kernel
theorem dn_M_signalNamed_10 : decode bn_M_signalNamed 10 = .ok (.aload_n 0, 1) := by decide +kernel
theorem dn_M_signalNamed_11 : decode bn_M_signalNamed 11 = .ok (.getfield 40, 3) := by decide +kernel
theorem dn_M_signalNamed_14 : decode bn_M_signalNamed 14 = .ok (.iload 4, 2) := by decide +kernel
theorem dn_M_signalNamed_16 : decode bn_M_signalNamed 16 = .ok (.iaload, 1) := by decide +kernel
theorem dn_M_signalNamed_17 : decode bn_M_signalNamed 17 = .ok (.iload_n 1, 1) := by decide +kernel
theorem dn_M_signalNamed_18 : decode bn_M_signalNamed 18 = .ok (.invokevirtual 332, 3) := by decide +kernel
theorem dn_M_signalNamed_21 : decode bn_M_signalNamed 21 = .ok (.ifCond .eq 6, 3) := by decide +kernel
theorem dn_M_signalNamed_24 : decode bn_M_signalNamed 24 = .ok (.iload 4, 2) := by decide +kernel
theorem dn_M_signalNamed_26 : decode bn_M_signalNamed 26 = .ok (.ireturn, 1) := by decide +kernel
theorem dn_M_signalNamed_27 : decode bn_M_signalNamed 27 = .ok (.iinc 4 1, 3) := by decide +kernel
theorem dn_M_signalNamed_30 : decode bn_M_signalNamed 30 = .ok (.goto (-27), 3) := by decide +kernel
theorem dn_M_signalNamed_33 : decode bn_M_signalNamed 33 = .ok (.iconst (-1), 1) := by decide +kernel
theorem dn_M_signalNamed_34 : decode bn_M_signalNamed 34 = .ok (.ireturn, 1) := by decide +kernel
theorem dn_M_signalOf_0 : decode bn_M_signalOf 0 = .ok (.aload_n 0, 1) := by decide +kernel
theorem dn_M_signalOf_1 : decode bn_M_signalOf 1 = .ok (.getfield 128, 3) := by decide +kernel
theorem dn_M_signalOf_4 : decode bn_M_signalOf 4 = .ok (.iload_n 1, 1) := by decide +kernel
theorem dn_M_signalOf_5 : decode bn_M_signalOf 5 = .ok (.iaload, 1) := by decide +kernel
theorem dn_M_signalOf_6 : decode bn_M_signalOf 6 = .ok (.iload_n 2, 1) := by decide +kernel
theorem dn_M_signalOf_7 : decode bn_M_signalOf 7 = .ok (.iadd, 1) := by decide +kernel
theorem dn_M_signalOf_8 : decode bn_M_signalOf 8 = .ok (.aload_n 0, 1) := by decide +kernel
theorem dn_M_signalOf_9 : decode bn_M_signalOf 9 = .ok (.getfield 28, 3) := by decide +kernel
theorem dn_M_signalOf_12 : decode bn_M_signalOf 12 = .ok (.aload_n 0, 1) := by decide +kernel
theorem dn_M_signalOf_13 : decode bn_M_signalOf 13 = .ok (.getfield 125, 3) := by decide +kernel
theorem dn_M_signalOf_16 : decode bn_M_signalOf 16 = .ok (.iload_n 1, 1) := by decide +kernel
theorem dn_M_signalOf_17 : decode bn_M_signalOf 17 = .ok (.iaload, 1) := by decide +kernel
theorem dn_M_signalOf_18 : decode bn_M_signalOf 18 = .ok (.iaload, 1) := by decide +kernel
theorem dn_M_signalOf_19 : decode bn_M_signalOf 19 = .ok (.isub, 1) := by decide +kernel
theorem dn_M_signalOf_20 : decode bn_M_signalOf 20 = .ok (.ireturn, 1) := by decide +kernel
theorem dn_M_skip_0 : decode bn_M_skip 0 = .ok (.iload_n 1, 1) := by decide +kernel
theorem dn_M_skip_1 : decode bn_M_skip 1 = .ok (.istore_n 2, 1) := by decide +kernel
theorem dn_M_skip_2 : decode bn_M_skip 2 = .ok (.aload_n 0, 1) := by decide +kernel
theorem dn_M_skip_3 : decode bn_M_skip 3 = .ok (.iload_n 2, 1) := by decide +kernel
theorem dn_M_skip_4 : decode bn_M_skip 4 = .ok (.invokevirtual 206, 3) := by decide +kernel
theorem dn_M_skip_7 : decode bn_M_skip 7 = .ok (.istore_n 3, 1) := by decide +kernel
theorem dn_M_skip_8 : decode bn_M_skip 8 = .ok (.iload_n 3, 1) := by decide +kernel
theorem dn_M_skip_9 : decode bn_M_skip 9 = .ok (.bipush 9, 2) := by decide +kernel
theorem dn_M_skip_11 : decode bn_M_skip 11 = .ok (.if_icmp .eq 21, 3) := by decide +kernel
theorem dn_M_skip_14 : decode bn_M_skip 14 = .ok (.iload_n 3, 1) := by decide +kernel
theorem dn_M_skip_15 : decode bn_M_skip 15 = .ok (.bipush 10, 2) := by decide +kernel
theorem dn_M_skip_17 : decode bn_M_skip 17 = .ok (.if_icmp .eq 15, 3) := by decide +kernel
theorem dn_M_skip_20 : decode bn_M_skip 20 = .ok (.iload_n 3, 1) := by decide +kernel
theorem dn_M_skip_21 : decode bn_M_skip 21 = .ok (.bipush 13, 2) := by decide +kernel
theorem dn_M_skip_23 : decode bn_M_skip 23 = .ok (.if_icmp .eq 9, 3) := by decide +kernel
theorem dn_M_skip_26 : decode bn_M_skip 26 = .ok (.iload_n 3, 1) := by decide +kernel
theorem dn_M_skip_27 : decode bn_M_skip 27 = .ok (.bipush 32, 2) := by decide +kernel
theorem dn_M_skip_29 : decode bn_M_skip 29 = .ok (.if_icmp .ne 9, 3) := by decide +kernel
theorem dn_M_skip_32 : decode bn_M_skip 32 = .ok (.iinc 2 1, 3) := by decide +kernel
theorem dn_M_skip_35 : decode bn_M_skip 35 = .ok (.goto 130, 3) := by decide +kernel
theorem dn_M_skip_38 : decode bn_M_skip 38 = .ok (.iload_n 3, 1) := by decide +kernel
theorem dn_M_skip_39 : decode bn_M_skip 39 = .ok (.bipush 47, 2) := by decide +kernel
theorem dn_M_skip_41 : decode bn_M_skip 41 = .ok (.if_icmp .ne 39, 3) := by decide +kernel
theorem dn_M_skip_44 : decode bn_M_skip 44 = .ok (.aload_n 0, 1) := by decide +kernel
theorem dn_M_skip_45 : decode bn_M_skip 45 = .ok (.iload_n 2, 1) := by decide +kernel
theorem dn_M_skip_46 : decode bn_M_skip 46 = .ok (.iconst 1, 1) := by decide +kernel
theorem dn_M_skip_47 : decode bn_M_skip 47 = .ok (.iadd, 1) := by decide +kernel
theorem dn_M_skip_48 : decode bn_M_skip 48 = .ok (.invokevirtual 206, 3) := by decide +kernel
theorem dn_M_skip_51 : decode bn_M_skip 51 = .ok (.bipush 47, 2) := by decide +kernel
theorem dn_M_skip_53 : decode bn_M_skip 53 = .ok (.if_icmp .ne 27, 3) := by decide +kernel
theorem dn_M_skip_56 : decode bn_M_skip 56 = .ok (.iload_n 2, 1) := by decide +kernel
theorem dn_M_skip_57 : decode bn_M_skip 57 = .ok (.aload_n 0, 1) := by decide +kernel
theorem dn_M_skip_58 : decode bn_M_skip 58 = .ok (.getfield 196, 3) := by decide +kernel
theorem dn_M_skip_61 : decode bn_M_skip 61 = .ok (.if_icmp .ge 104, 3) := by decide +kernel
theorem dn_M_skip_64 : decode bn_M_skip 64 = .ok (.aload_n 0, 1) := by decide +kernel
theorem dn_M_skip_65 : decode bn_M_skip 65 = .ok (.iload_n 2, 1) := by decide +kernel
theorem dn_M_skip_66 : decode bn_M_skip 66 = .ok (.invokevirtual 206, 3) := by decide +kernel
theorem dn_M_skip_69 : decode bn_M_skip 69 = .ok (.bipush 10, 2) := by decide +kernel
theorem dn_M_skip_71 : decode bn_M_skip 71 = .ok (.if_icmp .eq 94, 3) := by decide +kernel
theorem dn_M_skip_74 : decode bn_M_skip 74 = .ok (.iinc 2 1, 3) := by decide +kernel
theorem dn_M_skip_77 : decode bn_M_skip 77 = .ok (.goto (-21), 3) := by decide +kernel
theorem dn_M_skip_80 : decode bn_M_skip 80 = .ok (.iload_n 3, 1) := by decide +kernel
theorem dn_M_skip_81 : decode bn_M_skip 81 = .ok (.bipush 47, 2) := by decide +kernel
theorem dn_M_skip_83 : decode bn_M_skip 83 = .ok (.if_icmp .ne 80, 3) := by decide +kernel
theorem dn_M_skip_86 : decode bn_M_skip 86 = .ok (.aload_n 0, 1) := by decide +kernel
theorem dn_M_skip_87 : decode bn_M_skip 87 = .ok (.iload_n 2, 1) := by decide +kernel
theorem dn_M_skip_88 : decode bn_M_skip 88 = .ok (.iconst 1, 1) := by decide +kernel
theorem dn_M_skip_89 : decode bn_M_skip 89 = .ok (.iadd, 1) := by decide +kernel
theorem dn_M_skip_90 : decode bn_M_skip 90 = .ok (.invokevirtual 206, 3) := by decide +kernel
theorem dn_M_skip_93 : decode bn_M_skip 93 = .ok (.bipush 42, 2) := by decide +kernel
theorem dn_M_skip_95 : decode bn_M_skip 95 = .ok (.if_icmp .ne 68, 3) := by decide +kernel
theorem dn_M_skip_98 : decode bn_M_skip 98 = .ok (.iload_n 2, 1) := by decide +kernel
theorem dn_M_skip_99 : decode bn_M_skip 99 = .ok (.iconst 2, 1) := by decide +kernel
theorem dn_M_skip_100 : decode bn_M_skip 100 = .ok (.iadd, 1) := by decide +kernel
theorem dn_M_skip_101 : decode bn_M_skip 101 = .ok (.istore 4, 2) := by decide +kernel
theorem dn_M_skip_103 : decode bn_M_skip 103 = .ok (.iload 4, 2) := by decide +kernel
theorem dn_M_skip_105 : decode bn_M_skip 105 = .ok (.aload_n 0, 1) := by decide +kernel
theorem dn_M_skip_106 : decode bn_M_skip 106 = .ok (.getfield 196, 3) := by decide +kernel
theorem dn_M_skip_109 : decode bn_M_skip 109 = .ok (.if_icmp .ge 33, 3) := by decide +kernel
theorem dn_M_skip_112 : decode bn_M_skip 112 = .ok (.aload_n 0, 1) := by decide +kernel
theorem dn_M_skip_113 : decode bn_M_skip 113 = .ok (.iload 4, 2) := by decide +kernel
theorem dn_M_skip_115 : decode bn_M_skip 115 = .ok (.invokevirtual 206, 3) := by decide +kernel
theorem dn_M_skip_118 : decode bn_M_skip 118 = .ok (.bipush 42, 2) := by decide +kernel
theorem dn_M_skip_120 : decode bn_M_skip 120 = .ok (.if_icmp .ne 16, 3) := by decide +kernel
theorem dn_M_skip_123 : decode bn_M_skip 123 = .ok (.aload_n 0, 1) := by decide +kernel
theorem dn_M_skip_124 : decode bn_M_skip 124 = .ok (.iload 4, 2) := by decide +kernel
theorem dn_M_skip_126 : decode bn_M_skip 126 = .ok (.iconst 1, 1) := by decide +kernel
theorem dn_M_skip_127 : decode bn_M_skip 127 = .ok (.iadd, 1) := by decide +kernel
theorem dn_M_skip_128 : decode bn_M_skip 128 = .ok (.invokevirtual 206, 3) := by decide +kernel
theorem dn_M_skip_131 : decode bn_M_skip 131 = .ok (.bipush 47, 2) := by decide +kernel
theorem dn_M_skip_133 : decode bn_M_skip 133 = .ok (.if_icmp .eq 9, 3) := by decide +kernel
theorem dn_M_skip_136 : decode bn_M_skip 136 = .ok (.iinc 4 1, 3) := by decide +kernel
theorem dn_M_skip_139 : decode bn_M_skip 139 = .ok (.goto (-36), 3) := by decide +kernel
theorem dn_M_skip_142 : decode bn_M_skip 142 = .ok (.iload 4, 2) := by decide +kernel
theorem dn_M_skip_144 : decode bn_M_skip 144 = .ok (.aload_n 0, 1) := by decide +kernel
theorem dn_M_skip_145 : decode bn_M_skip 145 = .ok (.getfield 196, 3) := by decide +kernel
theorem dn_M_skip_148 : decode bn_M_skip 148 = .ok (.if_icmp .lt 7, 3) := by decide +kernel
theorem dn_M_skip_151 : decode bn_M_skip 151 = .ok (.iconst (-1), 1) := by decide +kernel
theorem dn_M_skip_152 : decode bn_M_skip 152 = .ok (.iload_n 2, 1) := by decide +kernel
theorem dn_M_skip_153 : decode bn_M_skip 153 = .ok (.isub, 1) := by decide +kernel
theorem dn_M_skip_154 : decode bn_M_skip 154 = .ok (.ireturn, 1) := by decide +kernel
theorem dn_M_skip_155 : decode bn_M_skip 155 = .ok (.iload 4, 2) := by decide +kernel
theorem dn_M_skip_157 : decode bn_M_skip 157 = .ok (.iconst 2, 1) := by decide +kernel
theorem dn_M_skip_158 : decode bn_M_skip 158 = .ok (.iadd, 1) := by decide +kernel
theorem dn_M_skip_159 : decode bn_M_skip 159 = .ok (.istore_n 2, 1) := by decide +kernel
theorem dn_M_skip_160 : decode bn_M_skip 160 = .ok (.goto 5, 3) := by decide +kernel
theorem dn_M_skip_163 : decode bn_M_skip 163 = .ok (.iload_n 2, 1) := by decide +kernel
theorem dn_M_skip_164 : decode bn_M_skip 164 = .ok (.ireturn, 1) := by decide +kernel
theorem dn_M_skip_165 : decode bn_M_skip 165 = .ok (.goto (-163), 3) := by decide +kernel
theorem dn_M_statement_0 : decode bn_M_statement 0 = .ok (.aload_n 0, 1) := by decide +kernel
theorem dn_M_statement_1 : decode bn_M_statement 1 = .ok (.getfield 257, 3) := by decide +kernel
theorem dn_M_statement_4 : decode bn_M_statement 4 = .ok (.ifCond .eq 4, 3) := by decide +kernel
theorem dn_M_statement_7 : decode bn_M_statement 7 = .ok (.return_, 1) := by decide +kernel
theorem dn_M_statement_8 : decode bn_M_statement 8 = .ok (.aload_n 0, 1) := by decide +kernel
theorem dn_M_statement_9 : decode bn_M_statement 9 = .ok (.invokevirtual 286, 3) := by decide +kernel
theorem dn_M_statement_12 : decode bn_M_statement 12 = .ok (.sipush 310, 3) := by decide +kernel
theorem dn_M_statement_15 : decode bn_M_statement 15 = .ok (.if_icmp .ne 50, 3) := by decide +kernel
theorem dn_M_statement_18 : decode bn_M_statement 18 = .ok (.aload_n 0, 1) := by decide +kernel
theorem dn_M_statement_19 : decode bn_M_statement 19 = .ok (.dup, 1) := by decide +kernel
theorem dn_M_statement_20 : decode bn_M_statement 20 = .ok (.getfield 263, 3) := by decide +kernel
theorem dn_M_statement_23 : decode bn_M_statement 23 = .ok (.iconst 1, 1) := by decide +kernel
theorem dn_M_statement_24 : decode bn_M_statement 24 = .ok (.iadd, 1) := by decide +kernel
theorem dn_M_statement_25 : decode bn_M_statement 25 = .ok (.putfield 263, 3) := by decide +kernel
theorem dn_M_statement_28 : decode bn_M_statement 28 = .ok (.aload_n 0, 1) := by decide +kernel
theorem dn_M_statement_29 : decode bn_M_statement 29 = .ok (.getfield 257, 3) := by decide +kernel
theorem dn_M_statement_32 : decode bn_M_statement 32 = .ok (.ifCond .ne 20, 3) := by decide +kernel
theorem dn_M_statement_35 : decode bn_M_statement 35 = .ok (.aload_n 0, 1) := by decide +kernel
theorem dn_M_statement_36 : decode bn_M_statement 36 = .ok (.invokevirtual 286, 3) := by decide +kernel
theorem dn_M_statement_39 : decode bn_M_statement 39 = .ok (.sipush 311, 3) := by decide +kernel
theorem dn_M_statement_42 : decode bn_M_statement 42 = .ok (.if_icmp .eq 10, 3) := by decide +kernel
theorem dn_M_statement_45 : decode bn_M_statement 45 = .ok (.aload_n 0, 1) := by decide +kernel
theorem dn_M_statement_46 : decode bn_M_statement 46 = .ok (.invokevirtual 420, 3) := by decide +kernel
theorem dn_M_statement_49 : decode bn_M_statement 49 = .ok (.goto (-21), 3) := by decide +kernel
theorem dn_M_statement_52 : decode bn_M_statement 52 = .ok (.aload_n 0, 1) := by decide +kernel
theorem dn_M_statement_53 : decode bn_M_statement 53 = .ok (.dup, 1) := by decide +kernel
theorem dn_M_statement_54 : decode bn_M_statement 54 = .ok (.getfield 263, 3) := by decide +kernel
theorem dn_M_statement_57 : decode bn_M_statement 57 = .ok (.iconst 1, 1) := by decide +kernel
theorem dn_M_statement_58 : decode bn_M_statement 58 = .ok (.iadd, 1) := by decide +kernel
theorem dn_M_statement_59 : decode bn_M_statement 59 = .ok (.putfield 263, 3) := by decide +kernel
theorem dn_M_statement_62 : decode bn_M_statement 62 = .ok (.goto 159, 3) := by decide +kernel
theorem dn_M_statement_65 : decode bn_M_statement 65 = .ok (.aload_n 0, 1) := by decide +kernel
theorem dn_M_statement_66 : decode bn_M_statement 66 = .ok (.invokevirtual 286, 3) := by decide +kernel
theorem dn_M_statement_69 : decode bn_M_statement 69 = .ok (.sipush 312, 3) := by decide +kernel
theorem dn_M_statement_72 : decode bn_M_statement 72 = .ok (.if_icmp .ne 128, 3) := by decide +kernel
theorem dn_M_statement_75 : decode bn_M_statement 75 = .ok (.aload_n 0, 1) := by decide +kernel
theorem dn_M_statement_76 : decode bn_M_statement 76 = .ok (.aload_n 0, 1) := by decide +kernel
theorem dn_M_statement_77 : decode bn_M_statement 77 = .ok (.getfield 263, 3) := by decide +kernel
theorem dn_M_statement_80 : decode bn_M_statement 80 = .ok (.iconst 2, 1) := by decide +kernel
theorem dn_M_statement_81 : decode bn_M_statement 81 = .ok (.iadd, 1) := by decide +kernel
theorem dn_M_statement_82 : decode bn_M_statement 82 = .ok (.putfield 263, 3) := by decide +kernel
theorem dn_M_statement_85 : decode bn_M_statement 85 = .ok (.aload_n 0, 1) := by decide +kernel
theorem dn_M_statement_86 : decode bn_M_statement 86 = .ok (.aload_n 0, 1) := by decide +kernel
theorem dn_M_statement_87 : decode bn_M_statement 87 = .ok (.invokevirtual 358, 3) := by decide +kernel
theorem dn_M_statement_90 : decode bn_M_statement 90 = .ok (.i2l, 1) := by decide +kernel
theorem dn_M_statement_91 : decode bn_M_statement 91 = .ok (.invokevirtual 361, 3) := by decide +kernel
theorem dn_M_statement_94 : decode bn_M_statement 94 = .ok (.aload_n 0, 1) := by decide +kernel
theorem dn_M_statement_95 : decode bn_M_statement 95 = .ok (.dup, 1) := by decide +kernel
theorem dn_M_statement_96 : decode bn_M_statement 96 = .ok (.getfield 263, 3) := by decide +kernel
theorem dn_M_statement_99 : decode bn_M_statement 99 = .ok (.iconst 1, 1) := by decide +kernel
theorem dn_M_statement_100 : decode bn_M_statement 100 = .ok (.iadd, 1) := by decide +kernel
theorem dn_M_statement_101 : decode bn_M_statement 101 = .ok (.putfield 263, 3) := by decide +kernel
theorem dn_M_statement_104 : decode bn_M_statement 104 = .ok (.aload_n 0, 1) := by decide +kernel
theorem dn_M_statement_105 : decode bn_M_statement 105 = .ok (.getfield 349, 3) := by decide +kernel
theorem dn_M_statement_108 : decode bn_M_statement 108 = .ok (.istore_n 1, 1) := by decide +kernel
theorem dn_M_statement_109 : decode bn_M_statement 109 = .ok (.aload_n 0, 1) := by decide +kernel
theorem dn_M_statement_110 : decode bn_M_statement 110 = .ok (.bipush 10, 2) := by decide +kernel
theorem dn_M_statement_112 : decode bn_M_statement 112 = .ok (.iconst 0, 1) := by decide +kernel
theorem dn_M_statement_113 : decode bn_M_statement 113 = .ok (.iconst 0, 1) := by decide +kernel
theorem dn_M_statement_114 : decode bn_M_statement 114 = .ok (.invokevirtual 365, 3) := by decide +kernel
theorem dn_M_statement_117 : decode bn_M_statement 117 = .ok (.aload_n 0, 1) := by decide +kernel
theorem dn_M_statement_118 : decode bn_M_statement 118 = .ok (.invokevirtual 420, 3) := by decide +kernel
theorem dn_M_statement_121 : decode bn_M_statement 121 = .ok (.aload_n 0, 1) := by decide +kernel
theorem dn_M_statement_122 : decode bn_M_statement 122 = .ok (.sipush 313, 3) := by decide +kernel
theorem dn_M_statement_125 : decode bn_M_statement 125 = .ok (.invokevirtual 273, 3) := by decide +kernel
theorem dn_M_statement_128 : decode bn_M_statement 128 = .ok (.ifCond .eq 57, 3) := by decide +kernel
theorem dn_M_statement_131 : decode bn_M_statement 131 = .ok (.aload_n 0, 1) := by decide +kernel
theorem dn_M_statement_132 : decode bn_M_statement 132 = .ok (.dup, 1) := by decide +kernel
theorem dn_M_statement_133 : decode bn_M_statement 133 = .ok (.getfield 263, 3) := by decide +kernel
theorem dn_M_statement_136 : decode bn_M_statement 136 = .ok (.iconst 1, 1) := by decide +kernel
theorem dn_M_statement_137 : decode bn_M_statement 137 = .ok (.iadd, 1) := by decide +kernel
theorem dn_M_statement_138 : decode bn_M_statement 138 = .ok (.putfield 263, 3) := by decide +kernel
theorem dn_M_statement_141 : decode bn_M_statement 141 = .ok (.aload_n 0, 1) := by decide +kernel
theorem dn_M_statement_142 : decode bn_M_statement 142 = .ok (.getfield 349, 3) := by decide +kernel
theorem dn_M_statement_145 : decode bn_M_statement 145 = .ok (.istore_n 2, 1) := by decide +kernel
theorem dn_M_statement_146 : decode bn_M_statement 146 = .ok (.aload_n 0, 1) := by decide +kernel
theorem dn_M_statement_147 : decode bn_M_statement 147 = .ok (.bipush 11, 2) := by decide +kernel
theorem dn_M_statement_149 : decode bn_M_statement 149 = .ok (.iconst 0, 1) := by decide +kernel
theorem dn_M_statement_150 : decode bn_M_statement 150 = .ok (.iconst 0, 1) := by decide +kernel
theorem dn_M_statement_151 : decode bn_M_statement 151 = .ok (.invokevirtual 365, 3) := by decide +kernel
theorem dn_M_statement_154 : decode bn_M_statement 154 = .ok (.aload_n 0, 1) := by decide +kernel
theorem dn_M_statement_155 : decode bn_M_statement 155 = .ok (.getfield 95, 3) := by decide +kernel
theorem dn_M_statement_158 : decode bn_M_statement 158 = .ok (.iload_n 1, 1) := by decide +kernel
theorem dn_M_statement_159 : decode bn_M_statement 159 = .ok (.iconst 1, 1) := by decide +kernel
theorem dn_M_statement_160 : decode bn_M_statement 160 = .ok (.iadd, 1) := by decide +kernel
theorem dn_M_statement_161 : decode bn_M_statement 161 = .ok (.aload_n 0, 1) := by decide +kernel
theorem dn_M_statement_162 : decode bn_M_statement 162 = .ok (.getfield 349, 3) := by decide +kernel
theorem dn_M_statement_165 : decode bn_M_statement 165 = .ok (.iastore, 1) := by decide +kernel
theorem dn_M_statement_166 : decode bn_M_statement 166 = .ok (.aload_n 0, 1) := by decide +kernel
theorem dn_M_statement_167 : decode bn_M_statement 167 = .ok (.invokevirtual 420, 3) := by decide +kernel
theorem dn_M_statement_170 : decode bn_M_statement 170 = .ok (.aload_n 0, 1) := by decide +kernel
theorem dn_M_statement_171 : decode bn_M_statement 171 = .ok (.getfield 95, 3) := by decide +kernel
theorem dn_M_statement_174 : decode bn_M_statement 174 = .ok (.iload_n 2, 1) := by decide +kernel
theorem dn_M_statement_175 : decode bn_M_statement 175 = .ok (.iconst 1, 1) := by decide +kernel
theorem dn_M_statement_176 : decode bn_M_statement 176 = .ok (.iadd, 1) := by decide +kernel
theorem dn_M_statement_177 : decode bn_M_statement 177 = .ok (.aload_n 0, 1) := by decide +kernel
theorem dn_M_statement_178 : decode bn_M_statement 178 = .ok (.getfield 349, 3) := by decide +kernel
theorem dn_M_statement_181 : decode bn_M_statement 181 = .ok (.iastore, 1) := by decide +kernel
theorem dn_M_statement_182 : decode bn_M_statement 182 = .ok (.goto 15, 3) := by decide +kernel
theorem dn_M_statement_185 : decode bn_M_statement 185 = .ok (.aload_n 0, 1) := by decide +kernel
theorem dn_M_statement_186 : decode bn_M_statement 186 = .ok (.getfield 95, 3) := by decide +kernel
theorem dn_M_statement_189 : decode bn_M_statement 189 = .ok (.iload_n 1, 1) := by decide +kernel
theorem dn_M_statement_190 : decode bn_M_statement 190 = .ok (.iconst 1, 1) := by decide +kernel
theorem dn_M_statement_191 : decode bn_M_statement 191 = .ok (.iadd, 1) := by decide +kernel
theorem dn_M_statement_192 : decode bn_M_statement 192 = .ok (.aload_n 0, 1) := by decide +kernel
theorem dn_M_statement_193 : decode bn_M_statement 193 = .ok (.getfield 349, 3) := by decide +kernel
theorem dn_M_statement_196 : decode bn_M_statement 196 = .ok (.iastore, 1) := by decide +kernel
theorem dn_M_statement_197 : decode bn_M_statement 197 = .ok (.goto 24, 3) := by decide +kernel
theorem dn_M_statement_200 : decode bn_M_statement 200 = .ok (.aload_n 0, 1) := by decide +kernel
theorem dn_M_statement_201 : decode bn_M_statement 201 = .ok (.invokevirtual 286, 3) := by decide +kernel
theorem dn_M_statement_204 : decode bn_M_statement 204 = .ok (.sipush 314, 3) := by decide +kernel
theorem dn_M_statement_207 : decode bn_M_statement 207 = .ok (.if_icmp .ne 10, 3) := by decide +kernel
theorem dn_M_statement_210 : decode bn_M_statement 210 = .ok (.aload_n 0, 1) := by decide +kernel
theorem dn_M_statement_211 : decode bn_M_statement 211 = .ok (.invokevirtual 423, 3) := by decide +kernel
theorem dn_M_statement_214 : decode bn_M_statement 214 = .ok (.goto 7, 3) := by decide +kernel
theorem dn_M_statement_217 : decode bn_M_statement 217 = .ok (.aload_n 0, 1) := by decide +kernel
theorem dn_M_statement_218 : decode bn_M_statement 218 = .ok (.invokevirtual 426, 3) := by decide +kernel
theorem dn_M_statement_221 : decode bn_M_statement 221 = .ok (.return_, 1) := by decide +kernel
theorem dn_M_statementGrammar_0 : decode bn_M_statementGrammar 0 = .ok (.aload_n 0, 1) := by decide +kernel
theorem dn_M_statementGrammar_1 : decode bn_M_statementGrammar 1 = .ok (.sipush 310, 3) := by decide +kernel
theorem dn_M_statementGrammar_4 : decode bn_M_statementGrammar 4 = .ok (.invokevirtual 273, 3) := by decide +kernel
theorem dn_M_statementGrammar_7 : decode bn_M_statementGrammar 7 = .ok (.ifCond .eq 44, 3) := by decide +kernel
theorem dn_M_statementGrammar_10 : decode bn_M_statementGrammar 10 = .ok (.aload_n 0, 1) := by decide +kernel
theorem dn_M_statementGrammar_11 : decode bn_M_statementGrammar 11 = .ok (.sipush 310, 3) := by decide +kernel
theorem dn_M_statementGrammar_14 : decode bn_M_statementGrammar 14 = .ok (.invokevirtual 293, 3) := by decide +kernel
theorem dn_M_statementGrammar_17 : decode bn_M_statementGrammar 17 = .ok (.aload_n 0, 1) := by decide +kernel
theorem dn_M_statementGrammar_18 : decode bn_M_statementGrammar 18 = .ok (.getfield 257, 3) := by decide +kernel
theorem dn_M_statementGrammar_21 : decode bn_M_statementGrammar 21 = .ok (.ifCond .ne 20, 3) := by decide +kernel
theorem dn_M_statementGrammar_24 : decode bn_M_statementGrammar 24 = .ok (.aload_n 0, 1) := by decide +kernel
theorem dn_M_statementGrammar_25 : decode bn_M_statementGrammar 25 = .ok (.invokevirtual 286, 3) := by decide +kernel
theorem dn_M_statementGrammar_28 : decode bn_M_statementGrammar 28 = .ok (.sipush 311, 3) := by decide +kernel
theorem dn_M_statementGrammar_31 : decode bn_M_statementGrammar 31 = .ok (.if_icmp .eq 10, 3) := by decide +kernel
theorem dn_M_statementGrammar_34 : decode bn_M_statementGrammar 34 = .ok (.aload_n 0, 1) := by decide +kernel
theorem dn_M_statementGrammar_35 : decode bn_M_statementGrammar 35 = .ok (.invokevirtual 317, 3) := by decide +kernel
theorem dn_M_statementGrammar_38 : decode bn_M_statementGrammar 38 = .ok (.goto (-21), 3) := by decide +kernel
theorem dn_M_statementGrammar_41 : decode bn_M_statementGrammar 41 = .ok (.aload_n 0, 1) := by decide +kernel
theorem dn_M_statementGrammar_42 : decode bn_M_statementGrammar 42 = .ok (.sipush 311, 3) := by decide +kernel
theorem dn_M_statementGrammar_45 : decode bn_M_statementGrammar 45 = .ok (.invokevirtual 305, 3) := by decide +kernel
theorem dn_M_statementGrammar_48 : decode bn_M_statementGrammar 48 = .ok (.goto 143, 3) := by decide +kernel
theorem dn_M_statementGrammar_51 : decode bn_M_statementGrammar 51 = .ok (.aload_n 0, 1) := by decide +kernel
theorem dn_M_statementGrammar_52 : decode bn_M_statementGrammar 52 = .ok (.sipush 312, 3) := by decide +kernel
theorem dn_M_statementGrammar_55 : decode bn_M_statementGrammar 55 = .ok (.invokevirtual 273, 3) := by decide +kernel
theorem dn_M_statementGrammar_58 : decode bn_M_statementGrammar 58 = .ok (.ifCond .eq 67, 3) := by decide +kernel
theorem dn_M_statementGrammar_61 : decode bn_M_statementGrammar 61 = .ok (.aload_n 0, 1) := by decide +kernel
theorem dn_M_statementGrammar_62 : decode bn_M_statementGrammar 62 = .ok (.sipush 312, 3) := by decide +kernel
theorem dn_M_statementGrammar_65 : decode bn_M_statementGrammar 65 = .ok (.invokevirtual 293, 3) := by decide +kernel
theorem dn_M_statementGrammar_68 : decode bn_M_statementGrammar 68 = .ok (.aload_n 0, 1) := by decide +kernel
theorem dn_M_statementGrammar_69 : decode bn_M_statementGrammar 69 = .ok (.bipush 40, 2) := by decide +kernel
theorem dn_M_statementGrammar_71 : decode bn_M_statementGrammar 71 = .ok (.invokevirtual 293, 3) := by decide +kernel
theorem dn_M_statementGrammar_74 : decode bn_M_statementGrammar 74 = .ok (.aload_n 0, 1) := by decide +kernel
theorem dn_M_statementGrammar_75 : decode bn_M_statementGrammar 75 = .ok (.invokevirtual 296, 3) := by decide +kernel
theorem dn_M_statementGrammar_78 : decode bn_M_statementGrammar 78 = .ok (.aload_n 0, 1) := by decide +kernel
theorem dn_M_statementGrammar_79 : decode bn_M_statementGrammar 79 = .ok (.bipush 41, 2) := by decide +kernel
theorem dn_M_statementGrammar_81 : decode bn_M_statementGrammar 81 = .ok (.invokevirtual 305, 3) := by decide +kernel
theorem dn_M_statementGrammar_84 : decode bn_M_statementGrammar 84 = .ok (.aload_n 0, 1) := by decide +kernel
theorem dn_M_statementGrammar_85 : decode bn_M_statementGrammar 85 = .ok (.invokevirtual 317, 3) := by decide +kernel
theorem dn_M_statementGrammar_88 : decode bn_M_statementGrammar 88 = .ok (.aload_n 0, 1) := by decide +kernel
theorem dn_M_statementGrammar_89 : decode bn_M_statementGrammar 89 = .ok (.sipush 313, 3) := by decide +kernel
theorem dn_M_statementGrammar_92 : decode bn_M_statementGrammar 92 = .ok (.invokevirtual 273, 3) := by decide +kernel
theorem dn_M_statementGrammar_95 : decode bn_M_statementGrammar 95 = .ok (.ifCond .eq 17, 3) := by decide +kernel
theorem dn_M_statementGrammar_98 : decode bn_M_statementGrammar 98 = .ok (.aload_n 0, 1) := by decide +kernel
theorem dn_M_statementGrammar_99 : decode bn_M_statementGrammar 99 = .ok (.dup, 1) := by decide +kernel
theorem dn_M_statementGrammar_100 : decode bn_M_statementGrammar 100 = .ok (.getfield 263, 3) := by decide +kernel
theorem dn_M_statementGrammar_103 : decode bn_M_statementGrammar 103 = .ok (.iconst 1, 1) := by decide +kernel
theorem dn_M_statementGrammar_104 : decode bn_M_statementGrammar 104 = .ok (.iadd, 1) := by decide +kernel
theorem dn_M_statementGrammar_105 : decode bn_M_statementGrammar 105 = .ok (.putfield 263, 3) := by decide +kernel
theorem dn_M_statementGrammar_108 : decode bn_M_statementGrammar 108 = .ok (.aload_n 0, 1) := by decide +kernel
theorem dn_M_statementGrammar_109 : decode bn_M_statementGrammar 109 = .ok (.invokevirtual 317, 3) := by decide +kernel
theorem dn_M_statementGrammar_112 : decode bn_M_statementGrammar 112 = .ok (.aload_n 0, 1) := by decide +kernel
theorem dn_M_statementGrammar_113 : decode bn_M_statementGrammar 113 = .ok (.dup, 1) := by decide +kernel
theorem dn_M_statementGrammar_114 : decode bn_M_statementGrammar 114 = .ok (.getfield 276, 3) := by decide +kernel
theorem dn_M_statementGrammar_117 : decode bn_M_statementGrammar 117 = .ok (.iconst 1, 1) := by decide +kernel
theorem dn_M_statementGrammar_118 : decode bn_M_statementGrammar 118 = .ok (.isub, 1) := by decide +kernel
theorem dn_M_statementGrammar_119 : decode bn_M_statementGrammar 119 = .ok (.putfield 276, 3) := by decide +kernel
theorem dn_M_statementGrammar_122 : decode bn_M_statementGrammar 122 = .ok (.goto 69, 3) := by decide +kernel
theorem dn_M_statementGrammar_125 : decode bn_M_statementGrammar 125 = .ok (.aload_n 0, 1) := by decide +kernel
theorem dn_M_statementGrammar_126 : decode bn_M_statementGrammar 126 = .ok (.sipush 314, 3) := by decide +kernel
theorem dn_M_statementGrammar_129 : decode bn_M_statementGrammar 129 = .ok (.invokevirtual 273, 3) := by decide +kernel
theorem dn_M_statementGrammar_132 : decode bn_M_statementGrammar 132 = .ok (.ifCond .eq 10, 3) := by decide +kernel
theorem dn_M_statementGrammar_135 : decode bn_M_statementGrammar 135 = .ok (.aload_n 0, 1) := by decide +kernel
theorem dn_M_statementGrammar_136 : decode bn_M_statementGrammar 136 = .ok (.invokevirtual 320, 3) := by decide +kernel
theorem dn_M_statementGrammar_139 : decode bn_M_statementGrammar 139 = .ok (.goto 52, 3) := by decide +kernel
theorem dn_M_statementGrammar_142 : decode bn_M_statementGrammar 142 = .ok (.aload_n 0, 1) := by decide +kernel
theorem dn_M_statementGrammar_143 : decode bn_M_statementGrammar 143 = .ok (.sipush 400, 3) := by decide +kernel
theorem dn_M_statementGrammar_146 : decode bn_M_statementGrammar 146 = .ok (.invokevirtual 279, 3) := by decide +kernel
theorem dn_M_statementGrammar_149 : decode bn_M_statementGrammar 149 = .ok (.aload_n 0, 1) := by decide +kernel
theorem dn_M_statementGrammar_150 : decode bn_M_statementGrammar 150 = .ok (.bipush 91, 2) := by decide +kernel
theorem dn_M_statementGrammar_152 : decode bn_M_statementGrammar 152 = .ok (.invokevirtual 273, 3) := by decide +kernel
theorem dn_M_statementGrammar_155 : decode bn_M_statementGrammar 155 = .ok (.ifCond .eq 19, 3) := by decide +kernel
theorem dn_M_statementGrammar_158 : decode bn_M_statementGrammar 158 = .ok (.aload_n 0, 1) := by decide +kernel
theorem dn_M_statementGrammar_159 : decode bn_M_statementGrammar 159 = .ok (.bipush 91, 2) := by decide +kernel
theorem dn_M_statementGrammar_161 : decode bn_M_statementGrammar 161 = .ok (.invokevirtual 293, 3) := by decide +kernel
theorem dn_M_statementGrammar_164 : decode bn_M_statementGrammar 164 = .ok (.aload_n 0, 1) := by decide +kernel
theorem dn_M_statementGrammar_165 : decode bn_M_statementGrammar 165 = .ok (.invokevirtual 302, 3) := by decide +kernel
theorem dn_M_statementGrammar_168 : decode bn_M_statementGrammar 168 = .ok (.aload_n 0, 1) := by decide +kernel
theorem dn_M_statementGrammar_169 : decode bn_M_statementGrammar 169 = .ok (.bipush 93, 2) := by decide +kernel
theorem dn_M_statementGrammar_171 : decode bn_M_statementGrammar 171 = .ok (.invokevirtual 305, 3) := by decide +kernel
theorem dn_M_statementGrammar_174 : decode bn_M_statementGrammar 174 = .ok (.aload_n 0, 1) := by decide +kernel
theorem dn_M_statementGrammar_175 : decode bn_M_statementGrammar 175 = .ok (.sipush 260, 3) := by decide +kernel
theorem dn_M_statementGrammar_178 : decode bn_M_statementGrammar 178 = .ok (.invokevirtual 279, 3) := by decide +kernel
theorem dn_M_statementGrammar_181 : decode bn_M_statementGrammar 181 = .ok (.aload_n 0, 1) := by decide +kernel
theorem dn_M_statementGrammar_182 : decode bn_M_statementGrammar 182 = .ok (.invokevirtual 296, 3) := by decide +kernel
theorem dn_M_statementGrammar_185 : decode bn_M_statementGrammar 185 = .ok (.aload_n 0, 1) := by decide +kernel
theorem dn_M_statementGrammar_186 : decode bn_M_statementGrammar 186 = .ok (.bipush 59, 2) := by decide +kernel
theorem dn_M_statementGrammar_188 : decode bn_M_statementGrammar 188 = .ok (.invokevirtual 279, 3) := by decide +kernel
theorem dn_M_statementGrammar_191 : decode bn_M_statementGrammar 191 = .ok (.return_, 1) := by decide +kernel
theorem dn_M_step_0 : decode bn_M_step 0 = .ok (.aload_n 0, 1) := by decide +kernel
theorem dn_M_step_1 : decode bn_M_step 1 = .ok (.aload_n 0, 1) := by decide +kernel
theorem dn_M_step_2 : decode bn_M_step 2 = .ok (.getfield 545, 3) := by decide +kernel
theorem dn_M_step_5 : decode bn_M_step 5 = .ok (.ifCond .eq 7, 3) := by decide +kernel
theorem dn_M_step_8 : decode bn_M_step 8 = .ok (.iconst 0, 1) := by decide +kernel
theorem dn_M_step_9 : decode bn_M_step 9 = .ok (.goto 4, 3) := by decide +kernel
theorem dn_M_step_12 : decode bn_M_step 12 = .ok (.iconst 1, 1) := by decide +kernel
theorem dn_M_step_13 : decode bn_M_step 13 = .ok (.putfield 192, 3) := by decide +kernel
theorem dn_M_step_16 : decode bn_M_step 16 = .ok (.aload_n 0, 1) := by decide +kernel
theorem dn_M_step_17 : decode bn_M_step 17 = .ok (.getfield 192, 3) := by decide +kernel
theorem dn_M_step_20 : decode bn_M_step 20 = .ok (.ifCond .le 5, 3) := by decide +kernel
theorem dn_M_step_23 : decode bn_M_step 23 = .ok (.iconst 0, 1) := by decide +kernel
theorem dn_M_step_24 : decode bn_M_step 24 = .ok (.ireturn, 1) := by decide +kernel
theorem dn_M_step_25 : decode bn_M_step 25 = .ok (.aload_n 0, 1) := by decide +kernel
theorem dn_M_step_26 : decode bn_M_step 26 = .ok (.aload_n 0, 1) := by decide +kernel
theorem dn_M_step_27 : decode bn_M_step 27 = .ok (.getfield 180, 3) := by decide +kernel
theorem dn_M_step_30 : decode bn_M_step 30 = .ok (.invokevirtual 624, 3) := by decide +kernel
theorem dn_M_step_33 : decode bn_M_step 33 = .ok (.iconst 0, 1) := by decide +kernel
theorem dn_M_step_34 : decode bn_M_step 34 = .ok (.istore_n 1, 1) := by decide +kernel
theorem dn_M_step_35 : decode bn_M_step 35 = .ok (.iload_n 1, 1) := by decide +kernel
theorem dn_M_step_36 : decode bn_M_step 36 = .ok (.aload_n 0, 1) := by decide +kernel
theorem dn_M_step_37 : decode bn_M_step 37 = .ok (.getfield 497, 3) := by decide +kernel
theorem dn_M_step_40 : decode bn_M_step 40 = .ok (.if_icmp .ge 21, 3) := by decide +kernel
theorem dn_M_step_43 : decode bn_M_step 43 = .ok (.aload_n 0, 1) := by decide +kernel
theorem dn_M_step_44 : decode bn_M_step 44 = .ok (.getfield 180, 3) := by decide +kernel
theorem dn_M_step_47 : decode bn_M_step 47 = .ok (.iload_n 1, 1) := by decide +kernel
theorem dn_M_step_48 : decode bn_M_step 48 = .ok (.aload_n 0, 1) := by decide +kernel
theorem dn_M_step_49 : decode bn_M_step 49 = .ok (.getfield 177, 3) := by decide +kernel
theorem dn_M_step_52 : decode bn_M_step 52 = .ok (.iload_n 1, 1) := by decide +kernel
theorem dn_M_step_53 : decode bn_M_step 53 = .ok (.laload, 1) := by decide +kernel
theorem dn_M_step_54 : decode bn_M_step 54 = .ok (.lastore, 1) := by decide +kernel
theorem dn_M_step_55 : decode bn_M_step 55 = .ok (.iinc 1 1, 3) := by decide +kernel
theorem dn_M_step_58 : decode bn_M_step 58 = .ok (.goto (-23), 3) := by decide +kernel
theorem dn_M_step_61 : decode bn_M_step 61 = .ok (.aload_n 0, 1) := by decide +kernel
theorem dn_M_step_62 : decode bn_M_step 62 = .ok (.aload_n 0, 1) := by decide +kernel
theorem dn_M_step_63 : decode bn_M_step 63 = .ok (.getfield 180, 3) := by decide +kernel
theorem dn_M_step_66 : decode bn_M_step 66 = .ok (.aload_n 0, 1) := by decide +kernel
theorem dn_M_step_67 : decode bn_M_step 67 = .ok (.getfield 183, 3) := by decide +kernel
theorem dn_M_step_70 : decode bn_M_step 70 = .ok (.invokevirtual 608, 3) := by decide +kernel
theorem dn_M_step_73 : decode bn_M_step 73 = .ok (.aload_n 0, 1) := by decide +kernel
theorem dn_M_step_74 : decode bn_M_step 74 = .ok (.dup, 1) := by decide +kernel
theorem dn_M_step_75 : decode bn_M_step 75 = .ok (.getfield 605, 3) := by decide +kernel
theorem dn_M_step_78 : decode bn_M_step 78 = .ok (.iconst 1, 1) := by decide +kernel
theorem dn_M_step_79 : decode bn_M_step 79 = .ok (.iadd, 1) := by decide +kernel
theorem dn_M_step_80 : decode bn_M_step 80 = .ok (.putfield 605, 3) := by decide +kernel
theorem dn_M_step_83 : decode bn_M_step 83 = .ok (.aload_n 0, 1) := by decide +kernel
theorem dn_M_step_84 : decode bn_M_step 84 = .ok (.getfield 605, 3) := by decide +kernel
theorem dn_M_step_87 : decode bn_M_step 87 = .ok (.ireturn, 1) := by decide +kernel
theorem dn_M_sumUp_0 : decode bn_M_sumUp 0 = .ok (.aload_n 0, 1) := by decide +kernel
theorem dn_M_sumUp_1 : decode bn_M_sumUp 1 = .ok (.getfield 336, 3) := by decide +kernel
theorem dn_M_sumUp_4 : decode bn_M_sumUp 4 = .ok (.iconst 1, 1) := by decide +kernel
theorem dn_M_sumUp_5 : decode bn_M_sumUp 5 = .ok (.isub, 1) := by decide +kernel
theorem dn_M_sumUp_6 : decode bn_M_sumUp 6 = .ok (.istore_n 1, 1) := by decide +kernel
theorem dn_M_sumUp_7 : decode bn_M_sumUp 7 = .ok (.aload_n 0, 1) := by decide +kernel
theorem dn_M_sumUp_8 : decode bn_M_sumUp 8 = .ok (.aload_n 0, 1) := by decide +kernel
theorem dn_M_sumUp_9 : decode bn_M_sumUp 9 = .ok (.getfield 336, 3) := by decide +kernel
theorem dn_M_sumUp_12 : decode bn_M_sumUp 12 = .ok (.putfield 557, 3) := by decide +kernel
theorem dn_M_sumUp_15 : decode bn_M_sumUp 15 = .ok (.aload_n 0, 1) := by decide +kernel
theorem dn_M_sumUp_16 : decode bn_M_sumUp 16 = .ok (.aload_n 0, 1) := by decide +kernel
theorem dn_M_sumUp_17 : decode bn_M_sumUp 17 = .ok (.getfield 110, 3) := by decide +kernel
theorem dn_M_sumUp_20 : decode bn_M_sumUp 20 = .ok (.iload_n 1, 1) := by decide +kernel
theorem dn_M_sumUp_21 : decode bn_M_sumUp 21 = .ok (.laload, 1) := by decide +kernel
theorem dn_M_sumUp_22 : decode bn_M_sumUp 22 = .ok (.l2i, 1) := by decide +kernel
theorem dn_M_sumUp_23 : decode bn_M_sumUp 23 = .ok (.putfield 560, 3) := by decide +kernel
theorem dn_M_sumUp_26 : decode bn_M_sumUp 26 = .ok (.aload_n 0, 1) := by decide +kernel
theorem dn_M_sumUp_27 : decode bn_M_sumUp 27 = .ok (.aload_n 0, 1) := by decide +kernel
theorem dn_M_sumUp_28 : decode bn_M_sumUp 28 = .ok (.getfield 101, 3) := by decide +kernel
theorem dn_M_sumUp_31 : decode bn_M_sumUp 31 = .ok (.iload_n 1, 1) := by decide +kernel
theorem dn_M_sumUp_32 : decode bn_M_sumUp 32 = .ok (.laload, 1) := by decide +kernel
theorem dn_M_sumUp_33 : decode bn_M_sumUp 33 = .ok (.putfield 563, 3) := by decide +kernel
theorem dn_M_sumUp_36 : decode bn_M_sumUp 36 = .ok (.aload_n 0, 1) := by decide +kernel
theorem dn_M_sumUp_37 : decode bn_M_sumUp 37 = .ok (.iconst 0, 1) := by decide +kernel
theorem dn_M_sumUp_38 : decode bn_M_sumUp 38 = .ok (.putfield 567, 3) := by decide +kernel
theorem dn_M_sumUp_41 : decode bn_M_sumUp 41 = .ok (.iconst 0, 1) := by decide +kernel
theorem dn_M_sumUp_42 : decode bn_M_sumUp 42 = .ok (.istore_n 2, 1) := by decide +kernel
theorem dn_M_sumUp_43 : decode bn_M_sumUp 43 = .ok (.iload_n 2, 1) := by decide +kernel
theorem dn_M_sumUp_44 : decode bn_M_sumUp 44 = .ok (.aload_n 0, 1) := by decide +kernel
theorem dn_M_sumUp_45 : decode bn_M_sumUp 45 = .ok (.getfield 28, 3) := by decide +kernel
theorem dn_M_sumUp_48 : decode bn_M_sumUp 48 = .ok (.iload_n 1, 1) := by decide +kernel
theorem dn_M_sumUp_49 : decode bn_M_sumUp 49 = .ok (.iconst 1, 1) := by decide +kernel
theorem dn_M_sumUp_50 : decode bn_M_sumUp 50 = .ok (.iadd, 1) := by decide +kernel
theorem dn_M_sumUp_51 : decode bn_M_sumUp 51 = .ok (.iaload, 1) := by decide +kernel
theorem dn_M_sumUp_52 : decode bn_M_sumUp 52 = .ok (.aload_n 0, 1) := by decide +kernel
theorem dn_M_sumUp_53 : decode bn_M_sumUp 53 = .ok (.getfield 28, 3) := by decide +kernel
theorem dn_M_sumUp_56 : decode bn_M_sumUp 56 = .ok (.iload_n 1, 1) := by decide +kernel
theorem dn_M_sumUp_57 : decode bn_M_sumUp 57 = .ok (.iaload, 1) := by decide +kernel
theorem dn_M_sumUp_58 : decode bn_M_sumUp 58 = .ok (.isub, 1) := by decide +kernel
theorem dn_M_sumUp_59 : decode bn_M_sumUp 59 = .ok (.if_icmp .ge 50, 3) := by decide +kernel
theorem dn_M_sumUp_62 : decode bn_M_sumUp 62 = .ok (.aload_n 0, 1) := by decide +kernel
theorem dn_M_sumUp_63 : decode bn_M_sumUp 63 = .ok (.aload_n 0, 1) := by decide +kernel
theorem dn_M_sumUp_64 : decode bn_M_sumUp 64 = .ok (.getfield 46, 3) := by decide +kernel
theorem dn_M_sumUp_67 : decode bn_M_sumUp 67 = .ok (.aload_n 0, 1) := by decide +kernel
theorem dn_M_sumUp_68 : decode bn_M_sumUp 68 = .ok (.getfield 143, 3) := by decide +kernel
theorem dn_M_sumUp_71 : decode bn_M_sumUp 71 = .ok (.iload_n 2, 1) := by decide +kernel
theorem dn_M_sumUp_72 : decode bn_M_sumUp 72 = .ok (.iaload, 1) := by decide +kernel
theorem dn_M_sumUp_73 : decode bn_M_sumUp 73 = .ok (.iaload, 1) := by decide +kernel
theorem dn_M_sumUp_74 : decode bn_M_sumUp 74 = .ok (.ifCond .ne 22, 3) := by decide +kernel
theorem dn_M_sumUp_77 : decode bn_M_sumUp 77 = .ok (.aload_n 0, 1) := by decide +kernel
theorem dn_M_sumUp_78 : decode bn_M_sumUp 78 = .ok (.getfield 567, 3) := by decide +kernel
theorem dn_M_sumUp_81 : decode bn_M_sumUp 81 = .ok (.aload_n 0, 1) := by decide +kernel
theorem dn_M_sumUp_82 : decode bn_M_sumUp 82 = .ok (.getfield 43, 3) := by decide +kernel
theorem dn_M_sumUp_85 : decode bn_M_sumUp 85 = .ok (.aload_n 0, 1) := by decide +kernel
theorem dn_M_sumUp_86 : decode bn_M_sumUp 86 = .ok (.getfield 143, 3) := by decide +kernel
theorem dn_M_sumUp_89 : decode bn_M_sumUp 89 = .ok (.iload_n 2, 1) := by decide +kernel
theorem dn_M_sumUp_90 : decode bn_M_sumUp 90 = .ok (.iaload, 1) := by decide +kernel
theorem dn_M_sumUp_91 : decode bn_M_sumUp 91 = .ok (.iaload, 1) := by decide +kernel
theorem dn_M_sumUp_92 : decode bn_M_sumUp 92 = .ok (.iadd, 1) := by decide +kernel
theorem dn_M_sumUp_93 : decode bn_M_sumUp 93 = .ok (.goto 7, 3) := by decide +kernel
theorem dn_M_sumUp_96 : decode bn_M_sumUp 96 = .ok (.aload_n 0, 1) := by decide +kernel
theorem dn_M_sumUp_97 : decode bn_M_sumUp 97 = .ok (.getfield 567, 3) := by decide +kernel
theorem dn_M_sumUp_100 : decode bn_M_sumUp 100 = .ok (.putfield 567, 3) := by decide +kernel
theorem dn_M_sumUp_103 : decode bn_M_sumUp 103 = .ok (.iinc 2 1, 3) := by decide +kernel
theorem dn_M_sumUp_106 : decode bn_M_sumUp 106 = .ok (.goto (-63), 3) := by decide +kernel
theorem dn_M_sumUp_109 : decode bn_M_sumUp 109 = .ok (.aload_n 0, 1) := by decide +kernel
theorem dn_M_sumUp_110 : decode bn_M_sumUp 110 = .ok (.iconst 0, 1) := by decide +kernel
theorem dn_M_sumUp_111 : decode bn_M_sumUp 111 = .ok (.putfield 570, 3) := by decide +kernel
theorem dn_M_sumUp_114 : decode bn_M_sumUp 114 = .ok (.iconst 0, 1) := by decide +kernel
theorem dn_M_sumUp_115 : decode bn_M_sumUp 115 = .ok (.istore_n 2, 1) := by decide +kernel
theorem dn_M_sumUp_116 : decode bn_M_sumUp 116 = .ok (.iload_n 2, 1) := by decide +kernel
theorem dn_M_sumUp_117 : decode bn_M_sumUp 117 = .ok (.aload_n 0, 1) := by decide +kernel
theorem dn_M_sumUp_118 : decode bn_M_sumUp 118 = .ok (.getfield 494, 3) := by decide +kernel
theorem dn_M_sumUp_121 : decode bn_M_sumUp 121 = .ok (.if_icmp .ge 40, 3) := by decide +kernel
theorem dn_M_sumUp_124 : decode bn_M_sumUp 124 = .ok (.aload_n 0, 1) := by decide +kernel
theorem dn_M_sumUp_125 : decode bn_M_sumUp 125 = .ok (.getfield 125, 3) := by decide +kernel
theorem dn_M_sumUp_128 : decode bn_M_sumUp 128 = .ok (.iload_n 2, 1) := by decide +kernel
theorem dn_M_sumUp_129 : decode bn_M_sumUp 129 = .ok (.iaload, 1) := by decide +kernel
theorem dn_M_sumUp_130 : decode bn_M_sumUp 130 = .ok (.istore_n 3, 1) := by decide +kernel
theorem dn_M_sumUp_131 : decode bn_M_sumUp 131 = .ok (.aload_n 0, 1) := by decide +kernel
theorem dn_M_sumUp_132 : decode bn_M_sumUp 132 = .ok (.aload_n 0, 1) := by decide +kernel
theorem dn_M_sumUp_133 : decode bn_M_sumUp 133 = .ok (.getfield 570, 3) := by decide +kernel
theorem dn_M_sumUp_136 : decode bn_M_sumUp 136 = .ok (.aload_n 0, 1) := by decide +kernel
theorem dn_M_sumUp_137 : decode bn_M_sumUp 137 = .ok (.getfield 34, 3) := by decide +kernel
theorem dn_M_sumUp_140 : decode bn_M_sumUp 140 = .ok (.iload_n 3, 1) := by decide +kernel
theorem dn_M_sumUp_141 : decode bn_M_sumUp 141 = .ok (.iconst 1, 1) := by decide +kernel
theorem dn_M_sumUp_142 : decode bn_M_sumUp 142 = .ok (.iadd, 1) := by decide +kernel
theorem dn_M_sumUp_143 : decode bn_M_sumUp 143 = .ok (.iaload, 1) := by decide +kernel
theorem dn_M_sumUp_144 : decode bn_M_sumUp 144 = .ok (.iadd, 1) := by decide +kernel
theorem dn_M_sumUp_145 : decode bn_M_sumUp 145 = .ok (.aload_n 0, 1) := by decide +kernel
theorem dn_M_sumUp_146 : decode bn_M_sumUp 146 = .ok (.getfield 34, 3) := by decide +kernel
theorem dn_M_sumUp_149 : decode bn_M_sumUp 149 = .ok (.iload_n 3, 1) := by decide +kernel
theorem dn_M_sumUp_150 : decode bn_M_sumUp 150 = .ok (.iaload, 1) := by decide +kernel
theorem dn_M_sumUp_151 : decode bn_M_sumUp 151 = .ok (.isub, 1) := by decide +kernel
theorem dn_M_sumUp_152 : decode bn_M_sumUp 152 = .ok (.putfield 570, 3) := by decide +kernel
theorem dn_M_sumUp_155 : decode bn_M_sumUp 155 = .ok (.iinc 2 1, 3) := by decide +kernel
theorem dn_M_sumUp_158 : decode bn_M_sumUp 158 = .ok (.goto (-42), 3) := by decide +kernel
theorem dn_M_sumUp_161 : decode bn_M_sumUp 161 = .ok (.return_, 1) := by decide +kernel
theorem dn_M_take_0 : decode bn_M_take 0 = .ok (.aload_n 0, 1) := by decide +kernel
theorem dn_M_take_1 : decode bn_M_take 1 = .ok (.getfield 257, 3) := by decide +kernel
theorem dn_M_take_4 : decode bn_M_take 4 = .ok (.ifCond .ne 29, 3) := by decide +kernel
theorem dn_M_take_7 : decode bn_M_take 7 = .ok (.aload_n 0, 1) := by decide +kernel
theorem dn_M_take_8 : decode bn_M_take 8 = .ok (.getfield 15, 3) := by decide +kernel
theorem dn_M_take_11 : decode bn_M_take 11 = .ok (.aload_n 0, 1) := by decide +kernel
theorem dn_M_take_12 : decode bn_M_take 12 = .ok (.getfield 263, 3) := by decide +kernel
theorem dn_M_take_15 : decode bn_M_take 15 = .ok (.iaload, 1) := by decide +kernel
theorem dn_M_take_16 : decode bn_M_take 16 = .ok (.iload_n 1, 1) := by decide +kernel
theorem dn_M_take_17 : decode bn_M_take 17 = .ok (.if_icmp .ne 16, 3) := by decide +kernel
theorem dn_M_take_20 : decode bn_M_take 20 = .ok (.aload_n 0, 1) := by decide +kernel
theorem dn_M_take_21 : decode bn_M_take 21 = .ok (.dup, 1) := by decide +kernel
theorem dn_M_take_22 : decode bn_M_take 22 = .ok (.getfield 263, 3) := by decide +kernel
theorem dn_M_take_25 : decode bn_M_take 25 = .ok (.iconst 1, 1) := by decide +kernel
theorem dn_M_take_26 : decode bn_M_take 26 = .ok (.iadd, 1) := by decide +kernel
theorem dn_M_take_27 : decode bn_M_take 27 = .ok (.putfield 263, 3) := by decide +kernel
theorem dn_M_take_30 : decode bn_M_take 30 = .ok (.goto 7, 3) := by decide +kernel
theorem dn_M_take_33 : decode bn_M_take 33 = .ok (.aload_n 0, 1) := by decide +kernel
theorem dn_M_take_34 : decode bn_M_take 34 = .ok (.invokevirtual 270, 3) := by decide +kernel
theorem dn_M_take_37 : decode bn_M_take 37 = .ok (.return_, 1) := by decide +kernel
theorem dn_M_thrown_0 : decode bn_M_thrown 0 = .ok (.aload_n 0, 1) := by decide +kernel
theorem dn_M_thrown_1 : decode bn_M_thrown 1 = .ok (.getfield 192, 3) := by decide +kernel
theorem dn_M_thrown_4 : decode bn_M_thrown 4 = .ok (.ireturn, 1) := by decide +kernel
theorem dn_M_token_0 : decode bn_M_token 0 = .ok (.aload_n 0, 1) := by decide +kernel
theorem dn_M_token_1 : decode bn_M_token 1 = .ok (.getfield 15, 3) := by decide +kernel
theorem dn_M_token_4 : decode bn_M_token 4 = .ok (.aload_n 0, 1) := by decide +kernel
theorem dn_M_token_5 : decode bn_M_token 5 = .ok (.getfield 231, 3) := by decide +kernel
theorem dn_M_token_8 : decode bn_M_token 8 = .ok (.iload_n 1, 1) := by decide +kernel
theorem dn_M_token_9 : decode bn_M_token 9 = .ok (.iastore, 1) := by decide +kernel
theorem dn_M_token_10 : decode bn_M_token 10 = .ok (.aload_n 0, 1) := by decide +kernel
theorem dn_M_token_11 : decode bn_M_token 11 = .ok (.getfield 19, 3) := by decide +kernel
theorem dn_M_token_14 : decode bn_M_token 14 = .ok (.aload_n 0, 1) := by decide +kernel
theorem dn_M_token_15 : decode bn_M_token 15 = .ok (.getfield 231, 3) := by decide +kernel
theorem dn_M_token_18 : decode bn_M_token 18 = .ok (.iload_n 2, 1) := by decide +kernel
theorem dn_M_token_19 : decode bn_M_token 19 = .ok (.iastore, 1) := by decide +kernel
theorem dn_M_token_20 : decode bn_M_token 20 = .ok (.aload_n 0, 1) := by decide +kernel
theorem dn_M_token_21 : decode bn_M_token 21 = .ok (.getfield 22, 3) := by decide +kernel
theorem dn_M_token_24 : decode bn_M_token 24 = .ok (.aload_n 0, 1) := by decide +kernel
theorem dn_M_token_25 : decode bn_M_token 25 = .ok (.getfield 231, 3) := by decide +kernel
theorem dn_M_token_28 : decode bn_M_token 28 = .ok (.iload_n 3, 1) := by decide +kernel
theorem dn_M_token_29 : decode bn_M_token 29 = .ok (.iastore, 1) := by decide +kernel
theorem dn_M_token_30 : decode bn_M_token 30 = .ok (.aload_n 0, 1) := by decide +kernel
theorem dn_M_token_31 : decode bn_M_token 31 = .ok (.dup, 1) := by decide +kernel
theorem dn_M_token_32 : decode bn_M_token 32 = .ok (.getfield 231, 3) := by decide +kernel
theorem dn_M_token_35 : decode bn_M_token 35 = .ok (.iconst 1, 1) := by decide +kernel
theorem dn_M_token_36 : decode bn_M_token 36 = .ok (.iadd, 1) := by decide +kernel
theorem dn_M_token_37 : decode bn_M_token 37 = .ok (.putfield 231, 3) := by decide +kernel
theorem dn_M_token_40 : decode bn_M_token 40 = .ok (.return_, 1) := by decide +kernel
theorem dn_M_two_0 : decode bn_M_two 0 = .ok (.iload_n 0, 1) := by decide +kernel
theorem dn_M_two_1 : decode bn_M_two 1 = .ok (.lookupswitch 347 #[(38, 179), (43, 327), (45, 337), (60, 210), (62, 240), (94, 174), (124, 169), (256, 150), (257, 131), (258, 184), (259, 197), (260, 225), (261, 255), (262, 270), (263, 301)], 131) := by decide +kernel
theorem dn_M_two_132 : decode bn_M_two 132 = .ok (.lload_n 2, 1) := by decide +kernel
theorem dn_M_two_133 : decode bn_M_two 133 = .ok (.lconst 0, 1) := by decide +kernel
theorem dn_M_two_134 : decode bn_M_two 134 = .ok (.lcmp, 1) := by decide +kernel
theorem dn_M_two_135 : decode bn_M_two 135 = .ok (.ifCond .ne 10, 3) := by decide +kernel
theorem dn_M_two_138 : decode bn_M_two 138 = .ok (.lload 4, 2) := by decide +kernel
theorem dn_M_two_140 : decode bn_M_two 140 = .ok (.lconst 0, 1) := by decide +kernel
theorem dn_M_two_141 : decode bn_M_two 141 = .ok (.lcmp, 1) := by decide +kernel
theorem dn_M_two_142 : decode bn_M_two 142 = .ok (.ifCond .eq 7, 3) := by decide +kernel
theorem dn_M_two_145 : decode bn_M_two 145 = .ok (.lconst 1, 1) := by decide +kernel
theorem dn_M_two_146 : decode bn_M_two 146 = .ok (.goto 4, 3) := by decide +kernel
theorem dn_M_two_149 : decode bn_M_two 149 = .ok (.lconst 0, 1) := by decide +kernel
theorem dn_M_two_150 : decode bn_M_two 150 = .ok (.lreturn, 1) := by decide +kernel
theorem dn_M_two_151 : decode bn_M_two 151 = .ok (.lload_n 2, 1) := by decide +kernel
theorem dn_M_two_152 : decode bn_M_two 152 = .ok (.lconst 0, 1) := by decide +kernel
theorem dn_M_two_153 : decode bn_M_two 153 = .ok (.lcmp, 1) := by decide +kernel
theorem dn_M_two_154 : decode bn_M_two 154 = .ok (.ifCond .eq 14, 3) := by decide +kernel
theorem dn_M_two_157 : decode bn_M_two 157 = .ok (.lload 4, 2) := by decide +kernel
theorem dn_M_two_159 : decode bn_M_two 159 = .ok (.lconst 0, 1) := by decide +kernel
theorem dn_M_two_160 : decode bn_M_two 160 = .ok (.lcmp, 1) := by decide +kernel
theorem dn_M_two_161 : decode bn_M_two 161 = .ok (.ifCond .eq 7, 3) := by decide +kernel
theorem dn_M_two_164 : decode bn_M_two 164 = .ok (.lconst 1, 1) := by decide +kernel
theorem dn_M_two_165 : decode bn_M_two 165 = .ok (.goto 4, 3) := by decide +kernel
theorem dn_M_two_168 : decode bn_M_two 168 = .ok (.lconst 0, 1) := by decide +kernel
theorem dn_M_two_169 : decode bn_M_two 169 = .ok (.lreturn, 1) := by decide +kernel
theorem dn_M_two_170 : decode bn_M_two 170 = .ok (.lload_n 2, 1) := by decide +kernel
theorem dn_M_two_171 : decode bn_M_two 171 = .ok (.lload 4, 2) := by decide +kernel
theorem dn_M_two_173 : decode bn_M_two 173 = .ok (.lor, 1) := by decide +kernel
theorem dn_M_two_174 : decode bn_M_two 174 = .ok (.lreturn, 1) := by decide +kernel
theorem dn_M_two_175 : decode bn_M_two 175 = .ok (.lload_n 2, 1) := by decide +kernel
theorem dn_M_two_176 : decode bn_M_two 176 = .ok (.lload 4, 2) := by decide +kernel
theorem dn_M_two_178 : decode bn_M_two 178 = .ok (.lxor, 1) := by decide +kernel
theorem dn_M_two_179 : decode bn_M_two 179 = .ok (.lreturn, 1) := by decide +kernel
theorem dn_M_two_180 : decode bn_M_two 180 = .ok (.lload_n 2, 1) := by decide +kernel
theorem dn_M_two_181 : decode bn_M_two 181 = .ok (.lload 4, 2) := by decide +kernel
theorem dn_M_two_183 : decode bn_M_two 183 = .ok (.land, 1) := by decide +kernel
theorem dn_M_two_184 : decode bn_M_two 184 = .ok (.lreturn, 1) := by decide +kernel
theorem dn_M_two_185 : decode bn_M_two 185 = .ok (.lload_n 2, 1) := by decide +kernel
theorem dn_M_two_186 : decode bn_M_two 186 = .ok (.lload 4, 2) := by decide +kernel
theorem dn_M_two_188 : decode bn_M_two 188 = .ok (.lcmp, 1) := by decide +kernel
theorem dn_M_two_189 : decode bn_M_two 189 = .ok (.ifCond .ne 7, 3) := by decide +kernel
theorem dn_M_two_192 : decode bn_M_two 192 = .ok (.lconst 1, 1) := by decide +kernel
theorem dn_M_two_193 : decode bn_M_two 193 = .ok (.goto 4, 3) := by decide +kernel
theorem dn_M_two_196 : decode bn_M_two 196 = .ok (.lconst 0, 1) := by decide +kernel
theorem dn_M_two_197 : decode bn_M_two 197 = .ok (.lreturn, 1) := by decide +kernel
theorem dn_M_two_198 : decode bn_M_two 198 = .ok (.lload_n 2, 1) := by decide +kernel
theorem dn_M_two_199 : decode bn_M_two 199 = .ok (.lload 4, 2) := by decide +kernel
theorem dn_M_two_201 : decode bn_M_two 201 = .ok (.lcmp, 1) := by decide +kernel
theorem dn_M_two_202 : decode bn_M_two 202 = .ok (.ifCond .eq 7, 3) := by decide +kernel
theorem dn_M_two_205 : decode bn_M_two 205 = .ok (.lconst 1, 1) := by decide +kernel
theorem dn_M_two_206 : decode bn_M_two 206 = .ok (.goto 4, 3) := by decide +kernel
theorem dn_M_two_209 : decode bn_M_two 209 = .ok (.lconst 0, 1) := by decide +kernel
theorem dn_M_two_210 : decode bn_M_two 210 = .ok (.lreturn, 1) := by decide +kernel
theorem dn_M_two_211 : decode bn_M_two 211 = .ok (.lload_n 2, 1) := by decide +kernel
theorem dn_M_two_212 : decode bn_M_two 212 = .ok (.lload 4, 2) := by decide +kernel
theorem dn_M_two_214 : decode bn_M_two 214 = .ok (.invokestatic 577, 3) := by decide +kernel
theorem dn_M_two_217 : decode bn_M_two 217 = .ok (.ifCond .eq 7, 3) := by decide +kernel
theorem dn_M_two_220 : decode bn_M_two 220 = .ok (.lconst 1, 1) := by decide +kernel
theorem dn_M_two_221 : decode bn_M_two 221 = .ok (.goto 4, 3) := by decide +kernel
theorem dn_M_two_224 : decode bn_M_two 224 = .ok (.lconst 0, 1) := by decide +kernel
theorem dn_M_two_225 : decode bn_M_two 225 = .ok (.lreturn, 1) := by decide +kernel
theorem dn_M_two_226 : decode bn_M_two 226 = .ok (.lload 4, 2) := by decide +kernel
theorem dn_M_two_228 : decode bn_M_two 228 = .ok (.lload_n 2, 1) := by decide +kernel
theorem dn_M_two_229 : decode bn_M_two 229 = .ok (.invokestatic 577, 3) := by decide +kernel
theorem dn_M_two_232 : decode bn_M_two 232 = .ok (.ifCond .eq 7, 3) := by decide +kernel
theorem dn_M_two_235 : decode bn_M_two 235 = .ok (.lconst 0, 1) := by decide +kernel
theorem dn_M_two_236 : decode bn_M_two 236 = .ok (.goto 4, 3) := by decide +kernel
theorem dn_M_two_239 : decode bn_M_two 239 = .ok (.lconst 1, 1) := by decide +kernel
theorem dn_M_two_240 : decode bn_M_two 240 = .ok (.lreturn, 1) := by decide +kernel
theorem dn_M_two_241 : decode bn_M_two 241 = .ok (.lload 4, 2) := by decide +kernel
theorem dn_M_two_243 : decode bn_M_two 243 = .ok (.lload_n 2, 1) := by decide +kernel
theorem dn_M_two_244 : decode bn_M_two 244 = .ok (.invokestatic 577, 3) := by decide +kernel
theorem dn_M_two_247 : decode bn_M_two 247 = .ok (.ifCond .eq 7, 3) := by decide +kernel
theorem dn_M_two_250 : decode bn_M_two 250 = .ok (.lconst 1, 1) := by decide +kernel
theorem dn_M_two_251 : decode bn_M_two 251 = .ok (.goto 4, 3) := by decide +kernel
theorem dn_M_two_254 : decode bn_M_two 254 = .ok (.lconst 0, 1) := by decide +kernel
theorem dn_M_two_255 : decode bn_M_two 255 = .ok (.lreturn, 1) := by decide +kernel
theorem dn_M_two_256 : decode bn_M_two 256 = .ok (.lload_n 2, 1) := by decide +kernel
theorem dn_M_two_257 : decode bn_M_two 257 = .ok (.lload 4, 2) := by decide +kernel
theorem dn_M_two_259 : decode bn_M_two 259 = .ok (.invokestatic 577, 3) := by decide +kernel
theorem dn_M_two_262 : decode bn_M_two 262 = .ok (.ifCond .eq 7, 3) := by decide +kernel
theorem dn_M_two_265 : decode bn_M_two 265 = .ok (.lconst 0, 1) := by decide +kernel
theorem dn_M_two_266 : decode bn_M_two 266 = .ok (.goto 4, 3) := by decide +kernel
theorem dn_M_two_269 : decode bn_M_two 269 = .ok (.lconst 1, 1) := by decide +kernel
theorem dn_M_two_270 : decode bn_M_two 270 = .ok (.lreturn, 1) := by decide +kernel
theorem dn_M_two_271 : decode bn_M_two 271 = .ok (.lload 4, 2) := by decide +kernel
theorem dn_M_two_273 : decode bn_M_two 273 = .ok (.lconst 0, 1) := by decide +kernel
theorem dn_M_two_274 : decode bn_M_two 274 = .ok (.lcmp, 1) := by decide +kernel
theorem dn_M_two_275 : decode bn_M_two 275 = .ok (.ifCond .lt 12, 3) := by decide +kernel
theorem dn_M_two_278 : decode bn_M_two 278 = .ok (.lload 4, 2) := by decide +kernel
theorem dn_M_two_280 : decode bn_M_two 280 = .ok (.ldc2_w 406, 3) := by decide +kernel
theorem dn_M_two_283 : decode bn_M_two 283 = .ok (.lcmp, 1) := by decide +kernel
theorem dn_M_two_284 : decode bn_M_two 284 = .ok (.ifCond .le 7, 3) := by decide +kernel
theorem dn_M_two_287 : decode bn_M_two 287 = .ok (.lconst 0, 1) := by decide +kernel
theorem dn_M_two_288 : decode bn_M_two 288 = .ok (.goto 13, 3) := by decide +kernel
theorem dn_M_two_291 : decode bn_M_two 291 = .ok (.lload_n 2, 1) := by decide +kernel
theorem dn_M_two_292 : decode bn_M_two 292 = .ok (.lload 4, 2) := by decide +kernel
theorem dn_M_two_294 : decode bn_M_two 294 = .ok (.l2i, 1) := by decide +kernel
theorem dn_M_two_295 : decode bn_M_two 295 = .ok (.lshl, 1) := by decide +kernel
theorem dn_M_two_296 : decode bn_M_two 296 = .ok (.iload_n 1, 1) := by decide +kernel
theorem dn_M_two_297 : decode bn_M_two 297 = .ok (.invokestatic 581, 3) := by decide +kernel
theorem dn_M_two_300 : decode bn_M_two 300 = .ok (.land, 1) := by decide +kernel
theorem dn_M_two_301 : decode bn_M_two 301 = .ok (.lreturn, 1) := by decide +kernel
theorem dn_M_two_302 : decode bn_M_two 302 = .ok (.lload 4, 2) := by decide +kernel
theorem dn_M_two_304 : decode bn_M_two 304 = .ok (.lconst 0, 1) := by decide +kernel
theorem dn_M_two_305 : decode bn_M_two 305 = .ok (.lcmp, 1) := by decide +kernel
theorem dn_M_two_306 : decode bn_M_two 306 = .ok (.ifCond .lt 12, 3) := by decide +kernel
theorem dn_M_two_309 : decode bn_M_two 309 = .ok (.lload 4, 2) := by decide +kernel
theorem dn_M_two_311 : decode bn_M_two 311 = .ok (.ldc2_w 406, 3) := by decide +kernel
theorem dn_M_two_314 : decode bn_M_two 314 = .ok (.lcmp, 1) := by decide +kernel
theorem dn_M_two_315 : decode bn_M_two 315 = .ok (.ifCond .le 7, 3) := by decide +kernel
theorem dn_M_two_318 : decode bn_M_two 318 = .ok (.lconst 0, 1) := by decide +kernel
theorem dn_M_two_319 : decode bn_M_two 319 = .ok (.goto 8, 3) := by decide +kernel
theorem dn_M_two_322 : decode bn_M_two 322 = .ok (.lload_n 2, 1) := by decide +kernel
theorem dn_M_two_323 : decode bn_M_two 323 = .ok (.lload 4, 2) := by decide +kernel
theorem dn_M_two_325 : decode bn_M_two 325 = .ok (.l2i, 1) := by decide +kernel
theorem dn_M_two_326 : decode bn_M_two 326 = .ok (.lushr, 1) := by decide +kernel
theorem dn_M_two_327 : decode bn_M_two 327 = .ok (.lreturn, 1) := by decide +kernel
theorem dn_M_two_328 : decode bn_M_two 328 = .ok (.lload_n 2, 1) := by decide +kernel
theorem dn_M_two_329 : decode bn_M_two 329 = .ok (.lload 4, 2) := by decide +kernel
theorem dn_M_two_331 : decode bn_M_two 331 = .ok (.ladd, 1) := by decide +kernel
theorem dn_M_two_332 : decode bn_M_two 332 = .ok (.iload_n 1, 1) := by decide +kernel
theorem dn_M_two_333 : decode bn_M_two 333 = .ok (.invokestatic 581, 3) := by decide +kernel
theorem dn_M_two_336 : decode bn_M_two 336 = .ok (.land, 1) := by decide +kernel
theorem dn_M_two_337 : decode bn_M_two 337 = .ok (.lreturn, 1) := by decide +kernel
theorem dn_M_two_338 : decode bn_M_two 338 = .ok (.lload_n 2, 1) := by decide +kernel
theorem dn_M_two_339 : decode bn_M_two 339 = .ok (.lload 4, 2) := by decide +kernel
theorem dn_M_two_341 : decode bn_M_two 341 = .ok (.lsub, 1) := by decide +kernel
theorem dn_M_two_342 : decode bn_M_two 342 = .ok (.iload_n 1, 1) := by decide +kernel
theorem dn_M_two_343 : decode bn_M_two 343 = .ok (.invokestatic 581, 3) := by decide +kernel
theorem dn_M_two_346 : decode bn_M_two 346 = .ok (.land, 1) := by decide +kernel
theorem dn_M_two_347 : decode bn_M_two 347 = .ok (.lreturn, 1) := by decide +kernel
theorem dn_M_two_348 : decode bn_M_two 348 = .ok (.lload_n 2, 1) := by decide +kernel
theorem dn_M_two_349 : decode bn_M_two 349 = .ok (.lload 4, 2) := by decide +kernel
theorem dn_M_two_351 : decode bn_M_two 351 = .ok (.lmul, 1) := by decide +kernel
theorem dn_M_two_352 : decode bn_M_two 352 = .ok (.iload_n 1, 1) := by decide +kernel
theorem dn_M_two_353 : decode bn_M_two 353 = .ok (.invokestatic 581, 3) := by decide +kernel
theorem dn_M_two_356 : decode bn_M_two 356 = .ok (.land, 1) := by decide +kernel
theorem dn_M_two_357 : decode bn_M_two 357 = .ok (.lreturn, 1) := by decide +kernel
theorem dn_M_value_0 : decode bn_M_value 0 = .ok (.aload_n 0, 1) := by decide +kernel
theorem dn_M_value_1 : decode bn_M_value 1 = .ok (.aload_n 0, 1) := by decide +kernel
theorem dn_M_value_2 : decode bn_M_value 2 = .ok (.getfield 545, 3) := by decide +kernel
theorem dn_M_value_5 : decode bn_M_value 5 = .ok (.ifCond .ne 7, 3) := by decide +kernel
theorem dn_M_value_8 : decode bn_M_value 8 = .ok (.iconst 1, 1) := by decide +kernel
theorem dn_M_value_9 : decode bn_M_value 9 = .ok (.goto 16, 3) := by decide +kernel
theorem dn_M_value_12 : decode bn_M_value 12 = .ok (.aload_n 0, 1) := by decide +kernel
theorem dn_M_value_13 : decode bn_M_value 13 = .ok (.iload_n 1, 1) := by decide +kernel
theorem dn_M_value_14 : decode bn_M_value 14 = .ok (.invokevirtual 618, 3) := by decide +kernel
theorem dn_M_value_17 : decode bn_M_value 17 = .ok (.ifCond .ne 7, 3) := by decide +kernel
theorem dn_M_value_20 : decode bn_M_value 20 = .ok (.iconst 2, 1) := by decide +kernel
theorem dn_M_value_21 : decode bn_M_value 21 = .ok (.goto 4, 3) := by decide +kernel
theorem dn_M_value_24 : decode bn_M_value 24 = .ok (.iconst 0, 1) := by decide +kernel
theorem dn_M_value_25 : decode bn_M_value 25 = .ok (.putfield 192, 3) := by decide +kernel
theorem dn_M_value_28 : decode bn_M_value 28 = .ok (.aload_n 0, 1) := by decide +kernel
theorem dn_M_value_29 : decode bn_M_value 29 = .ok (.getfield 192, 3) := by decide +kernel
theorem dn_M_value_32 : decode bn_M_value 32 = .ok (.ifCond .le 7, 3) := by decide +kernel
theorem dn_M_value_35 : decode bn_M_value 35 = .ok (.lconst 0, 1) := by decide +kernel
theorem dn_M_value_36 : decode bn_M_value 36 = .ok (.goto 9, 3) := by decide +kernel
theorem dn_M_value_39 : decode bn_M_value 39 = .ok (.aload_n 0, 1) := by decide +kernel
theorem dn_M_value_40 : decode bn_M_value 40 = .ok (.getfield 174, 3) := by decide +kernel
theorem dn_M_value_43 : decode bn_M_value 43 = .ok (.iload_n 1, 1) := by decide +kernel
theorem dn_M_value_44 : decode bn_M_value 44 = .ok (.laload, 1) := by decide +kernel
theorem dn_M_value_45 : decode bn_M_value 45 = .ok (.lreturn, 1) := by decide +kernel
theorem dn_M_widthOfNumber_0 : decode bn_M_widthOfNumber 0 = .ok (.aload_n 0, 1) := by decide +kernel
theorem dn_M_widthOfNumber_1 : decode bn_M_widthOfNumber 1 = .ok (.getfield 19, 3) := by decide +kernel
theorem dn_M_widthOfNumber_4 : decode bn_M_widthOfNumber 4 = .ok (.iload_n 1, 1) := by decide +kernel
theorem dn_M_widthOfNumber_5 : decode bn_M_widthOfNumber 5 = .ok (.iaload, 1) := by decide +kernel
theorem dn_M_widthOfNumber_6 : decode bn_M_widthOfNumber 6 = .ok (.istore_n 2, 1) := by decide +kernel
theorem dn_M_widthOfNumber_7 : decode bn_M_widthOfNumber 7 = .ok (.iconst 0, 1) := by decide +kernel
theorem dn_M_widthOfNumber_8 : decode bn_M_widthOfNumber 8 = .ok (.istore_n 3, 1) := by decide +kernel
theorem dn_M_widthOfNumber_9 : decode bn_M_widthOfNumber 9 = .ok (.aload_n 0, 1) := by decide +kernel
theorem dn_M_widthOfNumber_10 : decode bn_M_widthOfNumber 10 = .ok (.iload_n 2, 1) := by decide +kernel
theorem dn_M_widthOfNumber_11 : decode bn_M_widthOfNumber 11 = .ok (.invokevirtual 206, 3) := by decide +kernel
theorem dn_M_widthOfNumber_14 : decode bn_M_widthOfNumber 14 = .ok (.invokestatic 203, 3) := by decide +kernel
theorem dn_M_widthOfNumber_17 : decode bn_M_widthOfNumber 17 = .ok (.ifCond .eq 23, 3) := by decide +kernel
theorem dn_M_widthOfNumber_20 : decode bn_M_widthOfNumber 20 = .ok (.iload_n 3, 1) := by decide +kernel
theorem dn_M_widthOfNumber_21 : decode bn_M_widthOfNumber 21 = .ok (.bipush 10, 2) := by decide +kernel
theorem dn_M_widthOfNumber_23 : decode bn_M_widthOfNumber 23 = .ok (.imul, 1) := by decide +kernel
theorem dn_M_widthOfNumber_24 : decode bn_M_widthOfNumber 24 = .ok (.aload_n 0, 1) := by decide +kernel
theorem dn_M_widthOfNumber_25 : decode bn_M_widthOfNumber 25 = .ok (.iload_n 2, 1) := by decide +kernel
theorem dn_M_widthOfNumber_26 : decode bn_M_widthOfNumber 26 = .ok (.invokevirtual 206, 3) := by decide +kernel
theorem dn_M_widthOfNumber_29 : decode bn_M_widthOfNumber 29 = .ok (.iadd, 1) := by decide +kernel
theorem dn_M_widthOfNumber_30 : decode bn_M_widthOfNumber 30 = .ok (.bipush 48, 2) := by decide +kernel
theorem dn_M_widthOfNumber_32 : decode bn_M_widthOfNumber 32 = .ok (.isub, 1) := by decide +kernel
theorem dn_M_widthOfNumber_33 : decode bn_M_widthOfNumber 33 = .ok (.istore_n 3, 1) := by decide +kernel
theorem dn_M_widthOfNumber_34 : decode bn_M_widthOfNumber 34 = .ok (.iinc 2 1, 3) := by decide +kernel
theorem dn_M_widthOfNumber_37 : decode bn_M_widthOfNumber 37 = .ok (.goto (-28), 3) := by decide +kernel
theorem dn_M_widthOfNumber_40 : decode bn_M_widthOfNumber 40 = .ok (.iload_n 3, 1) := by decide +kernel
theorem dn_M_widthOfNumber_41 : decode bn_M_widthOfNumber 41 = .ok (.ireturn, 1) := by decide +kernel
theorem dn_M_wordKind_0 : decode bn_M_wordKind 0 = .ok (.iconst 0, 1) := by decide +kernel
theorem dn_M_wordKind_1 : decode bn_M_wordKind 1 = .ok (.istore_n 3, 1) := by decide +kernel
theorem dn_M_wordKind_2 : decode bn_M_wordKind 2 = .ok (.iconst 0, 1) := by decide +kernel
theorem dn_M_wordKind_3 : decode bn_M_wordKind 3 = .ok (.istore 4, 2) := by decide +kernel
theorem dn_M_wordKind_5 : decode bn_M_wordKind 5 = .ok (.iload_n 3, 1) := by decide +kernel
theorem dn_M_wordKind_6 : decode bn_M_wordKind 6 = .ok (.getstatic 210, 3) := by decide +kernel
theorem dn_M_wordKind_9 : decode bn_M_wordKind 9 = .ok (.arraylength, 1) := by decide +kernel
theorem dn_M_wordKind_10 : decode bn_M_wordKind 10 = .ok (.if_icmp .ge 100, 3) := by decide +kernel
theorem dn_M_wordKind_13 : decode bn_M_wordKind 13 = .ok (.iconst 0, 1) := by decide +kernel
theorem dn_M_wordKind_14 : decode bn_M_wordKind 14 = .ok (.istore 5, 2) := by decide +kernel
theorem dn_M_wordKind_16 : decode bn_M_wordKind 16 = .ok (.iconst 1, 1) := by decide +kernel
theorem dn_M_wordKind_17 : decode bn_M_wordKind 17 = .ok (.istore 6, 2) := by decide +kernel
theorem dn_M_wordKind_19 : decode bn_M_wordKind 19 = .ok (.getstatic 210, 3) := by decide +kernel
theorem dn_M_wordKind_22 : decode bn_M_wordKind 22 = .ok (.iload_n 3, 1) := by decide +kernel
theorem dn_M_wordKind_23 : decode bn_M_wordKind 23 = .ok (.iload 5, 2) := by decide +kernel
theorem dn_M_wordKind_25 : decode bn_M_wordKind 25 = .ok (.iadd, 1) := by decide +kernel
theorem dn_M_wordKind_26 : decode bn_M_wordKind 26 = .ok (.baload, 1) := by decide +kernel
theorem dn_M_wordKind_27 : decode bn_M_wordKind 27 = .ok (.bipush 32, 2) := by decide +kernel
theorem dn_M_wordKind_29 : decode bn_M_wordKind 29 = .ok (.if_icmp .eq 48, 3) := by decide +kernel
theorem dn_M_wordKind_32 : decode bn_M_wordKind 32 = .ok (.iload 6, 2) := by decide +kernel
theorem dn_M_wordKind_34 : decode bn_M_wordKind 34 = .ok (.ifCond .eq 34, 3) := by decide +kernel
theorem dn_M_wordKind_37 : decode bn_M_wordKind 37 = .ok (.iload_n 1, 1) := by decide +kernel
theorem dn_M_wordKind_38 : decode bn_M_wordKind 38 = .ok (.iload 5, 2) := by decide +kernel
theorem dn_M_wordKind_40 : decode bn_M_wordKind 40 = .ok (.iadd, 1) := by decide +kernel
theorem dn_M_wordKind_41 : decode bn_M_wordKind 41 = .ok (.iload_n 2, 1) := by decide +kernel
theorem dn_M_wordKind_42 : decode bn_M_wordKind 42 = .ok (.if_icmp .ge 26, 3) := by decide +kernel
theorem dn_M_wordKind_45 : decode bn_M_wordKind 45 = .ok (.aload_n 0, 1) := by decide +kernel
theorem dn_M_wordKind_46 : decode bn_M_wordKind 46 = .ok (.iload_n 1, 1) := by decide +kernel
theorem dn_M_wordKind_47 : decode bn_M_wordKind 47 = .ok (.iload 5, 2) := by decide +kernel
theorem dn_M_wordKind_49 : decode bn_M_wordKind 49 = .ok (.iadd, 1) := by decide +kernel
theorem dn_M_wordKind_50 : decode bn_M_wordKind 50 = .ok (.invokevirtual 206, 3) := by decide +kernel
theorem dn_M_wordKind_53 : decode bn_M_wordKind 53 = .ok (.getstatic 210, 3) := by decide +kernel
theorem dn_M_wordKind_56 : decode bn_M_wordKind 56 = .ok (.iload_n 3, 1) := by decide +kernel
theorem dn_M_wordKind_57 : decode bn_M_wordKind 57 = .ok (.iload 5, 2) := by decide +kernel
theorem dn_M_wordKind_59 : decode bn_M_wordKind 59 = .ok (.iadd, 1) := by decide +kernel
theorem dn_M_wordKind_60 : decode bn_M_wordKind 60 = .ok (.baload, 1) := by decide +kernel
theorem dn_M_wordKind_61 : decode bn_M_wordKind 61 = .ok (.if_icmp .ne 7, 3) := by decide +kernel
theorem dn_M_wordKind_64 : decode bn_M_wordKind 64 = .ok (.iconst 1, 1) := by decide +kernel
theorem dn_M_wordKind_65 : decode bn_M_wordKind 65 = .ok (.goto 4, 3) := by decide +kernel
theorem dn_M_wordKind_68 : decode bn_M_wordKind 68 = .ok (.iconst 0, 1) := by decide +kernel
theorem dn_M_wordKind_69 : decode bn_M_wordKind 69 = .ok (.istore 6, 2) := by decide +kernel
theorem dn_M_wordKind_71 : decode bn_M_wordKind 71 = .ok (.iinc 5 1, 3) := by decide +kernel
theorem dn_M_wordKind_74 : decode bn_M_wordKind 74 = .ok (.goto (-55), 3) := by decide +kernel
theorem dn_M_wordKind_77 : decode bn_M_wordKind 77 = .ok (.iload 6, 2) := by decide +kernel
theorem dn_M_wordKind_79 : decode bn_M_wordKind 79 = .ok (.ifCond .eq 18, 3) := by decide +kernel
theorem dn_M_wordKind_82 : decode bn_M_wordKind 82 = .ok (.iload 5, 2) := by decide +kernel
theorem dn_M_wordKind_84 : decode bn_M_wordKind 84 = .ok (.iload_n 2, 1) := by decide +kernel
theorem dn_M_wordKind_85 : decode bn_M_wordKind 85 = .ok (.iload_n 1, 1) := by decide +kernel
theorem dn_M_wordKind_86 : decode bn_M_wordKind 86 = .ok (.isub, 1) := by decide +kernel
theorem dn_M_wordKind_87 : decode bn_M_wordKind 87 = .ok (.if_icmp .ne 10, 3) := by decide +kernel
theorem dn_M_wordKind_90 : decode bn_M_wordKind 90 = .ok (.sipush 300, 3) := by decide +kernel
theorem dn_M_wordKind_93 : decode bn_M_wordKind 93 = .ok (.iload 4, 2) := by decide +kernel
theorem dn_M_wordKind_95 : decode bn_M_wordKind 95 = .ok (.iadd, 1) := by decide +kernel
theorem dn_M_wordKind_96 : decode bn_M_wordKind 96 = .ok (.ireturn, 1) := by decide +kernel
theorem dn_M_wordKind_97 : decode bn_M_wordKind 97 = .ok (.iload_n 3, 1) := by decide +kernel
theorem dn_M_wordKind_98 : decode bn_M_wordKind 98 = .ok (.iload 5, 2) := by decide +kernel
theorem dn_M_wordKind_100 : decode bn_M_wordKind 100 = .ok (.iadd, 1) := by decide +kernel
theorem dn_M_wordKind_101 : decode bn_M_wordKind 101 = .ok (.iconst 1, 1) := by decide +kernel
theorem dn_M_wordKind_102 : decode bn_M_wordKind 102 = .ok (.iadd, 1) := by decide +kernel
theorem dn_M_wordKind_103 : decode bn_M_wordKind 103 = .ok (.istore_n 3, 1) := by decide +kernel
theorem dn_M_wordKind_104 : decode bn_M_wordKind 104 = .ok (.iinc 4 1, 3) := by decide +kernel
theorem dn_M_wordKind_107 : decode bn_M_wordKind 107 = .ok (.goto (-102), 3) := by decide +kernel
theorem dn_M_wordKind_110 : decode bn_M_wordKind 110 = .ok (.sipush 400, 3) := by decide +kernel
theorem dn_M_wordKind_113 : decode bn_M_wordKind 113 = .ok (.ireturn, 1) := by decide +kernel
theorem dn_M_writeOut_0 : decode bn_M_writeOut 0 = .ok (.aload_n 0, 1) := by decide +kernel
theorem dn_M_writeOut_1 : decode bn_M_writeOut 1 = .ok (.iconst 0, 1) := by decide +kernel
theorem dn_M_writeOut_2 : decode bn_M_writeOut 2 = .ok (.putfield 494, 3) := by decide +kernel
theorem dn_M_writeOut_5 : decode bn_M_writeOut 5 = .ok (.aload_n 0, 1) := by decide +kernel
theorem dn_M_writeOut_6 : decode bn_M_writeOut 6 = .ok (.iconst 0, 1) := by decide +kernel
theorem dn_M_writeOut_7 : decode bn_M_writeOut 7 = .ok (.putfield 497, 3) := by decide +kernel
theorem dn_M_writeOut_10 : decode bn_M_writeOut 10 = .ok (.iconst 0, 1) := by decide +kernel
theorem dn_M_writeOut_11 : decode bn_M_writeOut 11 = .ok (.istore_n 1, 1) := by decide +kernel
theorem dn_M_writeOut_12 : decode bn_M_writeOut 12 = .ok (.aload_n 0, 1) := by decide +kernel
theorem dn_M_writeOut_13 : decode bn_M_writeOut 13 = .ok (.aload_n 0, 1) := by decide +kernel
theorem dn_M_writeOut_14 : decode bn_M_writeOut 14 = .ok (.getfield 336, 3) := by decide +kernel
theorem dn_M_writeOut_17 : decode bn_M_writeOut 17 = .ok (.iconst 1, 1) := by decide +kernel
theorem dn_M_writeOut_18 : decode bn_M_writeOut 18 = .ok (.isub, 1) := by decide +kernel
theorem dn_M_writeOut_19 : decode bn_M_writeOut 19 = .ok (.iconst (-1), 1) := by decide +kernel
theorem dn_M_writeOut_20 : decode bn_M_writeOut 20 = .ok (.iconst (-1), 1) := by decide +kernel
theorem dn_M_writeOut_21 : decode bn_M_writeOut 21 = .ok (.invokevirtual 500, 3) := by decide +kernel
theorem dn_M_writeOut_24 : decode bn_M_writeOut 24 = .ok (.aload_n 0, 1) := by decide +kernel
theorem dn_M_writeOut_25 : decode bn_M_writeOut 25 = .ok (.getfield 137, 3) := by decide +kernel
theorem dn_M_writeOut_28 : decode bn_M_writeOut 28 = .ok (.iconst 0, 1) := by decide +kernel
theorem dn_M_writeOut_29 : decode bn_M_writeOut 29 = .ok (.iconst 0, 1) := by decide +kernel
theorem dn_M_writeOut_30 : decode bn_M_writeOut 30 = .ok (.iastore, 1) := by decide +kernel
theorem dn_M_writeOut_31 : decode bn_M_writeOut 31 = .ok (.aload_n 0, 1) := by decide +kernel
theorem dn_M_writeOut_32 : decode bn_M_writeOut 32 = .ok (.getfield 140, 3) := by decide +kernel
theorem dn_M_writeOut_35 : decode bn_M_writeOut 35 = .ok (.iconst 0, 1) := by decide +kernel
theorem dn_M_writeOut_36 : decode bn_M_writeOut 36 = .ok (.aload_n 0, 1) := by decide +kernel
theorem dn_M_writeOut_37 : decode bn_M_writeOut 37 = .ok (.getfield 31, 3) := by decide +kernel
theorem dn_M_writeOut_40 : decode bn_M_writeOut 40 = .ok (.aload_n 0, 1) := by decide +kernel
theorem dn_M_writeOut_41 : decode bn_M_writeOut 41 = .ok (.getfield 336, 3) := by decide +kernel
theorem dn_M_writeOut_44 : decode bn_M_writeOut 44 = .ok (.iconst 1, 1) := by decide +kernel
theorem dn_M_writeOut_45 : decode bn_M_writeOut 45 = .ok (.isub, 1) := by decide +kernel
theorem dn_M_writeOut_46 : decode bn_M_writeOut 46 = .ok (.iaload, 1) := by decide +kernel
theorem dn_M_writeOut_47 : decode bn_M_writeOut 47 = .ok (.iastore, 1) := by decide +kernel
theorem dn_M_writeOut_48 : decode bn_M_writeOut 48 = .ok (.iconst 1, 1) := by decide +kernel
theorem dn_M_writeOut_49 : decode bn_M_writeOut 49 = .ok (.istore_n 1, 1) := by decide +kernel
theorem dn_M_writeOut_50 : decode bn_M_writeOut 50 = .ok (.iload_n 1, 1) := by decide +kernel
theorem dn_M_writeOut_51 : decode bn_M_writeOut 51 = .ok (.ifCond .le 102, 3) := by decide +kernel
theorem dn_M_writeOut_54 : decode bn_M_writeOut 54 = .ok (.aload_n 0, 1) := by decide +kernel
theorem dn_M_writeOut_55 : decode bn_M_writeOut 55 = .ok (.getfield 137, 3) := by decide +kernel
theorem dn_M_writeOut_58 : decode bn_M_writeOut 58 = .ok (.iload_n 1, 1) := by decide +kernel
theorem dn_M_writeOut_59 : decode bn_M_writeOut 59 = .ok (.iconst 1, 1) := by decide +kernel
theorem dn_M_writeOut_60 : decode bn_M_writeOut 60 = .ok (.isub, 1) := by decide +kernel
theorem dn_M_writeOut_61 : decode bn_M_writeOut 61 = .ok (.iaload, 1) := by decide +kernel
theorem dn_M_writeOut_62 : decode bn_M_writeOut 62 = .ok (.istore_n 2, 1) := by decide +kernel
theorem dn_M_writeOut_63 : decode bn_M_writeOut 63 = .ok (.aload_n 0, 1) := by decide +kernel
theorem dn_M_writeOut_64 : decode bn_M_writeOut 64 = .ok (.getfield 140, 3) := by decide +kernel
theorem dn_M_writeOut_67 : decode bn_M_writeOut 67 = .ok (.iload_n 1, 1) := by decide +kernel
theorem dn_M_writeOut_68 : decode bn_M_writeOut 68 = .ok (.iconst 1, 1) := by decide +kernel
theorem dn_M_writeOut_69 : decode bn_M_writeOut 69 = .ok (.isub, 1) := by decide +kernel
theorem dn_M_writeOut_70 : decode bn_M_writeOut 70 = .ok (.iaload, 1) := by decide +kernel
theorem dn_M_writeOut_71 : decode bn_M_writeOut 71 = .ok (.istore_n 3, 1) := by decide +kernel
theorem dn_M_writeOut_72 : decode bn_M_writeOut 72 = .ok (.iload_n 3, 1) := by decide +kernel
theorem dn_M_writeOut_73 : decode bn_M_writeOut 73 = .ok (.aload_n 0, 1) := by decide +kernel
theorem dn_M_writeOut_74 : decode bn_M_writeOut 74 = .ok (.getfield 31, 3) := by decide +kernel
theorem dn_M_writeOut_77 : decode bn_M_writeOut 77 = .ok (.aload_n 0, 1) := by decide +kernel
theorem dn_M_writeOut_78 : decode bn_M_writeOut 78 = .ok (.getfield 125, 3) := by decide +kernel
theorem dn_M_writeOut_81 : decode bn_M_writeOut 81 = .ok (.iload_n 2, 1) := by decide +kernel
theorem dn_M_writeOut_82 : decode bn_M_writeOut 82 = .ok (.iaload, 1) := by decide +kernel
theorem dn_M_writeOut_83 : decode bn_M_writeOut 83 = .ok (.iconst 1, 1) := by decide +kernel
theorem dn_M_writeOut_84 : decode bn_M_writeOut 84 = .ok (.iadd, 1) := by decide +kernel
theorem dn_M_writeOut_85 : decode bn_M_writeOut 85 = .ok (.iaload, 1) := by decide +kernel
theorem dn_M_writeOut_86 : decode bn_M_writeOut 86 = .ok (.if_icmp .ne 9, 3) := by decide +kernel
theorem dn_M_writeOut_89 : decode bn_M_writeOut 89 = .ok (.iinc 1 (-1), 3) := by decide +kernel
theorem dn_M_writeOut_92 : decode bn_M_writeOut 92 = .ok (.goto 58, 3) := by decide +kernel
theorem dn_M_writeOut_95 : decode bn_M_writeOut 95 = .ok (.aload_n 0, 1) := by decide +kernel
theorem dn_M_writeOut_96 : decode bn_M_writeOut 96 = .ok (.getfield 140, 3) := by decide +kernel
theorem dn_M_writeOut_99 : decode bn_M_writeOut 99 = .ok (.iload_n 1, 1) := by decide +kernel
theorem dn_M_writeOut_100 : decode bn_M_writeOut 100 = .ok (.iconst 1, 1) := by decide +kernel
theorem dn_M_writeOut_101 : decode bn_M_writeOut 101 = .ok (.isub, 1) := by decide +kernel
theorem dn_M_writeOut_102 : decode bn_M_writeOut 102 = .ok (.iload_n 3, 1) := by decide +kernel
theorem dn_M_writeOut_103 : decode bn_M_writeOut 103 = .ok (.iconst 1, 1) := by decide +kernel
theorem dn_M_writeOut_104 : decode bn_M_writeOut 104 = .ok (.iadd, 1) := by decide +kernel
theorem dn_M_writeOut_105 : decode bn_M_writeOut 105 = .ok (.iastore, 1) := by decide +kernel
theorem dn_M_writeOut_106 : decode bn_M_writeOut 106 = .ok (.aload_n 0, 1) := by decide +kernel
theorem dn_M_writeOut_107 : decode bn_M_writeOut 107 = .ok (.aload_n 0, 1) := by decide +kernel
theorem dn_M_writeOut_108 : decode bn_M_writeOut 108 = .ok (.getfield 65, 3) := by decide +kernel
theorem dn_M_writeOut_111 : decode bn_M_writeOut 111 = .ok (.iload_n 3, 1) := by decide +kernel
theorem dn_M_writeOut_112 : decode bn_M_writeOut 112 = .ok (.iaload, 1) := by decide +kernel
theorem dn_M_writeOut_113 : decode bn_M_writeOut 113 = .ok (.iload_n 2, 1) := by decide +kernel
theorem dn_M_writeOut_114 : decode bn_M_writeOut 114 = .ok (.iload_n 3, 1) := by decide +kernel
theorem dn_M_writeOut_115 : decode bn_M_writeOut 115 = .ok (.invokevirtual 500, 3) := by decide +kernel
theorem dn_M_writeOut_118 : decode bn_M_writeOut 118 = .ok (.aload_n 0, 1) := by decide +kernel
theorem dn_M_writeOut_119 : decode bn_M_writeOut 119 = .ok (.getfield 137, 3) := by decide +kernel
theorem dn_M_writeOut_122 : decode bn_M_writeOut 122 = .ok (.iload_n 1, 1) := by decide +kernel
theorem dn_M_writeOut_123 : decode bn_M_writeOut 123 = .ok (.aload_n 0, 1) := by decide +kernel
theorem dn_M_writeOut_124 : decode bn_M_writeOut 124 = .ok (.getfield 494, 3) := by decide +kernel
theorem dn_M_writeOut_127 : decode bn_M_writeOut 127 = .ok (.iconst 1, 1) := by decide +kernel
theorem dn_M_writeOut_128 : decode bn_M_writeOut 128 = .ok (.isub, 1) := by decide +kernel
theorem dn_M_writeOut_129 : decode bn_M_writeOut 129 = .ok (.iastore, 1) := by decide +kernel
theorem dn_M_writeOut_130 : decode bn_M_writeOut 130 = .ok (.aload_n 0, 1) := by decide +kernel
theorem dn_M_writeOut_131 : decode bn_M_writeOut 131 = .ok (.getfield 140, 3) := by decide +kernel
theorem dn_M_writeOut_134 : decode bn_M_writeOut 134 = .ok (.iload_n 1, 1) := by decide +kernel
theorem dn_M_writeOut_135 : decode bn_M_writeOut 135 = .ok (.aload_n 0, 1) := by decide +kernel
theorem dn_M_writeOut_136 : decode bn_M_writeOut 136 = .ok (.getfield 31, 3) := by decide +kernel
theorem dn_M_writeOut_139 : decode bn_M_writeOut 139 = .ok (.aload_n 0, 1) := by decide +kernel
theorem dn_M_writeOut_140 : decode bn_M_writeOut 140 = .ok (.getfield 65, 3) := by decide +kernel
theorem dn_M_writeOut_143 : decode bn_M_writeOut 143 = .ok (.iload_n 3, 1) := by decide +kernel
theorem dn_M_writeOut_144 : decode bn_M_writeOut 144 = .ok (.iaload, 1) := by decide +kernel
theorem dn_M_writeOut_145 : decode bn_M_writeOut 145 = .ok (.iaload, 1) := by decide +kernel
theorem dn_M_writeOut_146 : decode bn_M_writeOut 146 = .ok (.iastore, 1) := by decide +kernel
theorem dn_M_writeOut_147 : decode bn_M_writeOut 147 = .ok (.iinc 1 1, 3) := by decide +kernel
theorem dn_M_writeOut_150 : decode bn_M_writeOut 150 = .ok (.goto (-100), 3) := by decide +kernel
theorem dn_M_writeOut_153 : decode bn_M_writeOut 153 = .ok (.iconst 0, 1) := by decide +kernel
theorem dn_M_writeOut_154 : decode bn_M_writeOut 154 = .ok (.istore_n 2, 1) := by decide +kernel
theorem dn_M_writeOut_155 : decode bn_M_writeOut 155 = .ok (.iload_n 2, 1) := by decide +kernel
theorem dn_M_writeOut_156 : decode bn_M_writeOut 156 = .ok (.aload_n 0, 1) := by decide +kernel
theorem dn_M_writeOut_157 : decode bn_M_writeOut 157 = .ok (.getfield 497, 3) := by decide +kernel
theorem dn_M_writeOut_160 : decode bn_M_writeOut 160 = .ok (.if_icmp .ge 14, 3) := by decide +kernel
theorem dn_M_writeOut_163 : decode bn_M_writeOut 163 = .ok (.aload_n 0, 1) := by decide +kernel
theorem dn_M_writeOut_164 : decode bn_M_writeOut 164 = .ok (.iload_n 2, 1) := by decide +kernel
theorem dn_M_writeOut_165 : decode bn_M_writeOut 165 = .ok (.invokevirtual 503, 3) := by decide +kernel
theorem dn_M_writeOut_168 : decode bn_M_writeOut 168 = .ok (.iinc 2 1, 3) := by decide +kernel
theorem dn_M_writeOut_171 : decode bn_M_writeOut 171 = .ok (.goto (-16), 3) := by decide +kernel
theorem dn_M_writeOut_174 : decode bn_M_writeOut 174 = .ok (.return_, 1) := by decide +kernel
