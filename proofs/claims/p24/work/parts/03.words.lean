theorem tk_1 {w : Cond} (h : w ∈ tables_1_1) (hg : goodWord w = true) : w ∈ bg := List.mem_filter.mpr ⟨List.mem_append_right _ (by unfold tables_1; exact List.mem_append_left _ h), hg⟩
theorem tk_2 {w : Cond} (h : w ∈ tables_1_2) (hg : goodWord w = true) : w ∈ bg := List.mem_filter.mpr ⟨List.mem_append_right _ (by unfold tables_1; exact List.mem_append_right _ (List.mem_append_left _ h)), hg⟩
theorem tk_3 {w : Cond} (h : w ∈ tables_1_3) (hg : goodWord w = true) : w ∈ bg := List.mem_filter.mpr ⟨List.mem_append_right _ (by unfold tables_1; exact List.mem_append_right _ (List.mem_append_right _ (List.mem_append_left _ h))), hg⟩
theorem tk_4 {w : Cond} (h : w ∈ tables_1_4) (hg : goodWord w = true) : w ∈ bg := List.mem_filter.mpr ⟨List.mem_append_right _ (by unfold tables_1; exact List.mem_append_right _ (List.mem_append_right _ (List.mem_append_right _ (List.mem_append_left _ h)))), hg⟩
theorem tk_5 {w : Cond} (h : w ∈ tables_1_5) (hg : goodWord w = true) : w ∈ bg := List.mem_filter.mpr ⟨List.mem_append_right _ (by unfold tables_1; exact List.mem_append_right _ (List.mem_append_right _ (List.mem_append_right _ (List.mem_append_right _ (List.mem_append_left _ h))))), hg⟩
theorem tk_6 {w : Cond} (h : w ∈ tables_1_6) (hg : goodWord w = true) : w ∈ bg := List.mem_filter.mpr ⟨List.mem_append_right _ (by unfold tables_1; exact List.mem_append_right _ (List.mem_append_right _ (List.mem_append_right _ (List.mem_append_right _ (List.mem_append_right _ (h)))))), hg⟩
theorem m_1 : Cond.initialized RX11 ∈ bg := tk_1 (List.mem_of_getElem? (i := 1) rfl) rfl
theorem m_2 : Cond.initialized RX10 ∈ bg := tk_1 (List.mem_of_getElem? (i := 2) rfl) rfl
theorem m_3 : Cond.initialized RX2 ∈ bg := tk_1 (List.mem_of_getElem? (i := 3) rfl) rfl
theorem m_4 : Cond.initialized RX7 ∈ bg := tk_1 (List.mem_of_getElem? (i := 4) rfl) rfl
theorem m_5 : Cond.initialized RX4 ∈ bg := tk_1 (List.mem_of_getElem? (i := 5) rfl) rfl
theorem m_6 : Cond.initialized RX8 ∈ bg := tk_1 (List.mem_of_getElem? (i := 6) rfl) rfl
theorem m_7 : Cond.initialized RX3 ∈ bg := tk_1 (List.mem_of_getElem? (i := 7) rfl) rfl
theorem m_8 : Cond.initialized RX0 ∈ bg := tk_1 (List.mem_of_getElem? (i := 8) rfl) rfl
theorem m_9 : Cond.initialized RX1 ∈ bg := tk_1 (List.mem_of_getElem? (i := 9) rfl) rfl
theorem m_10 : Cond.initialized RX9 ∈ bg := tk_1 (List.mem_of_getElem? (i := 10) rfl) rfl
theorem m_11 : Cond.initialized RX6 ∈ bg := tk_1 (List.mem_of_getElem? (i := 11) rfl) rfl
theorem m_12 : Cond.initialized RX5 ∈ bg := tk_1 (List.mem_of_getElem? (i := 12) rfl) rfl
theorem m_13 : Cond.initialized RX12 ∈ bg := tk_1 (List.mem_of_getElem? (i := 13) rfl) rfl
theorem m_14 : Cond.initialized "java/lang/Math" ∈ bg := tk_1 (List.mem_of_getElem? (i := 14) rfl) rfl
theorem m_15 : Cond.initialized RJ7 ∈ bg := tk_1 (List.mem_of_getElem? (i := 15) rfl) rfl
theorem m_16 : Cond.initialized "java/lang/String" ∈ bg := tk_1 (List.mem_of_getElem? (i := 16) rfl) rfl
theorem m_17 : Cond.initialized "java/lang/StringLatin1" ∈ bg := tk_1 (List.mem_of_getElem? (i := 17) rfl) rfl
theorem m_18 : Cond.initialized "jdk/internal/util/Preconditions" ∈ bg := tk_1 (List.mem_of_getElem? (i := 18) rfl) rfl
theorem m_20 : Cond.classLink RL 7 RX11 ∈ bg := tk_1 (List.mem_of_getElem? (i := 20) rfl) rfl
theorem m_21 : Cond.instantiable RX11 14 ∈ bg := tk_1 (List.mem_of_getElem? (i := 21) rfl) rfl
theorem m_22 : Cond.methodLink RL 9 yX11_init ∈ bg := tk_1 (List.mem_of_getElem? (i := 22) rfl) rfl
theorem m_23 : Cond.instanceMethod yX11_init ∈ bg := tk_1 (List.mem_of_getElem? (i := 23) rfl) rfl
theorem m_24 : Cond.code yX11_init cX11_init 1 none ∈ bg := tk_1 (List.mem_of_getElem? (i := 24) rfl) rfl
theorem m_25 : Cond.methodLink RX11 1 objectInit ∈ bg := tk_1 (List.mem_of_getElem? (i := 25) rfl) rfl
theorem m_26 : Cond.instanceMethod objectInit ∈ bg := tk_1 (List.mem_of_getElem? (i := 26) rfl) rfl
theorem m_27 : Cond.code objectInit ⟨#[0xb1]⟩ 1 none ∈ bg := tk_1 (List.mem_of_getElem? (i := 27) rfl) rfl
theorem m_28 : Cond.classLink RX11 7 RX10 ∈ bg := tk_1 (List.mem_of_getElem? (i := 28) rfl) rfl
theorem m_29 : Cond.instantiable RX10 9 ∈ bg := tk_1 (List.mem_of_getElem? (i := 29) rfl) rfl
theorem m_30 : Cond.methodLink RX11 9 yX10_init ∈ bg := tk_1 (List.mem_of_getElem? (i := 30) rfl) rfl
theorem m_31 : Cond.instanceMethod yX10_init ∈ bg := tk_1 (List.mem_of_getElem? (i := 31) rfl) rfl
theorem m_32 : Cond.code yX10_init cX10_init 1 none ∈ bg := tk_1 (List.mem_of_getElem? (i := 32) rfl) rfl
theorem m_33 : Cond.methodLink RX10 3 objectInit ∈ bg := tk_1 (List.mem_of_getElem? (i := 33) rfl) rfl
theorem m_34 : Cond.fieldLink RX10 9 "MapleLines$Tubes" "to" "[I" ∈ bg := tk_1 (List.mem_of_getElem? (i := 34) rfl) rfl
theorem m_35 : Cond.fieldLink RX10 15 "MapleLines$Tubes" "height" "[I" ∈ bg := tk_1 (List.mem_of_getElem? (i := 35) rfl) rfl
theorem m_36 : Cond.fieldLink RX10 18 "MapleLines$Tubes" "member" "[I" ∈ bg := tk_1 (List.mem_of_getElem? (i := 36) rfl) rfl
theorem m_37 : Cond.fieldLink RX10 21 "MapleLines$Tubes" "lengthHome" "[I" ∈ bg := tk_1 (List.mem_of_getElem? (i := 37) rfl) rfl
theorem m_38 : Cond.fieldLink RX10 24 "MapleLines$Tubes" "runs" "[Z" ∈ bg := tk_1 (List.mem_of_getElem? (i := 38) rfl) rfl
theorem m_39 : Cond.fieldLink RX10 28 "MapleLines$Tubes" "leak" "[I" ∈ bg := tk_1 (List.mem_of_getElem? (i := 39) rfl) rfl
theorem m_40 : Cond.fieldLink RX10 31 "MapleLines$Tubes" "vacuum" "[I" ∈ bg := tk_1 (List.mem_of_getElem? (i := 40) rfl) rfl
theorem m_41 : Cond.fieldLink RX10 34 "MapleLines$Tubes" "reading" "[I" ∈ bg := tk_1 (List.mem_of_getElem? (i := 41) rfl) rfl
theorem m_42 : Cond.fieldLink RX10 37 "MapleLines$Tubes" "size" "I" ∈ bg := tk_1 (List.mem_of_getElem? (i := 42) rfl) rfl
theorem m_63 : Cond.arrayClass .int ∈ bg := tk_1 (List.mem_of_getElem? (i := 63) rfl) rfl
theorem m_64 : Cond.arrayClass .boolean ∈ bg := tk_1 (List.mem_of_getElem? (i := 64) rfl) rfl
theorem m_65 : Cond.classLink RX11 16 RX2 ∈ bg := tk_1 (List.mem_of_getElem? (i := 65) rfl) rfl
theorem m_66 : Cond.instantiable RX2 8 ∈ bg := tk_1 (List.mem_of_getElem? (i := 66) rfl) rfl
theorem m_68 : Cond.instanceMethod yX2_init ∈ bg := tk_1 (List.mem_of_getElem? (i := 68) rfl) rfl
theorem m_69 : Cond.code yX2_init cX2_init 1 none ∈ bg := tk_1 (List.mem_of_getElem? (i := 69) rfl) rfl
theorem m_70 : Cond.methodLink RX2 3 objectInit ∈ bg := tk_1 (List.mem_of_getElem? (i := 70) rfl) rfl
theorem m_71 : Cond.fieldLink RX2 9 "MapleLines$Grove" "node" "[I" ∈ bg := tk_1 (List.mem_of_getElem? (i := 71) rfl) rfl
theorem m_72 : Cond.fieldLink RX2 15 "MapleLines$Grove" "girth" "[I" ∈ bg := tk_1 (List.mem_of_getElem? (i := 72) rfl) rfl
theorem m_73 : Cond.fieldLink RX2 18 "MapleLines$Grove" "gave" "[I" ∈ bg := tk_1 (List.mem_of_getElem? (i := 73) rfl) rfl
theorem m_74 : Cond.fieldLink RX2 21 "MapleLines$Grove" "holeTree" "[I" ∈ bg := tk_1 (List.mem_of_getElem? (i := 74) rfl) rfl
theorem m_75 : Cond.fieldLink RX2 24 "MapleLines$Grove" "holeAngle" "[I" ∈ bg := tk_1 (List.mem_of_getElem? (i := 75) rfl) rfl
theorem m_76 : Cond.fieldLink RX2 27 "MapleLines$Grove" "holeYear" "[I" ∈ bg := tk_1 (List.mem_of_getElem? (i := 76) rfl) rfl
theorem m_77 : Cond.fieldLink RX2 30 "MapleLines$Grove" "trees" "I" ∈ bg := tk_1 (List.mem_of_getElem? (i := 77) rfl) rfl
theorem m_79 : Cond.fieldLink RX2 34 "MapleLines$Grove" "holes" "I" ∈ bg := tk_1 (List.mem_of_getElem? (i := 79) rfl) rfl
theorem m_98 : Cond.classLink RX11 23 RX7 ∈ bg := tk_1 (List.mem_of_getElem? (i := 98) rfl) rfl
theorem m_99 : Cond.instantiable RX7 4 ∈ bg := tk_1 (List.mem_of_getElem? (i := 99) rfl) rfl
theorem m_101 : Cond.instanceMethod yX7_init ∈ bg := tk_1 (List.mem_of_getElem? (i := 101) rfl) rfl
theorem m_102 : Cond.code yX7_init cX7_init 1 none ∈ bg := tk_1 (List.mem_of_getElem? (i := 102) rfl) rfl
theorem m_103 : Cond.methodLink RX7 1 objectInit ∈ bg := tk_1 (List.mem_of_getElem? (i := 103) rfl) rfl
theorem m_104 : Cond.fieldLink RX7 20 "MapleLines$Season" "year" "I" ∈ bg := tk_1 (List.mem_of_getElem? (i := 104) rfl) rfl
theorem m_106 : Cond.fieldLink RX7 7 "MapleLines$Season" "day" "I" ∈ bg := tk_1 (List.mem_of_getElem? (i := 106) rfl) rfl
theorem m_108 : Cond.fieldLink RX7 13 "MapleLines$Season" "daysWithoutFrost" "I" ∈ bg := tk_1 (List.mem_of_getElem? (i := 108) rfl) rfl
theorem m_109 : Cond.fieldLink RX7 16 "MapleLines$Season" "dry" "Z" ∈ bg := tk_1 (List.mem_of_getElem? (i := 109) rfl) rfl
theorem m_120 : Cond.classLink RX11 30 RX4 ∈ bg := tk_1 (List.mem_of_getElem? (i := 120) rfl) rfl
theorem m_121 : Cond.instantiable RX4 2 ∈ bg := tk_1 (List.mem_of_getElem? (i := 121) rfl) rfl
theorem m_123 : Cond.instanceMethod yX4_init ∈ bg := tk_1 (List.mem_of_getElem? (i := 123) rfl) rfl
theorem m_124 : Cond.code yX4_init cX4_init 1 none ∈ bg := tk_1 (List.mem_of_getElem? (i := 124) rfl) rfl
theorem m_125 : Cond.methodLink RX4 3 objectInit ∈ bg := tk_1 (List.mem_of_getElem? (i := 125) rfl) rfl
theorem m_126 : Cond.fieldLink RX4 11 "MapleLines$Past" "given" "[I" ∈ bg := tk_1 (List.mem_of_getElem? (i := 126) rfl) rfl
theorem m_127 : Cond.fieldLink RX4 15 "MapleLines$Past" "days" "[I" ∈ bg := tk_1 (List.mem_of_getElem? (i := 127) rfl) rfl
theorem m_133 : Cond.classLink RX11 37 RX8 ∈ bg := tk_1 (List.mem_of_getElem? (i := 133) rfl) rfl
theorem m_134 : Cond.instantiable RX8 4 ∈ bg := tk_1 (List.mem_of_getElem? (i := 134) rfl) rfl
theorem m_136 : Cond.instanceMethod yX8_init ∈ bg := tk_1 (List.mem_of_getElem? (i := 136) rfl) rfl
theorem m_137 : Cond.code yX8_init cX8_init 1 none ∈ bg := tk_1 (List.mem_of_getElem? (i := 137) rfl) rfl
theorem m_138 : Cond.methodLink RX8 1 objectInit ∈ bg := tk_1 (List.mem_of_getElem? (i := 138) rfl) rfl
theorem m_139 : Cond.fieldLink RX8 9 "MapleLines$Tank" "parts" "I" ∈ bg := tk_1 (List.mem_of_getElem? (i := 139) rfl) rfl
theorem m_141 : Cond.fieldLink RX8 19 "MapleLines$Tank" "spilt" "I" ∈ bg := tk_1 (List.mem_of_getElem? (i := 141) rfl) rfl
theorem m_143 : Cond.fieldLink RX8 25 "MapleLines$Tank" "left" "I" ∈ bg := tk_1 (List.mem_of_getElem? (i := 143) rfl) rfl
theorem m_145 : Cond.fieldLink RX8 22 "MapleLines$Tank" "came" "I" ∈ bg := tk_1 (List.mem_of_getElem? (i := 145) rfl) rfl
theorem m_156 : Cond.classLink RX11 44 RX3 ∈ bg := tk_1 (List.mem_of_getElem? (i := 156) rfl) rfl
theorem m_157 : Cond.instantiable RX3 5 ∈ bg := tk_1 (List.mem_of_getElem? (i := 157) rfl) rfl
theorem m_159 : Cond.instanceMethod yX3_init ∈ bg := tk_1 (List.mem_of_getElem? (i := 159) rfl) rfl
theorem m_160 : Cond.code yX3_init cX3_init 1 none ∈ bg := tk_1 (List.mem_of_getElem? (i := 160) rfl) rfl
theorem m_161 : Cond.methodLink RX3 3 objectInit ∈ bg := tk_1 (List.mem_of_getElem? (i := 161) rfl) rfl
theorem m_162 : Cond.fieldLink RX3 15 "MapleLines$Pan" "sugar" "J" ∈ bg := tk_1 (List.mem_of_getElem? (i := 162) rfl) rfl
theorem m_163 : Cond.fieldLink RX3 9 "MapleLines$Pan" "parts" "I" ∈ bg := tk_1 (List.mem_of_getElem? (i := 163) rfl) rfl
theorem m_165 : Cond.fieldLink RX3 34 "MapleLines$Pan" "heat" "I" ∈ bg := tk_1 (List.mem_of_getElem? (i := 165) rfl) rfl
theorem m_167 : Cond.fieldLink RX3 21 "MapleLines$Pan" "minutes" "I" ∈ bg := tk_1 (List.mem_of_getElem? (i := 167) rfl) rfl
theorem m_169 : Cond.fieldLink RX3 24 "MapleLines$Pan" "wood" "I" ∈ bg := tk_1 (List.mem_of_getElem? (i := 169) rfl) rfl
theorem m_182 : Cond.classLink RX11 51 RX0 ∈ bg := tk_1 (List.mem_of_getElem? (i := 182) rfl) rfl
theorem m_183 : Cond.instantiable RX0 7 ∈ bg := tk_1 (List.mem_of_getElem? (i := 183) rfl) rfl
theorem m_185 : Cond.instanceMethod yX0_init ∈ bg := tk_1 (List.mem_of_getElem? (i := 185) rfl) rfl
theorem m_186 : Cond.code yX0_init cX0_init 1 none ∈ bg := tk_1 (List.mem_of_getElem? (i := 186) rfl) rfl
theorem m_187 : Cond.methodLink RX0 3 objectInit ∈ bg := tk_1 (List.mem_of_getElem? (i := 187) rfl) rfl
theorem m_188 : Cond.classLink RX0 28 "[[I" ∈ bg := tk_1 (List.mem_of_getElem? (i := 188) rfl) rfl
theorem m_190 : Cond.fieldLink RX0 9 "MapleLines$Cellar" "parts" "[I" ∈ bg := tk_1 (List.mem_of_getElem? (i := 190) rfl) rfl
theorem m_191 : Cond.fieldLink RX0 15 "MapleLines$Cellar" "strength" "[I" ∈ bg := tk_1 (List.mem_of_getElem? (i := 191) rfl) rfl
theorem m_192 : Cond.fieldLink RX0 18 "MapleLines$Cellar" "drawnOn" "[I" ∈ bg := tk_1 (List.mem_of_getElem? (i := 192) rfl) rfl
theorem m_193 : Cond.fieldLink RX0 21 "MapleLines$Cellar" "drawnIn" "[I" ∈ bg := tk_1 (List.mem_of_getElem? (i := 193) rfl) rfl
theorem m_194 : Cond.fieldLink RX0 24 "MapleLines$Cellar" "sold" "[Z" ∈ bg := tk_1 (List.mem_of_getElem? (i := 194) rfl) rfl
theorem m_195 : Cond.fieldLink RX0 30 "MapleLines$Cellar" "looks" "[[I" ∈ bg := tk_1 (List.mem_of_getElem? (i := 195) rfl) rfl
theorem m_196 : Cond.fieldLink RX0 33 "MapleLines$Cellar" "size" "I" ∈ bg := tk_1 (List.mem_of_getElem? (i := 196) rfl) rfl
theorem m_213 : Cond.classLink RX11 58 RX1 ∈ bg := tk_1 (List.mem_of_getElem? (i := 213) rfl) rfl
theorem m_214 : Cond.instantiable RX1 3 ∈ bg := tk_1 (List.mem_of_getElem? (i := 214) rfl) rfl
theorem m_216 : Cond.instanceMethod yX1_init ∈ bg := tk_1 (List.mem_of_getElem? (i := 216) rfl) rfl
theorem m_217 : Cond.code yX1_init cX1_init 1 none ∈ bg := tk_1 (List.mem_of_getElem? (i := 217) rfl) rfl
theorem m_218 : Cond.methodLink RX1 3 objectInit ∈ bg := tk_1 (List.mem_of_getElem? (i := 218) rfl) rfl
theorem m_219 : Cond.fieldLink RX1 9 "MapleLines$Cooperative" "came" "[I" ∈ bg := tk_1 (List.mem_of_getElem? (i := 219) rfl) rfl
theorem m_220 : Cond.fieldLink RX1 15 "MapleLines$Cooperative" "coins" "[I" ∈ bg := tk_1 (List.mem_of_getElem? (i := 220) rfl) rfl
theorem m_221 : Cond.fieldLink RX1 18 "MapleLines$Cooperative" "remainder" "[J" ∈ bg := tk_1 (List.mem_of_getElem? (i := 221) rfl) rfl
theorem m_229 : Cond.arrayClass .long ∈ bg := tk_1 (List.mem_of_getElem? (i := 229) rfl) rfl
theorem m_230 : Cond.classLink RX11 65 RX9 ∈ bg := tk_1 (List.mem_of_getElem? (i := 230) rfl) rfl
theorem m_231 : Cond.instantiable RX9 6 ∈ bg := tk_1 (List.mem_of_getElem? (i := 231) rfl) rfl
theorem m_233 : Cond.instanceMethod yX9_init ∈ bg := tk_1 (List.mem_of_getElem? (i := 233) rfl) rfl
theorem m_234 : Cond.code yX9_init cX9_init 1 none ∈ bg := tk_1 (List.mem_of_getElem? (i := 234) rfl) rfl
theorem m_235 : Cond.methodLink RX9 3 objectInit ∈ bg := tk_1 (List.mem_of_getElem? (i := 235) rfl) rfl
theorem m_236 : Cond.fieldLink RX9 11 "MapleLines$Tape" "bytes" "[B" ∈ bg := tk_1 (List.mem_of_getElem? (i := 236) rfl) rfl
theorem m_237 : Cond.fieldLink RX9 15 "MapleLines$Tape" "tokenStart" "[I" ∈ bg := tk_1 (List.mem_of_getElem? (i := 237) rfl) rfl
theorem m_238 : Cond.fieldLink RX9 19 "MapleLines$Tape" "tokenCode" "[I" ∈ bg := tk_1 (List.mem_of_getElem? (i := 238) rfl) rfl
theorem m_239 : Cond.fieldLink RX9 22 "MapleLines$Tape" "size" "I" ∈ bg := tk_1 (List.mem_of_getElem? (i := 239) rfl) rfl
theorem m_241 : Cond.fieldLink RX9 42 "MapleLines$Tape" "tokens" "I" ∈ bg := tk_2 (List.mem_of_getElem? (i := 1) rfl) rfl
theorem m_242 : Cond.fieldLink RX9 39 "MapleLines$Tape" "textLength" "I" ∈ bg := tk_2 (List.mem_of_getElem? (i := 2) rfl) rfl
theorem m_256 : Cond.arrayClass .byte ∈ bg := tk_2 (List.mem_of_getElem? (i := 16) rfl) rfl
theorem m_257 : Cond.classLink RX11 72 RX6 ∈ bg := tk_2 (List.mem_of_getElem? (i := 17) rfl) rfl
theorem m_258 : Cond.instantiable RX6 3 ∈ bg := tk_2 (List.mem_of_getElem? (i := 18) rfl) rfl
theorem m_259 : Cond.methodLink RX11 74 yX6_init ∈ bg := tk_2 (List.mem_of_getElem? (i := 19) rfl) rfl
theorem m_260 : Cond.instanceMethod yX6_init ∈ bg := tk_2 (List.mem_of_getElem? (i := 20) rfl) rfl
theorem m_261 : Cond.code yX6_init cX6_init 2 none ∈ bg := tk_2 (List.mem_of_getElem? (i := 21) rfl) rfl
theorem m_262 : Cond.methodLink RX6 3 objectInit ∈ bg := tk_2 (List.mem_of_getElem? (i := 22) rfl) rfl
theorem m_263 : Cond.fieldLink RX6 9 "MapleLines$RuleReader" "tape" "LMapleLines$Tape;" ∈ bg := tk_2 (List.mem_of_getElem? (i := 23) rfl) rfl
theorem m_264 : Cond.fieldLink RX6 15 "MapleLines$RuleReader" "present" "I" ∈ bg := tk_2 (List.mem_of_getElem? (i := 24) rfl) rfl
theorem m_265 : Cond.fieldLink RX6 65 "MapleLines$RuleReader" "number" "I" ∈ bg := tk_2 (List.mem_of_getElem? (i := 25) rfl) rfl
theorem m_273 : Cond.classLink RX11 85 RX5 ∈ bg := tk_2 (List.mem_of_getElem? (i := 33) rfl) rfl
theorem m_274 : Cond.instantiable RX5 7 ∈ bg := tk_2 (List.mem_of_getElem? (i := 34) rfl) rfl
theorem m_276 : Cond.instanceMethod yX5_init ∈ bg := tk_2 (List.mem_of_getElem? (i := 36) rfl) rfl
theorem m_277 : Cond.code yX5_init cX5_init 1 none ∈ bg := tk_2 (List.mem_of_getElem? (i := 37) rfl) rfl
theorem m_278 : Cond.methodLink RX5 3 objectInit ∈ bg := tk_2 (List.mem_of_getElem? (i := 38) rfl) rfl
theorem m_279 : Cond.fieldLink RX5 9 "MapleLines$RuleBook" "deed" "[I" ∈ bg := tk_2 (List.mem_of_getElem? (i := 39) rfl) rfl
theorem m_280 : Cond.fieldLink RX5 15 "MapleLines$RuleBook" "value" "[I" ∈ bg := tk_2 (List.mem_of_getElem? (i := 40) rfl) rfl
theorem m_281 : Cond.fieldLink RX5 18 "MapleLines$RuleBook" "tests" "[I" ∈ bg := tk_2 (List.mem_of_getElem? (i := 41) rfl) rfl
theorem m_282 : Cond.fieldLink RX5 21 "MapleLines$RuleBook" "thing" "[I" ∈ bg := tk_2 (List.mem_of_getElem? (i := 42) rfl) rfl
theorem m_283 : Cond.fieldLink RX5 24 "MapleLines$RuleBook" "sign" "[I" ∈ bg := tk_2 (List.mem_of_getElem? (i := 43) rfl) rfl
theorem m_284 : Cond.fieldLink RX5 27 "MapleLines$RuleBook" "number" "[I" ∈ bg := tk_2 (List.mem_of_getElem? (i := 44) rfl) rfl
theorem m_285 : Cond.fieldLink RX5 30 "MapleLines$RuleBook" "size" "I" ∈ bg := tk_2 (List.mem_of_getElem? (i := 45) rfl) rfl
theorem m_302 : Cond.fieldLink RX11 10 "MapleLines" "tubes" "LMapleLines$Tubes;" ∈ bg := tk_2 (List.mem_of_getElem? (i := 62) rfl) rfl
theorem m_303 : Cond.fieldLink RX11 19 "MapleLines" "grove" "LMapleLines$Grove;" ∈ bg := tk_2 (List.mem_of_getElem? (i := 63) rfl) rfl
theorem m_304 : Cond.fieldLink RX11 26 "MapleLines" "season" "LMapleLines$Season;" ∈ bg := tk_2 (List.mem_of_getElem? (i := 64) rfl) rfl
theorem m_305 : Cond.fieldLink RX11 33 "MapleLines" "past" "LMapleLines$Past;" ∈ bg := tk_2 (List.mem_of_getElem? (i := 65) rfl) rfl
theorem m_306 : Cond.fieldLink RX11 40 "MapleLines" "tank" "LMapleLines$Tank;" ∈ bg := tk_2 (List.mem_of_getElem? (i := 66) rfl) rfl
theorem m_307 : Cond.fieldLink RX11 47 "MapleLines" "pan" "LMapleLines$Pan;" ∈ bg := tk_2 (List.mem_of_getElem? (i := 67) rfl) rfl
theorem m_308 : Cond.fieldLink RX11 54 "MapleLines" "cellar" "LMapleLines$Cellar;" ∈ bg := tk_2 (List.mem_of_getElem? (i := 68) rfl) rfl
theorem m_309 : Cond.fieldLink RX11 61 "MapleLines" "cooperative" "LMapleLines$Cooperative;" ∈ bg := tk_2 (List.mem_of_getElem? (i := 69) rfl) rfl
theorem m_310 : Cond.fieldLink RX11 68 "MapleLines" "tape" "LMapleLines$Tape;" ∈ bg := tk_2 (List.mem_of_getElem? (i := 70) rfl) rfl
theorem m_311 : Cond.fieldLink RX11 77 "MapleLines" "reader" "LMapleLines$RuleReader;" ∈ bg := tk_2 (List.mem_of_getElem? (i := 71) rfl) rfl
theorem m_312 : Cond.fieldLink RX11 81 "MapleLines" "facts" "[I" ∈ bg := tk_2 (List.mem_of_getElem? (i := 72) rfl) rfl
theorem m_313 : Cond.fieldLink RX11 88 "MapleLines" "book" "LMapleLines$RuleBook;" ∈ bg := tk_2 (List.mem_of_getElem? (i := 73) rfl) rfl
theorem m_314 : Cond.fieldLink RX11 92 "MapleLines" "spareBook" "LMapleLines$RuleBook;" ∈ bg := tk_2 (List.mem_of_getElem? (i := 74) rfl) rfl
theorem m_315 : Cond.fieldLink RX11 95 "MapleLines" "faultPlace" "I" ∈ bg := tk_2 (List.mem_of_getElem? (i := 75) rfl) rfl
theorem m_345 : Cond.methodLink RL 13 yX11_node ∈ bg := tk_2 (List.mem_of_getElem? (i := 105) rfl) rfl
theorem m_346 : Cond.instanceMethod yX11_node ∈ bg := tk_2 (List.mem_of_getElem? (i := 106) rfl) rfl
theorem m_347 : Cond.selects RX11 yX11_node yX11_node ∈ bg := tk_2 (List.mem_of_getElem? (i := 107) rfl) rfl
theorem m_348 : Cond.code yX11_node cX11_node 6 (some .int) ∈ bg := tk_2 (List.mem_of_getElem? (i := 108) rfl) rfl
theorem m_349 : Cond.methodLink RX11 99 yX10_has ∈ bg := tk_2 (List.mem_of_getElem? (i := 109) rfl) rfl
theorem m_350 : Cond.instanceMethod yX10_has ∈ bg := tk_2 (List.mem_of_getElem? (i := 110) rfl) rfl
theorem m_351 : Cond.selects RX10 yX10_has yX10_has ∈ bg := tk_2 (List.mem_of_getElem? (i := 111) rfl) rfl
theorem m_352 : Cond.code yX10_has cX10_has 2 (some .boolean) ∈ bg := tk_2 (List.mem_of_getElem? (i := 112) rfl) rfl
theorem m_353 : Cond.methodLink RX11 103 yX11_isWithin ∈ bg := tk_2 (List.mem_of_getElem? (i := 113) rfl) rfl
theorem m_354 : Cond.static yX11_isWithin ∈ bg := tk_2 (List.mem_of_getElem? (i := 114) rfl) rfl
theorem m_355 : Cond.code yX11_isWithin cX11_isWithin 3 (some .boolean) ∈ bg := tk_2 (List.mem_of_getElem? (i := 115) rfl) rfl
theorem m_356 : Cond.methodLink RX11 107 yX11_isMember ∈ bg := tk_2 (List.mem_of_getElem? (i := 116) rfl) rfl
theorem m_357 : Cond.static yX11_isMember ∈ bg := tk_2 (List.mem_of_getElem? (i := 117) rfl) rfl
theorem m_358 : Cond.code yX11_isMember cX11_isMember 1 (some .boolean) ∈ bg := tk_2 (List.mem_of_getElem? (i := 118) rfl) rfl
theorem m_359 : Cond.methodLink RX11 110 yX10_add ∈ bg := tk_2 (List.mem_of_getElem? (i := 119) rfl) rfl
theorem m_360 : Cond.instanceMethod yX10_add ∈ bg := tk_2 (List.mem_of_getElem? (i := 120) rfl) rfl
theorem m_361 : Cond.selects RX10 yX10_add yX10_add ∈ bg := tk_2 (List.mem_of_getElem? (i := 121) rfl) rfl
theorem m_362 : Cond.code yX10_add cX10_add 6 (some .int) ∈ bg := tk_2 (List.mem_of_getElem? (i := 122) rfl) rfl
theorem m_363 : Cond.methodLink RX10 41 yX10_has ∈ bg := tk_2 (List.mem_of_getElem? (i := 123) rfl) rfl
theorem m_364 : Cond.methodLink RL 18 yX11_tree ∈ bg := tk_2 (List.mem_of_getElem? (i := 124) rfl) rfl
theorem m_365 : Cond.instanceMethod yX11_tree ∈ bg := tk_2 (List.mem_of_getElem? (i := 125) rfl) rfl
theorem m_366 : Cond.selects RX11 yX11_tree yX11_tree ∈ bg := tk_2 (List.mem_of_getElem? (i := 126) rfl) rfl
theorem m_367 : Cond.code yX11_tree cX11_tree 4 (some .int) ∈ bg := tk_2 (List.mem_of_getElem? (i := 127) rfl) rfl
theorem m_368 : Cond.methodLink RX11 114 yX10_hasTube ∈ bg := tk_2 (List.mem_of_getElem? (i := 128) rfl) rfl
theorem m_369 : Cond.instanceMethod yX10_hasTube ∈ bg := tk_2 (List.mem_of_getElem? (i := 129) rfl) rfl
theorem m_370 : Cond.selects RX10 yX10_hasTube yX10_hasTube ∈ bg := tk_2 (List.mem_of_getElem? (i := 130) rfl) rfl
theorem m_371 : Cond.code yX10_hasTube cX10_hasTube 2 (some .boolean) ∈ bg := tk_2 (List.mem_of_getElem? (i := 131) rfl) rfl
theorem m_372 : Cond.methodLink RX11 117 yX2_add ∈ bg := tk_2 (List.mem_of_getElem? (i := 132) rfl) rfl
theorem m_373 : Cond.instanceMethod yX2_add ∈ bg := tk_2 (List.mem_of_getElem? (i := 133) rfl) rfl
theorem m_374 : Cond.selects RX2 yX2_add yX2_add ∈ bg := tk_2 (List.mem_of_getElem? (i := 134) rfl) rfl
theorem m_375 : Cond.code yX2_add cX2_add 4 (some .int) ∈ bg := tk_2 (List.mem_of_getElem? (i := 135) rfl) rfl
theorem m_376 : Cond.methodLink RL 23 yX11_tap ∈ bg := tk_2 (List.mem_of_getElem? (i := 136) rfl) rfl
theorem m_377 : Cond.instanceMethod yX11_tap ∈ bg := tk_2 (List.mem_of_getElem? (i := 137) rfl) rfl
theorem m_378 : Cond.selects RX11 yX11_tap yX11_tap ∈ bg := tk_2 (List.mem_of_getElem? (i := 138) rfl) rfl
theorem m_379 : Cond.code yX11_tap cX11_tap 3 (some .int) ∈ bg := tk_2 (List.mem_of_getElem? (i := 139) rfl) rfl
theorem m_380 : Cond.methodLink RX11 120 yX2_has ∈ bg := tk_2 (List.mem_of_getElem? (i := 140) rfl) rfl
theorem m_381 : Cond.instanceMethod yX2_has ∈ bg := tk_2 (List.mem_of_getElem? (i := 141) rfl) rfl
theorem m_382 : Cond.selects RX2 yX2_has yX2_has ∈ bg := tk_2 (List.mem_of_getElem? (i := 142) rfl) rfl
theorem m_383 : Cond.code yX2_has cX2_has 2 (some .boolean) ∈ bg := tk_2 (List.mem_of_getElem? (i := 143) rfl) rfl
theorem m_384 : Cond.methodLink RX11 124 yX2_tapsOf ∈ bg := tk_2 (List.mem_of_getElem? (i := 144) rfl) rfl
theorem m_385 : Cond.instanceMethod yX2_tapsOf ∈ bg := tk_2 (List.mem_of_getElem? (i := 145) rfl) rfl
theorem m_386 : Cond.selects RX2 yX2_tapsOf yX2_tapsOf ∈ bg := tk_2 (List.mem_of_getElem? (i := 146) rfl) rfl
theorem m_387 : Cond.code yX2_tapsOf cX2_tapsOf 5 (some .int) ∈ bg := tk_2 (List.mem_of_getElem? (i := 147) rfl) rfl
theorem m_388 : Cond.methodLink RX11 127 yX2_tapsAllowed ∈ bg := tk_2 (List.mem_of_getElem? (i := 148) rfl) rfl
theorem m_389 : Cond.instanceMethod yX2_tapsAllowed ∈ bg := tk_2 (List.mem_of_getElem? (i := 149) rfl) rfl
theorem m_390 : Cond.selects RX2 yX2_tapsAllowed yX2_tapsAllowed ∈ bg := tk_2 (List.mem_of_getElem? (i := 150) rfl) rfl
theorem m_391 : Cond.code yX2_tapsAllowed cX2_tapsAllowed 3 (some .int) ∈ bg := tk_2 (List.mem_of_getElem? (i := 151) rfl) rfl
theorem m_392 : Cond.methodLink RX2 47 yX2_girthOf ∈ bg := tk_2 (List.mem_of_getElem? (i := 152) rfl) rfl
theorem m_393 : Cond.instanceMethod yX2_girthOf ∈ bg := tk_2 (List.mem_of_getElem? (i := 153) rfl) rfl
theorem m_394 : Cond.selects RX2 yX2_girthOf yX2_girthOf ∈ bg := tk_2 (List.mem_of_getElem? (i := 154) rfl) rfl
theorem m_395 : Cond.code yX2_girthOf cX2_girthOf 2 (some .int) ∈ bg := tk_2 (List.mem_of_getElem? (i := 155) rfl) rfl
theorem m_396 : Cond.methodLink RX2 37 yX2_has ∈ bg := tk_2 (List.mem_of_getElem? (i := 156) rfl) rfl
theorem m_397 : Cond.methodLink RX11 131 yX2_isTooNear ∈ bg := tk_2 (List.mem_of_getElem? (i := 157) rfl) rfl
theorem m_398 : Cond.instanceMethod yX2_isTooNear ∈ bg := tk_2 (List.mem_of_getElem? (i := 158) rfl) rfl
theorem m_399 : Cond.selects RX2 yX2_isTooNear yX2_isTooNear ∈ bg := tk_2 (List.mem_of_getElem? (i := 159) rfl) rfl
theorem m_400 : Cond.code yX2_isTooNear cX2_isTooNear 5 (some .boolean) ∈ bg := tk_2 (List.mem_of_getElem? (i := 160) rfl) rfl
theorem m_401 : Cond.methodLink RX2 51 yX2_degreesApart ∈ bg := tk_2 (List.mem_of_getElem? (i := 161) rfl) rfl
theorem m_402 : Cond.static yX2_degreesApart ∈ bg := tk_2 (List.mem_of_getElem? (i := 162) rfl) rfl
theorem m_403 : Cond.code yX2_degreesApart cX2_degreesApart 3 (some .int) ∈ bg := tk_2 (List.mem_of_getElem? (i := 163) rfl) rfl
theorem m_404 : Cond.methodLink RX2 55 Lib.Math.abs.name ∈ bg := tk_2 (List.mem_of_getElem? (i := 164) rfl) rfl
theorem m_405 : Cond.static Lib.Math.abs.name ∈ bg := tk_2 (List.mem_of_getElem? (i := 165) rfl) rfl
theorem m_406 : Cond.code Lib.Math.abs.name Lib.Math.abs.code 1 (some .int) ∈ bg := tk_2 (List.mem_of_getElem? (i := 166) rfl) rfl
theorem m_407 : Cond.methodLink RX2 60 Lib.Math.min.name ∈ bg := tk_2 (List.mem_of_getElem? (i := 167) rfl) rfl
theorem m_408 : Cond.static Lib.Math.min.name ∈ bg := tk_2 (List.mem_of_getElem? (i := 168) rfl) rfl
theorem m_409 : Cond.code Lib.Math.min.name Lib.Math.min.code 2 (some .int) ∈ bg := tk_2 (List.mem_of_getElem? (i := 169) rfl) rfl
theorem m_410 : Cond.methodLink RX11 134 yX2_drill ∈ bg := tk_2 (List.mem_of_getElem? (i := 170) rfl) rfl
theorem m_411 : Cond.instanceMethod yX2_drill ∈ bg := tk_2 (List.mem_of_getElem? (i := 171) rfl) rfl
theorem m_412 : Cond.selects RX2 yX2_drill yX2_drill ∈ bg := tk_2 (List.mem_of_getElem? (i := 172) rfl) rfl
theorem m_413 : Cond.code yX2_drill cX2_drill 4 (some .boolean) ∈ bg := tk_2 (List.mem_of_getElem? (i := 173) rfl) rfl
theorem m_414 : Cond.methodLink RX11 137 yX2_holesOf ∈ bg := tk_2 (List.mem_of_getElem? (i := 174) rfl) rfl
theorem m_415 : Cond.instanceMethod yX2_holesOf ∈ bg := tk_2 (List.mem_of_getElem? (i := 175) rfl) rfl
theorem m_416 : Cond.selects RX2 yX2_holesOf yX2_holesOf ∈ bg := tk_2 (List.mem_of_getElem? (i := 176) rfl) rfl
theorem m_417 : Cond.code yX2_holesOf cX2_holesOf 4 (some .int) ∈ bg := tk_2 (List.mem_of_getElem? (i := 177) rfl) rfl
theorem m_418 : Cond.methodLink RL 27 yX11_leak ∈ bg := tk_2 (List.mem_of_getElem? (i := 178) rfl) rfl
theorem m_419 : Cond.instanceMethod yX11_leak ∈ bg := tk_2 (List.mem_of_getElem? (i := 179) rfl) rfl
theorem m_420 : Cond.selects RX11 yX11_leak yX11_leak ∈ bg := tk_2 (List.mem_of_getElem? (i := 180) rfl) rfl
theorem m_421 : Cond.code yX11_leak cX11_leak 3 (some .boolean) ∈ bg := tk_2 (List.mem_of_getElem? (i := 181) rfl) rfl
theorem m_422 : Cond.methodLink RX11 140 yX10_setLeak ∈ bg := tk_2 (List.mem_of_getElem? (i := 182) rfl) rfl
theorem m_423 : Cond.instanceMethod yX10_setLeak ∈ bg := tk_2 (List.mem_of_getElem? (i := 183) rfl) rfl
theorem m_424 : Cond.selects RX10 yX10_setLeak yX10_setLeak ∈ bg := tk_2 (List.mem_of_getElem? (i := 184) rfl) rfl
theorem m_425 : Cond.code yX10_setLeak cX10_setLeak 3 none ∈ bg := tk_2 (List.mem_of_getElem? (i := 185) rfl) rfl
theorem m_426 : Cond.methodLink RX10 45 yX10_hasTube ∈ bg := tk_2 (List.mem_of_getElem? (i := 186) rfl) rfl
theorem m_427 : Cond.methodLink RX10 48 yX10_settleVacuum ∈ bg := tk_2 (List.mem_of_getElem? (i := 187) rfl) rfl
theorem m_429 : Cond.instanceMethod yX10_settleVacuum ∈ bg := tk_2 (List.mem_of_getElem? (i := 189) rfl) rfl
theorem m_430 : Cond.code yX10_settleVacuum cX10_settleVacuum 2 none ∈ bg := tk_2 (List.mem_of_getElem? (i := 190) rfl) rfl
theorem m_431 : Cond.methodLink RX10 51 yX10_vacuumAt ∈ bg := tk_2 (List.mem_of_getElem? (i := 191) rfl) rfl
theorem m_432 : Cond.instanceMethod yX10_vacuumAt ∈ bg := tk_2 (List.mem_of_getElem? (i := 192) rfl) rfl
theorem m_433 : Cond.selects RX10 yX10_vacuumAt yX10_vacuumAt ∈ bg := tk_2 (List.mem_of_getElem? (i := 193) rfl) rfl
theorem m_434 : Cond.code yX10_vacuumAt cX10_vacuumAt 2 (some .int) ∈ bg := tk_2 (List.mem_of_getElem? (i := 194) rfl) rfl
theorem m_435 : Cond.methodLink RX10 55 Lib.Math.max.name ∈ bg := tk_2 (List.mem_of_getElem? (i := 195) rfl) rfl
theorem m_436 : Cond.static Lib.Math.max.name ∈ bg := tk_2 (List.mem_of_getElem? (i := 196) rfl) rfl
theorem m_437 : Cond.code Lib.Math.max.name Lib.Math.max.code 2 (some .int) ∈ bg := tk_2 (List.mem_of_getElem? (i := 197) rfl) rfl
theorem m_438 : Cond.methodLink RL 32 yX11_pump ∈ bg := tk_2 (List.mem_of_getElem? (i := 198) rfl) rfl
theorem m_439 : Cond.instanceMethod yX11_pump ∈ bg := tk_2 (List.mem_of_getElem? (i := 199) rfl) rfl
theorem m_440 : Cond.selects RX11 yX11_pump yX11_pump ∈ bg := tk_2 (List.mem_of_getElem? (i := 200) rfl) rfl
theorem m_441 : Cond.code yX11_pump cX11_pump 2 (some .boolean) ∈ bg := tk_2 (List.mem_of_getElem? (i := 201) rfl) rfl
theorem m_442 : Cond.methodLink RX11 144 yX10_setHouseVacuum ∈ bg := tk_2 (List.mem_of_getElem? (i := 202) rfl) rfl
theorem m_443 : Cond.instanceMethod yX10_setHouseVacuum ∈ bg := tk_2 (List.mem_of_getElem? (i := 203) rfl) rfl
theorem m_444 : Cond.selects RX10 yX10_setHouseVacuum yX10_setHouseVacuum ∈ bg := tk_2 (List.mem_of_getElem? (i := 204) rfl) rfl
theorem m_445 : Cond.code yX10_setHouseVacuum cX10_setHouseVacuum 2 none ∈ bg := tk_2 (List.mem_of_getElem? (i := 205) rfl) rfl
theorem m_446 : Cond.methodLink RL 37 yX11_gauge ∈ bg := tk_2 (List.mem_of_getElem? (i := 206) rfl) rfl
theorem m_447 : Cond.instanceMethod yX11_gauge ∈ bg := tk_2 (List.mem_of_getElem? (i := 207) rfl) rfl
theorem m_448 : Cond.selects RX11 yX11_gauge yX11_gauge ∈ bg := tk_2 (List.mem_of_getElem? (i := 208) rfl) rfl
theorem m_449 : Cond.code yX11_gauge cX11_gauge 3 (some .boolean) ∈ bg := tk_2 (List.mem_of_getElem? (i := 209) rfl) rfl
theorem m_450 : Cond.methodLink RX11 148 yX10_setReading ∈ bg := tk_2 (List.mem_of_getElem? (i := 210) rfl) rfl
theorem m_451 : Cond.instanceMethod yX10_setReading ∈ bg := tk_2 (List.mem_of_getElem? (i := 211) rfl) rfl
theorem m_452 : Cond.selects RX10 yX10_setReading yX10_setReading ∈ bg := tk_2 (List.mem_of_getElem? (i := 212) rfl) rfl
theorem m_453 : Cond.code yX10_setReading cX10_setReading 3 none ∈ bg := tk_2 (List.mem_of_getElem? (i := 213) rfl) rfl
theorem m_454 : Cond.methodLink RL 41 yX11_nodeOf ∈ bg := tk_2 (List.mem_of_getElem? (i := 214) rfl) rfl
theorem m_455 : Cond.instanceMethod yX11_nodeOf ∈ bg := tk_2 (List.mem_of_getElem? (i := 215) rfl) rfl
theorem m_456 : Cond.selects RX11 yX11_nodeOf yX11_nodeOf ∈ bg := tk_2 (List.mem_of_getElem? (i := 216) rfl) rfl
theorem m_457 : Cond.code yX11_nodeOf cX11_nodeOf 3 (some .int) ∈ bg := tk_2 (List.mem_of_getElem? (i := 217) rfl) rfl
theorem m_458 : Cond.methodLink RX11 151 yX2_treesAt ∈ bg := tk_2 (List.mem_of_getElem? (i := 218) rfl) rfl
theorem m_459 : Cond.instanceMethod yX2_treesAt ∈ bg := tk_2 (List.mem_of_getElem? (i := 219) rfl) rfl
theorem m_460 : Cond.selects RX2 yX2_treesAt yX2_treesAt ∈ bg := tk_2 (List.mem_of_getElem? (i := 220) rfl) rfl
theorem m_461 : Cond.code yX2_treesAt cX2_treesAt 4 (some .int) ∈ bg := tk_2 (List.mem_of_getElem? (i := 221) rfl) rfl
theorem m_462 : Cond.methodLink RX11 154 yX10_tell ∈ bg := tk_2 (List.mem_of_getElem? (i := 222) rfl) rfl
theorem m_463 : Cond.instanceMethod yX10_tell ∈ bg := tk_2 (List.mem_of_getElem? (i := 223) rfl) rfl
theorem m_464 : Cond.selects RX10 yX10_tell yX10_tell ∈ bg := tk_2 (List.mem_of_getElem? (i := 224) rfl) rfl
theorem m_465 : Cond.code yX10_tell cX10_tell 3 (some .int) ∈ bg := tk_2 (List.mem_of_getElem? (i := 225) rfl) rfl
theorem m_466 : Cond.methodLink RX10 61 yX10_suspectBy ∈ bg := tk_2 (List.mem_of_getElem? (i := 226) rfl) rfl
theorem m_468 : Cond.instanceMethod yX10_suspectBy ∈ bg := tk_2 (List.mem_of_getElem? (i := 228) rfl) rfl
theorem m_469 : Cond.code yX10_suspectBy cX10_suspectBy 2 (some .int) ∈ bg := tk_2 (List.mem_of_getElem? (i := 229) rfl) rfl
theorem m_470 : Cond.methodLink RX10 64 yX10_readingAhead ∈ bg := tk_2 (List.mem_of_getElem? (i := 230) rfl) rfl
theorem m_472 : Cond.instanceMethod yX10_readingAhead ∈ bg := tk_2 (List.mem_of_getElem? (i := 232) rfl) rfl
theorem m_473 : Cond.code yX10_readingAhead cX10_readingAhead 4 (some .int) ∈ bg := tk_2 (List.mem_of_getElem? (i := 233) rfl) rfl
theorem m_474 : Cond.methodLink RL 45 yX11_treeOf ∈ bg := tk_2 (List.mem_of_getElem? (i := 234) rfl) rfl
theorem m_475 : Cond.instanceMethod yX11_treeOf ∈ bg := tk_2 (List.mem_of_getElem? (i := 235) rfl) rfl
theorem m_476 : Cond.selects RX11 yX11_treeOf yX11_treeOf ∈ bg := tk_2 (List.mem_of_getElem? (i := 236) rfl) rfl
theorem m_477 : Cond.code yX11_treeOf cX11_treeOf 3 (some .int) ∈ bg := tk_2 (List.mem_of_getElem? (i := 237) rfl) rfl
theorem m_478 : Cond.methodLink RX11 157 yX2_nodeOfTree ∈ bg := tk_2 (List.mem_of_getElem? (i := 238) rfl) rfl
theorem m_479 : Cond.instanceMethod yX2_nodeOfTree ∈ bg := tk_2 (List.mem_of_getElem? (i := 239) rfl) rfl
theorem m_480 : Cond.selects RX2 yX2_nodeOfTree yX2_nodeOfTree ∈ bg := tk_3 (List.mem_of_getElem? (i := 0) rfl) rfl
theorem m_481 : Cond.code yX2_nodeOfTree cX2_nodeOfTree 2 (some .int) ∈ bg := tk_3 (List.mem_of_getElem? (i := 1) rfl) rfl
theorem m_482 : Cond.methodLink RX11 160 yX2_girthOf ∈ bg := tk_3 (List.mem_of_getElem? (i := 2) rfl) rfl
theorem m_483 : Cond.methodLink RX11 163 yX2_gaveThisYear ∈ bg := tk_3 (List.mem_of_getElem? (i := 3) rfl) rfl
theorem m_484 : Cond.instanceMethod yX2_gaveThisYear ∈ bg := tk_3 (List.mem_of_getElem? (i := 4) rfl) rfl
theorem m_485 : Cond.selects RX2 yX2_gaveThisYear yX2_gaveThisYear ∈ bg := tk_3 (List.mem_of_getElem? (i := 5) rfl) rfl
theorem m_486 : Cond.code yX2_gaveThisYear cX2_gaveThisYear 2 (some .int) ∈ bg := tk_3 (List.mem_of_getElem? (i := 6) rfl) rfl
theorem m_487 : Cond.methodLink RL 49 yX11_day ∈ bg := tk_3 (List.mem_of_getElem? (i := 7) rfl) rfl
theorem m_488 : Cond.instanceMethod yX11_day ∈ bg := tk_3 (List.mem_of_getElem? (i := 8) rfl) rfl
theorem m_489 : Cond.selects RX11 yX11_day yX11_day ∈ bg := tk_3 (List.mem_of_getElem? (i := 9) rfl) rfl
theorem m_490 : Cond.code yX11_day cX11_day 3 (some .int) ∈ bg := tk_3 (List.mem_of_getElem? (i := 10) rfl) rfl
theorem m_491 : Cond.methodLink RX11 170 yX11_isWeather ∈ bg := tk_3 (List.mem_of_getElem? (i := 11) rfl) rfl
theorem m_492 : Cond.static yX11_isWeather ∈ bg := tk_3 (List.mem_of_getElem? (i := 12) rfl) rfl
theorem m_493 : Cond.code yX11_isWeather cX11_isWeather 2 (some .boolean) ∈ bg := tk_3 (List.mem_of_getElem? (i := 13) rfl) rfl
theorem m_494 : Cond.methodLink RX11 177 yX11_frostOf ∈ bg := tk_3 (List.mem_of_getElem? (i := 14) rfl) rfl
theorem m_495 : Cond.static yX11_frostOf ∈ bg := tk_3 (List.mem_of_getElem? (i := 15) rfl) rfl
theorem m_496 : Cond.code yX11_frostOf cX11_frostOf 1 (some .int) ∈ bg := tk_3 (List.mem_of_getElem? (i := 16) rfl) rfl
theorem m_497 : Cond.methodLink RX11 184 yX11_thawOf ∈ bg := tk_3 (List.mem_of_getElem? (i := 17) rfl) rfl
theorem m_498 : Cond.static yX11_thawOf ∈ bg := tk_3 (List.mem_of_getElem? (i := 18) rfl) rfl
theorem m_499 : Cond.code yX11_thawOf cX11_thawOf 1 (some .int) ∈ bg := tk_3 (List.mem_of_getElem? (i := 19) rfl) rfl
theorem m_500 : Cond.methodLink RX11 291 Lib.Math.min.name ∈ bg := tk_3 (List.mem_of_getElem? (i := 20) rfl) rfl
theorem m_501 : Cond.methodLink RX11 296 Lib.Math.max.name ∈ bg := tk_3 (List.mem_of_getElem? (i := 21) rfl) rfl
theorem m_502 : Cond.methodLink RX11 180 yX7_passDay ∈ bg := tk_3 (List.mem_of_getElem? (i := 22) rfl) rfl
theorem m_503 : Cond.instanceMethod yX7_passDay ∈ bg := tk_3 (List.mem_of_getElem? (i := 23) rfl) rfl
theorem m_504 : Cond.selects RX7 yX7_passDay yX7_passDay ∈ bg := tk_3 (List.mem_of_getElem? (i := 24) rfl) rfl
theorem m_505 : Cond.code yX7_passDay cX7_passDay 2 none ∈ bg := tk_3 (List.mem_of_getElem? (i := 25) rfl) rfl
theorem m_506 : Cond.methodLink RX11 187 yX11_gatherSap ∈ bg := tk_3 (List.mem_of_getElem? (i := 26) rfl) rfl
theorem m_508 : Cond.instanceMethod yX11_gatherSap ∈ bg := tk_3 (List.mem_of_getElem? (i := 28) rfl) rfl
theorem m_509 : Cond.code yX11_gatherSap cX11_gatherSap 4 (some .int) ∈ bg := tk_3 (List.mem_of_getElem? (i := 29) rfl) rfl
theorem m_510 : Cond.methodLink RX11 299 yX2_yearOfHole ∈ bg := tk_3 (List.mem_of_getElem? (i := 30) rfl) rfl
theorem m_511 : Cond.instanceMethod yX2_yearOfHole ∈ bg := tk_3 (List.mem_of_getElem? (i := 31) rfl) rfl
theorem m_512 : Cond.selects RX2 yX2_yearOfHole yX2_yearOfHole ∈ bg := tk_3 (List.mem_of_getElem? (i := 32) rfl) rfl
theorem m_513 : Cond.code yX2_yearOfHole cX2_yearOfHole 2 (some .int) ∈ bg := tk_3 (List.mem_of_getElem? (i := 33) rfl) rfl
theorem m_514 : Cond.methodLink RX2 63 yX2_hasHole ∈ bg := tk_3 (List.mem_of_getElem? (i := 34) rfl) rfl
theorem m_516 : Cond.instanceMethod yX2_hasHole ∈ bg := tk_3 (List.mem_of_getElem? (i := 36) rfl) rfl
theorem m_517 : Cond.code yX2_hasHole cX2_hasHole 2 (some .boolean) ∈ bg := tk_3 (List.mem_of_getElem? (i := 37) rfl) rfl
theorem m_518 : Cond.methodLink RX11 302 yX2_treeOfHole ∈ bg := tk_3 (List.mem_of_getElem? (i := 38) rfl) rfl
theorem m_519 : Cond.instanceMethod yX2_treeOfHole ∈ bg := tk_3 (List.mem_of_getElem? (i := 39) rfl) rfl
theorem m_520 : Cond.selects RX2 yX2_treeOfHole yX2_treeOfHole ∈ bg := tk_3 (List.mem_of_getElem? (i := 40) rfl) rfl
theorem m_521 : Cond.code yX2_treeOfHole cX2_treeOfHole 2 (some .int) ∈ bg := tk_3 (List.mem_of_getElem? (i := 41) rfl) rfl
theorem m_522 : Cond.methodLink RX11 305 yX11_gatherFrom ∈ bg := tk_3 (List.mem_of_getElem? (i := 42) rfl) rfl
theorem m_524 : Cond.instanceMethod yX11_gatherFrom ∈ bg := tk_3 (List.mem_of_getElem? (i := 44) rfl) rfl
theorem m_525 : Cond.code yX11_gatherFrom cX11_gatherFrom 5 (some .int) ∈ bg := tk_3 (List.mem_of_getElem? (i := 45) rfl) rfl
theorem m_526 : Cond.methodLink RX11 308 yX10_vacuumAt ∈ bg := tk_3 (List.mem_of_getElem? (i := 46) rfl) rfl
theorem m_527 : Cond.methodLink RX11 311 yX2_give ∈ bg := tk_3 (List.mem_of_getElem? (i := 47) rfl) rfl
theorem m_528 : Cond.instanceMethod yX2_give ∈ bg := tk_3 (List.mem_of_getElem? (i := 48) rfl) rfl
theorem m_529 : Cond.selects RX2 yX2_give yX2_give ∈ bg := tk_3 (List.mem_of_getElem? (i := 49) rfl) rfl
theorem m_530 : Cond.code yX2_give cX2_give 3 none ∈ bg := tk_3 (List.mem_of_getElem? (i := 50) rfl) rfl
theorem m_531 : Cond.methodLink RX11 314 yX10_runsHome ∈ bg := tk_3 (List.mem_of_getElem? (i := 51) rfl) rfl
theorem m_532 : Cond.instanceMethod yX10_runsHome ∈ bg := tk_3 (List.mem_of_getElem? (i := 52) rfl) rfl
theorem m_533 : Cond.selects RX10 yX10_runsHome yX10_runsHome ∈ bg := tk_3 (List.mem_of_getElem? (i := 53) rfl) rfl
theorem m_534 : Cond.code yX10_runsHome cX10_runsHome 2 (some .boolean) ∈ bg := tk_3 (List.mem_of_getElem? (i := 54) rfl) rfl
theorem m_535 : Cond.methodLink RX11 317 yX8_takeIn ∈ bg := tk_3 (List.mem_of_getElem? (i := 55) rfl) rfl
theorem m_536 : Cond.instanceMethod yX8_takeIn ∈ bg := tk_3 (List.mem_of_getElem? (i := 56) rfl) rfl
theorem m_537 : Cond.selects RX8 yX8_takeIn yX8_takeIn ∈ bg := tk_3 (List.mem_of_getElem? (i := 57) rfl) rfl
theorem m_538 : Cond.code yX8_takeIn cX8_takeIn 3 none ∈ bg := tk_3 (List.mem_of_getElem? (i := 58) rfl) rfl
theorem m_539 : Cond.methodLink RX8 13 Lib.Math.min.name ∈ bg := tk_3 (List.mem_of_getElem? (i := 59) rfl) rfl
theorem m_540 : Cond.methodLink RX11 320 yX10_memberAt ∈ bg := tk_3 (List.mem_of_getElem? (i := 60) rfl) rfl
theorem m_541 : Cond.instanceMethod yX10_memberAt ∈ bg := tk_3 (List.mem_of_getElem? (i := 61) rfl) rfl
theorem m_542 : Cond.selects RX10 yX10_memberAt yX10_memberAt ∈ bg := tk_3 (List.mem_of_getElem? (i := 62) rfl) rfl
theorem m_543 : Cond.code yX10_memberAt cX10_memberAt 2 (some .int) ∈ bg := tk_3 (List.mem_of_getElem? (i := 63) rfl) rfl
theorem m_544 : Cond.methodLink RX11 323 yX1_credit ∈ bg := tk_3 (List.mem_of_getElem? (i := 64) rfl) rfl
theorem m_545 : Cond.instanceMethod yX1_credit ∈ bg := tk_3 (List.mem_of_getElem? (i := 65) rfl) rfl
theorem m_546 : Cond.selects RX1 yX1_credit yX1_credit ∈ bg := tk_3 (List.mem_of_getElem? (i := 66) rfl) rfl
theorem m_547 : Cond.code yX1_credit cX1_credit 3 none ∈ bg := tk_3 (List.mem_of_getElem? (i := 67) rfl) rfl
theorem m_549 : Cond.methodLink RX11 326 yX8_leave ∈ bg := tk_3 (List.mem_of_getElem? (i := 69) rfl) rfl
theorem m_550 : Cond.instanceMethod yX8_leave ∈ bg := tk_3 (List.mem_of_getElem? (i := 70) rfl) rfl
theorem m_551 : Cond.selects RX8 yX8_leave yX8_leave ∈ bg := tk_3 (List.mem_of_getElem? (i := 71) rfl) rfl
theorem m_552 : Cond.code yX8_leave cX8_leave 2 none ∈ bg := tk_3 (List.mem_of_getElem? (i := 72) rfl) rfl
theorem m_553 : Cond.methodLink RX11 190 yX4_keep ∈ bg := tk_3 (List.mem_of_getElem? (i := 73) rfl) rfl
theorem m_554 : Cond.instanceMethod yX4_keep ∈ bg := tk_3 (List.mem_of_getElem? (i := 74) rfl) rfl
theorem m_555 : Cond.selects RX4 yX4_keep yX4_keep ∈ bg := tk_3 (List.mem_of_getElem? (i := 75) rfl) rfl
theorem m_556 : Cond.code yX4_keep cX4_keep 5 none ∈ bg := tk_3 (List.mem_of_getElem? (i := 76) rfl) rfl
theorem m_557 : Cond.methodLink RX4 25 yX4_placeOf ∈ bg := tk_3 (List.mem_of_getElem? (i := 77) rfl) rfl
theorem m_558 : Cond.static yX4_placeOf ∈ bg := tk_3 (List.mem_of_getElem? (i := 78) rfl) rfl
theorem m_559 : Cond.code yX4_placeOf cX4_placeOf 2 (some .int) ∈ bg := tk_3 (List.mem_of_getElem? (i := 79) rfl) rfl
theorem m_562 : Cond.methodLink RL 53 yX11_year ∈ bg := tk_3 (List.mem_of_getElem? (i := 82) rfl) rfl
theorem m_563 : Cond.instanceMethod yX11_year ∈ bg := tk_3 (List.mem_of_getElem? (i := 83) rfl) rfl
theorem m_564 : Cond.selects RX11 yX11_year yX11_year ∈ bg := tk_3 (List.mem_of_getElem? (i := 84) rfl) rfl
theorem m_565 : Cond.code yX11_year cX11_year 1 (some .int) ∈ bg := tk_3 (List.mem_of_getElem? (i := 85) rfl) rfl
theorem m_566 : Cond.methodLink RX11 194 yX7_beginYear ∈ bg := tk_3 (List.mem_of_getElem? (i := 86) rfl) rfl
theorem m_567 : Cond.instanceMethod yX7_beginYear ∈ bg := tk_3 (List.mem_of_getElem? (i := 87) rfl) rfl
theorem m_568 : Cond.selects RX7 yX7_beginYear yX7_beginYear ∈ bg := tk_3 (List.mem_of_getElem? (i := 88) rfl) rfl
theorem m_569 : Cond.code yX7_beginYear cX7_beginYear 1 none ∈ bg := tk_3 (List.mem_of_getElem? (i := 89) rfl) rfl
theorem m_570 : Cond.methodLink RX11 197 yX2_forgetYear ∈ bg := tk_3 (List.mem_of_getElem? (i := 90) rfl) rfl
theorem m_571 : Cond.instanceMethod yX2_forgetYear ∈ bg := tk_3 (List.mem_of_getElem? (i := 91) rfl) rfl
theorem m_572 : Cond.selects RX2 yX2_forgetYear yX2_forgetYear ∈ bg := tk_3 (List.mem_of_getElem? (i := 92) rfl) rfl
theorem m_573 : Cond.code yX2_forgetYear cX2_forgetYear 1 none ∈ bg := tk_3 (List.mem_of_getElem? (i := 93) rfl) rfl
theorem m_574 : Cond.methodLink RX2 41 yJ7_fill_53178 ∈ bg := tk_3 (List.mem_of_getElem? (i := 94) rfl) rfl
theorem m_575 : Cond.static yJ7_fill_53178 ∈ bg := tk_3 (List.mem_of_getElem? (i := 95) rfl) rfl
theorem m_576 : Cond.code yJ7_fill_53178 cJ7_fill_53178 4 none ∈ bg := tk_3 (List.mem_of_getElem? (i := 96) rfl) rfl
theorem m_577 : Cond.methodLink RX11 200 yX1_forgetYear ∈ bg := tk_3 (List.mem_of_getElem? (i := 97) rfl) rfl
theorem m_578 : Cond.instanceMethod yX1_forgetYear ∈ bg := tk_3 (List.mem_of_getElem? (i := 98) rfl) rfl
theorem m_579 : Cond.selects RX1 yX1_forgetYear yX1_forgetYear ∈ bg := tk_3 (List.mem_of_getElem? (i := 99) rfl) rfl
theorem m_580 : Cond.code yX1_forgetYear cX1_forgetYear 1 none ∈ bg := tk_3 (List.mem_of_getElem? (i := 100) rfl) rfl
theorem m_581 : Cond.methodLink RX1 26 yJ7_fill_53178 ∈ bg := tk_3 (List.mem_of_getElem? (i := 101) rfl) rfl
theorem m_582 : Cond.methodLink RX11 201 yX8_drain ∈ bg := tk_3 (List.mem_of_getElem? (i := 102) rfl) rfl
theorem m_583 : Cond.instanceMethod yX8_drain ∈ bg := tk_3 (List.mem_of_getElem? (i := 103) rfl) rfl
theorem m_584 : Cond.selects RX8 yX8_drain yX8_drain ∈ bg := tk_3 (List.mem_of_getElem? (i := 104) rfl) rfl
theorem m_585 : Cond.code yX8_drain cX8_drain 1 none ∈ bg := tk_3 (List.mem_of_getElem? (i := 105) rfl) rfl
theorem m_586 : Cond.methodLink RX11 204 yX3_empty ∈ bg := tk_3 (List.mem_of_getElem? (i := 106) rfl) rfl
theorem m_587 : Cond.instanceMethod yX3_empty ∈ bg := tk_3 (List.mem_of_getElem? (i := 107) rfl) rfl
theorem m_588 : Cond.selects RX3 yX3_empty yX3_empty ∈ bg := tk_3 (List.mem_of_getElem? (i := 108) rfl) rfl
theorem m_589 : Cond.code yX3_empty cX3_empty 1 none ∈ bg := tk_3 (List.mem_of_getElem? (i := 109) rfl) rfl
theorem m_590 : Cond.methodLink RL 58 yX11_foretold ∈ bg := tk_3 (List.mem_of_getElem? (i := 110) rfl) rfl
theorem m_591 : Cond.instanceMethod yX11_foretold ∈ bg := tk_3 (List.mem_of_getElem? (i := 111) rfl) rfl
theorem m_592 : Cond.selects RX11 yX11_foretold yX11_foretold ∈ bg := tk_3 (List.mem_of_getElem? (i := 112) rfl) rfl
theorem m_593 : Cond.code yX11_foretold cX11_foretold 4 (some .int) ∈ bg := tk_3 (List.mem_of_getElem? (i := 113) rfl) rfl
theorem m_594 : Cond.methodLink RX11 207 yX4_meanUpper ∈ bg := tk_3 (List.mem_of_getElem? (i := 114) rfl) rfl
theorem m_595 : Cond.instanceMethod yX4_meanUpper ∈ bg := tk_3 (List.mem_of_getElem? (i := 115) rfl) rfl
theorem m_596 : Cond.selects RX4 yX4_meanUpper yX4_meanUpper ∈ bg := tk_3 (List.mem_of_getElem? (i := 116) rfl) rfl
theorem m_597 : Cond.code yX4_meanUpper cX4_meanUpper 4 (some .int) ∈ bg := tk_3 (List.mem_of_getElem? (i := 117) rfl) rfl
theorem m_598 : Cond.methodLink RX4 29 yX4_inLowestTerms ∈ bg := tk_3 (List.mem_of_getElem? (i := 118) rfl) rfl
theorem m_600 : Cond.instanceMethod yX4_inLowestTerms ∈ bg := tk_3 (List.mem_of_getElem? (i := 120) rfl) rfl
theorem m_601 : Cond.code yX4_inLowestTerms cX4_inLowestTerms 4 (some .int) ∈ bg := tk_3 (List.mem_of_getElem? (i := 121) rfl) rfl
theorem m_602 : Cond.methodLink RX4 32 yX4_greatestDivisor ∈ bg := tk_3 (List.mem_of_getElem? (i := 122) rfl) rfl
theorem m_603 : Cond.static yX4_greatestDivisor ∈ bg := tk_3 (List.mem_of_getElem? (i := 123) rfl) rfl
theorem m_604 : Cond.code yX4_greatestDivisor cX4_greatestDivisor 6 (some .int) ∈ bg := tk_3 (List.mem_of_getElem? (i := 124) rfl) rfl
theorem m_605 : Cond.methodLink RX11 210 yX4_meanLower ∈ bg := tk_3 (List.mem_of_getElem? (i := 125) rfl) rfl
theorem m_606 : Cond.instanceMethod yX4_meanLower ∈ bg := tk_3 (List.mem_of_getElem? (i := 126) rfl) rfl
theorem m_607 : Cond.selects RX4 yX4_meanLower yX4_meanLower ∈ bg := tk_3 (List.mem_of_getElem? (i := 127) rfl) rfl
theorem m_608 : Cond.code yX4_meanLower cX4_meanLower 4 (some .int) ∈ bg := tk_3 (List.mem_of_getElem? (i := 128) rfl) rfl
theorem m_609 : Cond.methodLink RL 63 yX11_let ∈ bg := tk_3 (List.mem_of_getElem? (i := 129) rfl) rfl
theorem m_610 : Cond.instanceMethod yX11_let ∈ bg := tk_3 (List.mem_of_getElem? (i := 130) rfl) rfl
theorem m_611 : Cond.selects RX11 yX11_let yX11_let ∈ bg := tk_3 (List.mem_of_getElem? (i := 131) rfl) rfl
theorem m_612 : Cond.code yX11_let cX11_let 3 (some .int) ∈ bg := tk_3 (List.mem_of_getElem? (i := 132) rfl) rfl
theorem m_613 : Cond.methodLink RX11 216 yX8_takeOut ∈ bg := tk_3 (List.mem_of_getElem? (i := 133) rfl) rfl
theorem m_614 : Cond.instanceMethod yX8_takeOut ∈ bg := tk_3 (List.mem_of_getElem? (i := 134) rfl) rfl
theorem m_615 : Cond.selects RX8 yX8_takeOut yX8_takeOut ∈ bg := tk_3 (List.mem_of_getElem? (i := 135) rfl) rfl
theorem m_616 : Cond.code yX8_takeOut cX8_takeOut 2 (some .boolean) ∈ bg := tk_3 (List.mem_of_getElem? (i := 136) rfl) rfl
theorem m_617 : Cond.methodLink RX11 219 yX3_fill ∈ bg := tk_3 (List.mem_of_getElem? (i := 137) rfl) rfl
theorem m_618 : Cond.instanceMethod yX3_fill ∈ bg := tk_3 (List.mem_of_getElem? (i := 138) rfl) rfl
theorem m_619 : Cond.selects RX3 yX3_fill yX3_fill ∈ bg := tk_3 (List.mem_of_getElem? (i := 139) rfl) rfl
theorem m_620 : Cond.code yX3_fill cX3_fill 2 none ∈ bg := tk_3 (List.mem_of_getElem? (i := 140) rfl) rfl
theorem m_621 : Cond.constantLong RX3 19 20000 ∈ bg := tk_3 (List.mem_of_getElem? (i := 141) rfl) rfl
theorem m_622 : Cond.methodLink RL 68 yX11_dump ∈ bg := tk_3 (List.mem_of_getElem? (i := 142) rfl) rfl
theorem m_623 : Cond.instanceMethod yX11_dump ∈ bg := tk_3 (List.mem_of_getElem? (i := 143) rfl) rfl
theorem m_624 : Cond.selects RX11 yX11_dump yX11_dump ∈ bg := tk_3 (List.mem_of_getElem? (i := 144) rfl) rfl
theorem m_625 : Cond.code yX11_dump cX11_dump 2 (some .int) ∈ bg := tk_3 (List.mem_of_getElem? (i := 145) rfl) rfl
theorem m_626 : Cond.methodLink RL 72 yX11_wood ∈ bg := tk_3 (List.mem_of_getElem? (i := 146) rfl) rfl
theorem m_627 : Cond.instanceMethod yX11_wood ∈ bg := tk_3 (List.mem_of_getElem? (i := 147) rfl) rfl
theorem m_628 : Cond.selects RX11 yX11_wood yX11_wood ∈ bg := tk_3 (List.mem_of_getElem? (i := 148) rfl) rfl
theorem m_629 : Cond.code yX11_wood cX11_wood 2 (some .int) ∈ bg := tk_3 (List.mem_of_getElem? (i := 149) rfl) rfl
theorem m_630 : Cond.methodLink RX11 222 yX3_stack ∈ bg := tk_3 (List.mem_of_getElem? (i := 150) rfl) rfl
theorem m_631 : Cond.instanceMethod yX3_stack ∈ bg := tk_3 (List.mem_of_getElem? (i := 151) rfl) rfl
theorem m_632 : Cond.selects RX3 yX3_stack yX3_stack ∈ bg := tk_3 (List.mem_of_getElem? (i := 152) rfl) rfl
theorem m_633 : Cond.code yX3_stack cX3_stack 2 (some .int) ∈ bg := tk_3 (List.mem_of_getElem? (i := 153) rfl) rfl
theorem m_634 : Cond.constant RX3 27 1000000 ∈ bg := tk_3 (List.mem_of_getElem? (i := 154) rfl) rfl
theorem m_635 : Cond.methodLink RL 76 yX11_boil ∈ bg := tk_3 (List.mem_of_getElem? (i := 155) rfl) rfl
theorem m_636 : Cond.instanceMethod yX11_boil ∈ bg := tk_3 (List.mem_of_getElem? (i := 156) rfl) rfl
theorem m_637 : Cond.selects RX11 yX11_boil yX11_boil ∈ bg := tk_3 (List.mem_of_getElem? (i := 157) rfl) rfl
theorem m_638 : Cond.code yX11_boil cX11_boil 3 (some .int) ∈ bg := tk_3 (List.mem_of_getElem? (i := 158) rfl) rfl
theorem m_639 : Cond.methodLink RX11 225 yX11_passMinute ∈ bg := tk_3 (List.mem_of_getElem? (i := 159) rfl) rfl
theorem m_641 : Cond.instanceMethod yX11_passMinute ∈ bg := tk_3 (List.mem_of_getElem? (i := 161) rfl) rfl
theorem m_642 : Cond.code yX11_passMinute cX11_passMinute 3 none ∈ bg := tk_3 (List.mem_of_getElem? (i := 162) rfl) rfl
theorem m_643 : Cond.methodLink RX11 329 yX11_gatherPanFacts ∈ bg := tk_3 (List.mem_of_getElem? (i := 163) rfl) rfl
theorem m_645 : Cond.instanceMethod yX11_gatherPanFacts ∈ bg := tk_3 (List.mem_of_getElem? (i := 165) rfl) rfl
theorem m_646 : Cond.code yX11_gatherPanFacts cX11_gatherPanFacts 1 none ∈ bg := tk_3 (List.mem_of_getElem? (i := 166) rfl) rfl
theorem m_647 : Cond.methodLink RX11 352 yX3_strength ∈ bg := tk_3 (List.mem_of_getElem? (i := 167) rfl) rfl
theorem m_648 : Cond.instanceMethod yX3_strength ∈ bg := tk_3 (List.mem_of_getElem? (i := 168) rfl) rfl
theorem m_649 : Cond.selects RX3 yX3_strength yX3_strength ∈ bg := tk_3 (List.mem_of_getElem? (i := 169) rfl) rfl
theorem m_650 : Cond.code yX3_strength cX3_strength 1 (some .int) ∈ bg := tk_3 (List.mem_of_getElem? (i := 170) rfl) rfl
theorem m_651 : Cond.constantLong RX3 28 1000 ∈ bg := tk_3 (List.mem_of_getElem? (i := 171) rfl) rfl
theorem m_652 : Cond.methodLink RX11 332 yX5_firstThatHolds ∈ bg := tk_3 (List.mem_of_getElem? (i := 172) rfl) rfl
theorem m_653 : Cond.instanceMethod yX5_firstThatHolds ∈ bg := tk_3 (List.mem_of_getElem? (i := 173) rfl) rfl
theorem m_654 : Cond.selects RX5 yX5_firstThatHolds yX5_firstThatHolds ∈ bg := tk_3 (List.mem_of_getElem? (i := 174) rfl) rfl
theorem m_655 : Cond.code yX5_firstThatHolds cX5_firstThatHolds 4 (some .int) ∈ bg := tk_3 (List.mem_of_getElem? (i := 175) rfl) rfl
theorem m_656 : Cond.methodLink RX5 40 yX5_allHold ∈ bg := tk_3 (List.mem_of_getElem? (i := 176) rfl) rfl
theorem m_658 : Cond.instanceMethod yX5_allHold ∈ bg := tk_3 (List.mem_of_getElem? (i := 178) rfl) rfl
theorem m_659 : Cond.code yX5_allHold cX5_allHold 6 (some .boolean) ∈ bg := tk_3 (List.mem_of_getElem? (i := 179) rfl) rfl
theorem m_660 : Cond.methodLink RX5 44 yX5_holds ∈ bg := tk_3 (List.mem_of_getElem? (i := 180) rfl) rfl
theorem m_661 : Cond.static yX5_holds ∈ bg := tk_3 (List.mem_of_getElem? (i := 181) rfl) rfl
theorem m_662 : Cond.code yX5_holds cX5_holds 3 (some .boolean) ∈ bg := tk_3 (List.mem_of_getElem? (i := 182) rfl) rfl
theorem m_663 : Cond.methodLink RX11 336 yX5_deedOf ∈ bg := tk_3 (List.mem_of_getElem? (i := 183) rfl) rfl
theorem m_664 : Cond.instanceMethod yX5_deedOf ∈ bg := tk_3 (List.mem_of_getElem? (i := 184) rfl) rfl
theorem m_665 : Cond.selects RX5 yX5_deedOf yX5_deedOf ∈ bg := tk_3 (List.mem_of_getElem? (i := 185) rfl) rfl
theorem m_666 : Cond.code yX5_deedOf cX5_deedOf 2 (some .int) ∈ bg := tk_3 (List.mem_of_getElem? (i := 186) rfl) rfl
theorem m_667 : Cond.methodLink RX5 48 yX5_has ∈ bg := tk_3 (List.mem_of_getElem? (i := 187) rfl) rfl
theorem m_669 : Cond.instanceMethod yX5_has ∈ bg := tk_3 (List.mem_of_getElem? (i := 189) rfl) rfl
theorem m_670 : Cond.code yX5_has cX5_has 2 (some .boolean) ∈ bg := tk_3 (List.mem_of_getElem? (i := 190) rfl) rfl
theorem m_671 : Cond.methodLink RX11 339 yX11_drawBatch ∈ bg := tk_3 (List.mem_of_getElem? (i := 191) rfl) rfl
theorem m_673 : Cond.instanceMethod yX11_drawBatch ∈ bg := tk_3 (List.mem_of_getElem? (i := 193) rfl) rfl
theorem m_674 : Cond.code yX11_drawBatch cX11_drawBatch 2 (some .boolean) ∈ bg := tk_3 (List.mem_of_getElem? (i := 194) rfl) rfl
theorem m_675 : Cond.methodLink RX11 355 yX3_isBurnt ∈ bg := tk_3 (List.mem_of_getElem? (i := 195) rfl) rfl
theorem m_676 : Cond.instanceMethod yX3_isBurnt ∈ bg := tk_3 (List.mem_of_getElem? (i := 196) rfl) rfl
theorem m_677 : Cond.selects RX3 yX3_isBurnt yX3_isBurnt ∈ bg := tk_3 (List.mem_of_getElem? (i := 197) rfl) rfl
theorem m_678 : Cond.code yX3_isBurnt cX3_isBurnt 1 (some .boolean) ∈ bg := tk_3 (List.mem_of_getElem? (i := 198) rfl) rfl
theorem m_679 : Cond.methodLink RX3 30 yX3_strength ∈ bg := tk_3 (List.mem_of_getElem? (i := 199) rfl) rfl
theorem m_680 : Cond.methodLink RX11 358 yX0_add ∈ bg := tk_3 (List.mem_of_getElem? (i := 200) rfl) rfl
theorem m_681 : Cond.instanceMethod yX0_add ∈ bg := tk_3 (List.mem_of_getElem? (i := 201) rfl) rfl
theorem m_682 : Cond.selects RX0 yX0_add yX0_add ∈ bg := tk_3 (List.mem_of_getElem? (i := 202) rfl) rfl
theorem m_683 : Cond.code yX0_add cX0_add 6 (some .boolean) ∈ bg := tk_3 (List.mem_of_getElem? (i := 203) rfl) rfl
theorem m_684 : Cond.methodLink RX11 343 yX5_valueOf ∈ bg := tk_3 (List.mem_of_getElem? (i := 204) rfl) rfl
theorem m_685 : Cond.instanceMethod yX5_valueOf ∈ bg := tk_3 (List.mem_of_getElem? (i := 205) rfl) rfl
theorem m_686 : Cond.selects RX5 yX5_valueOf yX5_valueOf ∈ bg := tk_3 (List.mem_of_getElem? (i := 206) rfl) rfl
theorem m_687 : Cond.code yX5_valueOf cX5_valueOf 2 (some .int) ∈ bg := tk_3 (List.mem_of_getElem? (i := 207) rfl) rfl
theorem m_688 : Cond.methodLink RX11 349 yX3_boilMinute ∈ bg := tk_3 (List.mem_of_getElem? (i := 208) rfl) rfl
theorem m_689 : Cond.instanceMethod yX3_boilMinute ∈ bg := tk_3 (List.mem_of_getElem? (i := 209) rfl) rfl
theorem m_690 : Cond.selects RX3 yX3_boilMinute yX3_boilMinute ∈ bg := tk_3 (List.mem_of_getElem? (i := 210) rfl) rfl
theorem m_691 : Cond.code yX3_boilMinute cX3_boilMinute 2 none ∈ bg := tk_3 (List.mem_of_getElem? (i := 211) rfl) rfl
theorem m_692 : Cond.methodLink RX3 37 Lib.Math.min.name ∈ bg := tk_3 (List.mem_of_getElem? (i := 212) rfl) rfl
theorem m_693 : Cond.methodLink RX3 43 Lib.Math.max.name ∈ bg := tk_3 (List.mem_of_getElem? (i := 213) rfl) rfl
theorem m_694 : Cond.methodLink RL 80 yX11_pan ∈ bg := tk_3 (List.mem_of_getElem? (i := 214) rfl) rfl
theorem m_695 : Cond.instanceMethod yX11_pan ∈ bg := tk_3 (List.mem_of_getElem? (i := 215) rfl) rfl
theorem m_696 : Cond.selects RX11 yX11_pan yX11_pan ∈ bg := tk_3 (List.mem_of_getElem? (i := 216) rfl) rfl
theorem m_697 : Cond.code yX11_pan cX11_pan 2 (some .int) ∈ bg := tk_3 (List.mem_of_getElem? (i := 217) rfl) rfl
theorem m_698 : Cond.methodLink RX11 228 yX3_tell ∈ bg := tk_3 (List.mem_of_getElem? (i := 218) rfl) rfl
theorem m_699 : Cond.instanceMethod yX3_tell ∈ bg := tk_3 (List.mem_of_getElem? (i := 219) rfl) rfl
theorem m_700 : Cond.selects RX3 yX3_tell yX3_tell ∈ bg := tk_3 (List.mem_of_getElem? (i := 220) rfl) rfl
theorem m_701 : Cond.code yX3_tell cX3_tell 2 (some .int) ∈ bg := tk_3 (List.mem_of_getElem? (i := 221) rfl) rfl
theorem m_702 : Cond.methodLink RX3 46 yX3_isBurnt ∈ bg := tk_3 (List.mem_of_getElem? (i := 222) rfl) rfl
theorem m_703 : Cond.methodLink RL 84 yX11_look ∈ bg := tk_3 (List.mem_of_getElem? (i := 223) rfl) rfl
theorem m_704 : Cond.instanceMethod yX11_look ∈ bg := tk_3 (List.mem_of_getElem? (i := 224) rfl) rfl
theorem m_705 : Cond.selects RX11 yX11_look yX11_look ∈ bg := tk_3 (List.mem_of_getElem? (i := 225) rfl) rfl
theorem m_706 : Cond.code yX11_look cX11_look 5 (some .boolean) ∈ bg := tk_3 (List.mem_of_getElem? (i := 226) rfl) rfl
theorem m_707 : Cond.methodLink RX11 230 yX0_has ∈ bg := tk_3 (List.mem_of_getElem? (i := 227) rfl) rfl
theorem m_708 : Cond.instanceMethod yX0_has ∈ bg := tk_3 (List.mem_of_getElem? (i := 228) rfl) rfl
theorem m_709 : Cond.selects RX0 yX0_has yX0_has ∈ bg := tk_3 (List.mem_of_getElem? (i := 229) rfl) rfl
theorem m_710 : Cond.code yX0_has cX0_has 2 (some .boolean) ∈ bg := tk_3 (List.mem_of_getElem? (i := 230) rfl) rfl
theorem m_711 : Cond.methodLink RX11 231 yX0_takeLook ∈ bg := tk_3 (List.mem_of_getElem? (i := 231) rfl) rfl
theorem m_712 : Cond.instanceMethod yX0_takeLook ∈ bg := tk_3 (List.mem_of_getElem? (i := 232) rfl) rfl
theorem m_713 : Cond.selects RX0 yX0_takeLook yX0_takeLook ∈ bg := tk_3 (List.mem_of_getElem? (i := 233) rfl) rfl
theorem m_714 : Cond.code yX0_takeLook cX0_takeLook 4 (some .boolean) ∈ bg := tk_3 (List.mem_of_getElem? (i := 234) rfl) rfl
theorem m_715 : Cond.methodLink RX0 37 yX0_has ∈ bg := tk_3 (List.mem_of_getElem? (i := 235) rfl) rfl
theorem m_717 : Cond.methodLink RL 89 yX11_batch ∈ bg := tk_3 (List.mem_of_getElem? (i := 237) rfl) rfl
theorem m_718 : Cond.instanceMethod yX11_batch ∈ bg := tk_3 (List.mem_of_getElem? (i := 238) rfl) rfl
theorem m_719 : Cond.selects RX11 yX11_batch yX11_batch ∈ bg := tk_3 (List.mem_of_getElem? (i := 239) rfl) rfl
theorem m_720 : Cond.code yX11_batch cX11_batch 3 (some .int) ∈ bg := tk_4 (List.mem_of_getElem? (i := 0) rfl) rfl
theorem m_721 : Cond.methodLink RX11 234 yX11_gradeOf ∈ bg := tk_4 (List.mem_of_getElem? (i := 1) rfl) rfl
theorem m_723 : Cond.instanceMethod yX11_gradeOf ∈ bg := tk_4 (List.mem_of_getElem? (i := 3) rfl) rfl
theorem m_724 : Cond.code yX11_gradeOf cX11_gradeOf 4 (some .int) ∈ bg := tk_4 (List.mem_of_getElem? (i := 4) rfl) rfl
theorem m_725 : Cond.methodLink RX11 364 yX0_lookAt ∈ bg := tk_4 (List.mem_of_getElem? (i := 5) rfl) rfl
theorem m_726 : Cond.instanceMethod yX0_lookAt ∈ bg := tk_4 (List.mem_of_getElem? (i := 6) rfl) rfl
theorem m_727 : Cond.selects RX0 yX0_lookAt yX0_lookAt ∈ bg := tk_4 (List.mem_of_getElem? (i := 7) rfl) rfl
theorem m_728 : Cond.code yX0_lookAt cX0_lookAt 3 (some .int) ∈ bg := tk_4 (List.mem_of_getElem? (i := 8) rfl) rfl
theorem m_729 : Cond.methodLink RX11 367 yX11_gradeByLook ∈ bg := tk_4 (List.mem_of_getElem? (i := 9) rfl) rfl
theorem m_731 : Cond.instanceMethod yX11_gradeByLook ∈ bg := tk_4 (List.mem_of_getElem? (i := 11) rfl) rfl
theorem m_732 : Cond.code yX11_gradeByLook cX11_gradeByLook 4 (some .int) ∈ bg := tk_4 (List.mem_of_getElem? (i := 12) rfl) rfl
theorem m_733 : Cond.methodLink RX11 370 yX0_strengthOf ∈ bg := tk_4 (List.mem_of_getElem? (i := 13) rfl) rfl
theorem m_734 : Cond.instanceMethod yX0_strengthOf ∈ bg := tk_4 (List.mem_of_getElem? (i := 14) rfl) rfl
theorem m_735 : Cond.selects RX0 yX0_strengthOf yX0_strengthOf ∈ bg := tk_4 (List.mem_of_getElem? (i := 15) rfl) rfl
theorem m_736 : Cond.code yX0_strengthOf cX0_strengthOf 2 (some .int) ∈ bg := tk_4 (List.mem_of_getElem? (i := 16) rfl) rfl
theorem m_737 : Cond.methodLink RX11 373 yX0_partsOf ∈ bg := tk_4 (List.mem_of_getElem? (i := 17) rfl) rfl
theorem m_738 : Cond.instanceMethod yX0_partsOf ∈ bg := tk_4 (List.mem_of_getElem? (i := 18) rfl) rfl
theorem m_739 : Cond.selects RX0 yX0_partsOf yX0_partsOf ∈ bg := tk_4 (List.mem_of_getElem? (i := 19) rfl) rfl
theorem m_740 : Cond.code yX0_partsOf cX0_partsOf 2 (some .int) ∈ bg := tk_4 (List.mem_of_getElem? (i := 20) rfl) rfl
theorem m_741 : Cond.methodLink RX11 376 yX0_dayOf ∈ bg := tk_4 (List.mem_of_getElem? (i := 21) rfl) rfl
theorem m_742 : Cond.instanceMethod yX0_dayOf ∈ bg := tk_4 (List.mem_of_getElem? (i := 22) rfl) rfl
theorem m_743 : Cond.selects RX0 yX0_dayOf yX0_dayOf ∈ bg := tk_4 (List.mem_of_getElem? (i := 23) rfl) rfl
theorem m_744 : Cond.code yX0_dayOf cX0_dayOf 2 (some .int) ∈ bg := tk_4 (List.mem_of_getElem? (i := 24) rfl) rfl
theorem m_745 : Cond.methodLink RX11 237 yX0_tell ∈ bg := tk_4 (List.mem_of_getElem? (i := 25) rfl) rfl
theorem m_746 : Cond.instanceMethod yX0_tell ∈ bg := tk_4 (List.mem_of_getElem? (i := 26) rfl) rfl
theorem m_747 : Cond.selects RX0 yX0_tell yX0_tell ∈ bg := tk_4 (List.mem_of_getElem? (i := 27) rfl) rfl
theorem m_748 : Cond.code yX0_tell cX0_tell 3 (some .int) ∈ bg := tk_4 (List.mem_of_getElem? (i := 28) rfl) rfl
theorem m_749 : Cond.methodLink RL 93 yX11_sell ∈ bg := tk_4 (List.mem_of_getElem? (i := 29) rfl) rfl
theorem m_750 : Cond.instanceMethod yX11_sell ∈ bg := tk_4 (List.mem_of_getElem? (i := 30) rfl) rfl
theorem m_751 : Cond.selects RX11 yX11_sell yX11_sell ∈ bg := tk_4 (List.mem_of_getElem? (i := 31) rfl) rfl
theorem m_752 : Cond.code yX11_sell cX11_sell 4 (some .int) ∈ bg := tk_4 (List.mem_of_getElem? (i := 32) rfl) rfl
theorem m_753 : Cond.constant RX11 238 1000000 ∈ bg := tk_4 (List.mem_of_getElem? (i := 33) rfl) rfl
theorem m_754 : Cond.methodLink RX11 239 yX1_cameTogether ∈ bg := tk_4 (List.mem_of_getElem? (i := 34) rfl) rfl
theorem m_755 : Cond.instanceMethod yX1_cameTogether ∈ bg := tk_4 (List.mem_of_getElem? (i := 35) rfl) rfl
theorem m_756 : Cond.selects RX1 yX1_cameTogether yX1_cameTogether ∈ bg := tk_4 (List.mem_of_getElem? (i := 36) rfl) rfl
theorem m_757 : Cond.code yX1_cameTogether cX1_cameTogether 3 (some .int) ∈ bg := tk_4 (List.mem_of_getElem? (i := 37) rfl) rfl
theorem m_758 : Cond.methodLink RX11 243 yX11_sellAllOf ∈ bg := tk_4 (List.mem_of_getElem? (i := 38) rfl) rfl
theorem m_760 : Cond.instanceMethod yX11_sellAllOf ∈ bg := tk_4 (List.mem_of_getElem? (i := 40) rfl) rfl
theorem m_761 : Cond.code yX11_sellAllOf cX11_sellAllOf 4 (some .int) ∈ bg := tk_4 (List.mem_of_getElem? (i := 41) rfl) rfl
theorem m_762 : Cond.methodLink RX11 379 yX0_isSold ∈ bg := tk_4 (List.mem_of_getElem? (i := 42) rfl) rfl
theorem m_763 : Cond.instanceMethod yX0_isSold ∈ bg := tk_4 (List.mem_of_getElem? (i := 43) rfl) rfl
theorem m_764 : Cond.selects RX0 yX0_isSold yX0_isSold ∈ bg := tk_4 (List.mem_of_getElem? (i := 44) rfl) rfl
theorem m_765 : Cond.code yX0_isSold cX0_isSold 2 (some .boolean) ∈ bg := tk_4 (List.mem_of_getElem? (i := 45) rfl) rfl
theorem m_766 : Cond.methodLink RX11 382 yX0_markSold ∈ bg := tk_4 (List.mem_of_getElem? (i := 46) rfl) rfl
theorem m_767 : Cond.instanceMethod yX0_markSold ∈ bg := tk_4 (List.mem_of_getElem? (i := 47) rfl) rfl
theorem m_768 : Cond.selects RX0 yX0_markSold yX0_markSold ∈ bg := tk_4 (List.mem_of_getElem? (i := 48) rfl) rfl
theorem m_769 : Cond.code yX0_markSold cX0_markSold 2 none ∈ bg := tk_4 (List.mem_of_getElem? (i := 49) rfl) rfl
theorem m_770 : Cond.methodLink RX11 246 yX1_share ∈ bg := tk_4 (List.mem_of_getElem? (i := 50) rfl) rfl
theorem m_771 : Cond.instanceMethod yX1_share ∈ bg := tk_4 (List.mem_of_getElem? (i := 51) rfl) rfl
theorem m_772 : Cond.selects RX1 yX1_share yX1_share ∈ bg := tk_4 (List.mem_of_getElem? (i := 52) rfl) rfl
theorem m_773 : Cond.code yX1_share cX1_share 8 none ∈ bg := tk_4 (List.mem_of_getElem? (i := 53) rfl) rfl
theorem m_774 : Cond.methodLink RX1 32 yX1_cameTogether ∈ bg := tk_4 (List.mem_of_getElem? (i := 54) rfl) rfl
theorem m_775 : Cond.methodLink RX1 36 yX1_greatestRemainder ∈ bg := tk_4 (List.mem_of_getElem? (i := 55) rfl) rfl
theorem m_777 : Cond.instanceMethod yX1_greatestRemainder ∈ bg := tk_4 (List.mem_of_getElem? (i := 57) rfl) rfl
theorem m_778 : Cond.code yX1_greatestRemainder cX1_greatestRemainder 3 (some .int) ∈ bg := tk_4 (List.mem_of_getElem? (i := 58) rfl) rfl
theorem m_779 : Cond.methodLink RL 97 yX11_member ∈ bg := tk_4 (List.mem_of_getElem? (i := 59) rfl) rfl
theorem m_780 : Cond.instanceMethod yX11_member ∈ bg := tk_4 (List.mem_of_getElem? (i := 60) rfl) rfl
theorem m_781 : Cond.selects RX11 yX11_member yX11_member ∈ bg := tk_4 (List.mem_of_getElem? (i := 61) rfl) rfl
theorem m_782 : Cond.code yX11_member cX11_member 3 (some .int) ∈ bg := tk_4 (List.mem_of_getElem? (i := 62) rfl) rfl
theorem m_783 : Cond.methodLink RX11 249 yX1_tell ∈ bg := tk_4 (List.mem_of_getElem? (i := 63) rfl) rfl
theorem m_784 : Cond.instanceMethod yX1_tell ∈ bg := tk_4 (List.mem_of_getElem? (i := 64) rfl) rfl
theorem m_785 : Cond.selects RX1 yX1_tell yX1_tell ∈ bg := tk_4 (List.mem_of_getElem? (i := 65) rfl) rfl
theorem m_786 : Cond.code yX1_tell cX1_tell 3 (some .int) ∈ bg := tk_4 (List.mem_of_getElem? (i := 66) rfl) rfl
theorem m_787 : Cond.methodLink RL 101 yX11_feed ∈ bg := tk_4 (List.mem_of_getElem? (i := 67) rfl) rfl
theorem m_788 : Cond.instanceMethod yX11_feed ∈ bg := tk_4 (List.mem_of_getElem? (i := 68) rfl) rfl
theorem m_789 : Cond.selects RX11 yX11_feed yX11_feed ∈ bg := tk_4 (List.mem_of_getElem? (i := 69) rfl) rfl
theorem m_790 : Cond.code yX11_feed cX11_feed 6 (some .int) ∈ bg := tk_4 (List.mem_of_getElem? (i := 70) rfl) rfl
theorem m_791 : Cond.methodLink RX11 250 yX9_hasRoomFor ∈ bg := tk_4 (List.mem_of_getElem? (i := 71) rfl) rfl
theorem m_792 : Cond.instanceMethod yX9_hasRoomFor ∈ bg := tk_4 (List.mem_of_getElem? (i := 72) rfl) rfl
theorem m_793 : Cond.selects RX9 yX9_hasRoomFor yX9_hasRoomFor ∈ bg := tk_4 (List.mem_of_getElem? (i := 73) rfl) rfl
theorem m_794 : Cond.code yX9_hasRoomFor cX9_hasRoomFor 2 (some .boolean) ∈ bg := tk_4 (List.mem_of_getElem? (i := 74) rfl) rfl
theorem m_795 : Cond.methodLink RX11 253 yX9_append ∈ bg := tk_4 (List.mem_of_getElem? (i := 75) rfl) rfl
theorem m_796 : Cond.instanceMethod yX9_append ∈ bg := tk_4 (List.mem_of_getElem? (i := 76) rfl) rfl
theorem m_797 : Cond.selects RX9 yX9_append yX9_append ∈ bg := tk_4 (List.mem_of_getElem? (i := 77) rfl) rfl
theorem m_798 : Cond.code yX9_append cX9_append 3 none ∈ bg := tk_4 (List.mem_of_getElem? (i := 78) rfl) rfl
theorem m_799 : Cond.methodLink RX9 26 yX9_hasRoomFor ∈ bg := tk_4 (List.mem_of_getElem? (i := 79) rfl) rfl
theorem m_800 : Cond.methodLink RL 106 yX11_rules ∈ bg := tk_4 (List.mem_of_getElem? (i := 80) rfl) rfl
theorem m_801 : Cond.instanceMethod yX11_rules ∈ bg := tk_4 (List.mem_of_getElem? (i := 81) rfl) rfl
theorem m_802 : Cond.selects RX11 yX11_rules yX11_rules ∈ bg := tk_4 (List.mem_of_getElem? (i := 82) rfl) rfl
theorem m_803 : Cond.code yX11_rules cX11_rules 3 (some .int) ∈ bg := tk_4 (List.mem_of_getElem? (i := 83) rfl) rfl
theorem m_804 : Cond.methodLink RX11 259 yX6_read ∈ bg := tk_4 (List.mem_of_getElem? (i := 84) rfl) rfl
theorem m_805 : Cond.instanceMethod yX6_read ∈ bg := tk_4 (List.mem_of_getElem? (i := 85) rfl) rfl
theorem m_806 : Cond.selects RX6 yX6_read yX6_read ∈ bg := tk_4 (List.mem_of_getElem? (i := 86) rfl) rfl
theorem m_807 : Cond.code yX6_read cX6_read 4 (some .boolean) ∈ bg := tk_4 (List.mem_of_getElem? (i := 87) rfl) rfl
theorem m_808 : Cond.methodLink RX6 25 yX9_splitFirst ∈ bg := tk_4 (List.mem_of_getElem? (i := 88) rfl) rfl
theorem m_809 : Cond.instanceMethod yX9_splitFirst ∈ bg := tk_4 (List.mem_of_getElem? (i := 89) rfl) rfl
theorem m_810 : Cond.selects RX9 yX9_splitFirst yX9_splitFirst ∈ bg := tk_4 (List.mem_of_getElem? (i := 90) rfl) rfl
theorem m_811 : Cond.code yX9_splitFirst cX9_splitFirst 3 none ∈ bg := tk_4 (List.mem_of_getElem? (i := 91) rfl) rfl
theorem m_812 : Cond.methodLink RX9 30 Lib.Math.min.name ∈ bg := tk_4 (List.mem_of_getElem? (i := 92) rfl) rfl
theorem m_813 : Cond.methodLink RX9 36 Lib.Math.max.name ∈ bg := tk_4 (List.mem_of_getElem? (i := 93) rfl) rfl
theorem m_814 : Cond.methodLink RX9 45 yX9_beginsToken ∈ bg := tk_4 (List.mem_of_getElem? (i := 94) rfl) rfl
theorem m_816 : Cond.instanceMethod yX9_beginsToken ∈ bg := tk_4 (List.mem_of_getElem? (i := 96) rfl) rfl
theorem m_817 : Cond.code yX9_beginsToken cX9_beginsToken 3 (some .boolean) ∈ bg := tk_4 (List.mem_of_getElem? (i := 97) rfl) rfl
theorem m_818 : Cond.methodLink RX9 52 yX9_kindAt ∈ bg := tk_4 (List.mem_of_getElem? (i := 98) rfl) rfl
theorem m_820 : Cond.instanceMethod yX9_kindAt ∈ bg := tk_4 (List.mem_of_getElem? (i := 100) rfl) rfl
theorem m_821 : Cond.code yX9_kindAt cX9_kindAt 3 (some .int) ∈ bg := tk_4 (List.mem_of_getElem? (i := 101) rfl) rfl
theorem m_822 : Cond.methodLink RX9 48 yX9_codeAt ∈ bg := tk_4 (List.mem_of_getElem? (i := 102) rfl) rfl
theorem m_824 : Cond.instanceMethod yX9_codeAt ∈ bg := tk_4 (List.mem_of_getElem? (i := 104) rfl) rfl
theorem m_825 : Cond.code yX9_codeAt cX9_codeAt 2 (some .int) ∈ bg := tk_4 (List.mem_of_getElem? (i := 105) rfl) rfl
theorem m_826 : Cond.methodLink RX9 55 yX9_codeOfWord ∈ bg := tk_4 (List.mem_of_getElem? (i := 106) rfl) rfl
theorem m_828 : Cond.instanceMethod yX9_codeOfWord ∈ bg := tk_4 (List.mem_of_getElem? (i := 108) rfl) rfl
theorem m_829 : Cond.code yX9_codeOfWord cX9_codeOfWord 3 (some .int) ∈ bg := tk_4 (List.mem_of_getElem? (i := 109) rfl) rfl
theorem m_830 : Cond.methodLink RX9 64 yX9_wordOf ∈ bg := tk_4 (List.mem_of_getElem? (i := 110) rfl) rfl
theorem m_831 : Cond.static yX9_wordOf ∈ bg := tk_4 (List.mem_of_getElem? (i := 111) rfl) rfl
theorem m_832 : Cond.code yX9_wordOf cX9_wordOf 1 (some (.object "java/lang/String")) ∈ bg := tk_4 (List.mem_of_getElem? (i := 112) rfl) rfl
theorem m_846 : Cond.methodLink RX9 68 yX9_isSpeltAt ∈ bg := tk_4 (List.mem_of_getElem? (i := 126) rfl) rfl
theorem m_848 : Cond.instanceMethod yX9_isSpeltAt ∈ bg := tk_4 (List.mem_of_getElem? (i := 128) rfl) rfl
theorem m_849 : Cond.code yX9_isSpeltAt cX9_isSpeltAt 5 (some .boolean) ∈ bg := tk_4 (List.mem_of_getElem? (i := 129) rfl) rfl
theorem m_850 : Cond.methodLink RX9 98 yJ0_length_8abf5 ∈ bg := tk_4 (List.mem_of_getElem? (i := 130) rfl) rfl
theorem m_851 : Cond.instanceMethod yJ0_length_8abf5 ∈ bg := tk_4 (List.mem_of_getElem? (i := 131) rfl) rfl
theorem m_852 : Cond.selects "java/lang/String" yJ0_length_8abf5 yJ0_length_8abf5 ∈ bg := tk_4 (List.mem_of_getElem? (i := 132) rfl) rfl
theorem m_853 : Cond.code yJ0_length_8abf5 cJ0_length_8abf5 1 (some .int) ∈ bg := tk_4 (List.mem_of_getElem? (i := 133) rfl) rfl
theorem m_854 : Cond.methodLink "java/lang/String" 335 yJ0_coder_7d493 ∈ bg := tk_4 (List.mem_of_getElem? (i := 134) rfl) rfl
theorem m_855 : Cond.instanceMethod yJ0_coder_7d493 ∈ bg := tk_4 (List.mem_of_getElem? (i := 135) rfl) rfl
theorem m_856 : Cond.selects "java/lang/String" yJ0_coder_7d493 yJ0_coder_7d493 ∈ bg := tk_4 (List.mem_of_getElem? (i := 136) rfl) rfl
theorem m_857 : Cond.code yJ0_coder_7d493 cJ0_coder_7d493 1 (some .byte) ∈ bg := tk_4 (List.mem_of_getElem? (i := 137) rfl) rfl
theorem m_858 : Cond.fieldLink "java/lang/String" 38 "java/lang/String" "COMPACT_STRINGS" "Z" ∈ bg := tk_4 (List.mem_of_getElem? (i := 138) rfl) rfl
theorem m_860 : Cond.methodLink RX9 104 yJ0_charAt_5068e ∈ bg := tk_4 (List.mem_of_getElem? (i := 140) rfl) rfl
theorem m_861 : Cond.instanceMethod yJ0_charAt_5068e ∈ bg := tk_4 (List.mem_of_getElem? (i := 141) rfl) rfl
theorem m_862 : Cond.selects "java/lang/String" yJ0_charAt_5068e yJ0_charAt_5068e ∈ bg := tk_4 (List.mem_of_getElem? (i := 142) rfl) rfl
theorem m_863 : Cond.code yJ0_charAt_5068e cJ0_charAt_5068e 2 (some .char) ∈ bg := tk_4 (List.mem_of_getElem? (i := 143) rfl) rfl
theorem m_864 : Cond.methodLink "java/lang/String" 492 yJ0_isLatin1_aae02 ∈ bg := tk_4 (List.mem_of_getElem? (i := 144) rfl) rfl
theorem m_865 : Cond.instanceMethod yJ0_isLatin1_aae02 ∈ bg := tk_4 (List.mem_of_getElem? (i := 145) rfl) rfl
theorem m_866 : Cond.selects "java/lang/String" yJ0_isLatin1_aae02 yJ0_isLatin1_aae02 ∈ bg := tk_4 (List.mem_of_getElem? (i := 146) rfl) rfl
theorem m_867 : Cond.code yJ0_isLatin1_aae02 cJ0_isLatin1_aae02 1 (some .boolean) ∈ bg := tk_4 (List.mem_of_getElem? (i := 147) rfl) rfl
theorem m_868 : Cond.methodLink "java/lang/String" 495 yJ1_charAt_3b067 ∈ bg := tk_4 (List.mem_of_getElem? (i := 148) rfl) rfl
theorem m_869 : Cond.static yJ1_charAt_3b067 ∈ bg := tk_4 (List.mem_of_getElem? (i := 149) rfl) rfl
theorem m_870 : Cond.code yJ1_charAt_3b067 cJ1_charAt_3b067 2 (some .char) ∈ bg := tk_4 (List.mem_of_getElem? (i := 150) rfl) rfl
theorem m_871 : Cond.methodLink "java/lang/StringLatin1" 9 yJ0_checkIndex_df160 ∈ bg := tk_4 (List.mem_of_getElem? (i := 151) rfl) rfl
theorem m_872 : Cond.static yJ0_checkIndex_df160 ∈ bg := tk_4 (List.mem_of_getElem? (i := 152) rfl) rfl
theorem m_873 : Cond.code yJ0_checkIndex_df160 cJ0_checkIndex_df160 2 none ∈ bg := tk_4 (List.mem_of_getElem? (i := 153) rfl) rfl
theorem m_874 : Cond.fieldLink "java/lang/String" 1053 "jdk/internal/util/Preconditions" "SIOOBE_FORMATTER" "Ljava/util/function/BiFunction;" ∈ bg := tk_4 (List.mem_of_getElem? (i := 154) rfl) rfl
theorem m_876 : Cond.methodLink "java/lang/String" 1059 yJ3_checkIndex_8e157 ∈ bg := tk_4 (List.mem_of_getElem? (i := 156) rfl) rfl
theorem m_877 : Cond.static yJ3_checkIndex_8e157 ∈ bg := tk_4 (List.mem_of_getElem? (i := 157) rfl) rfl
theorem m_878 : Cond.code yJ3_checkIndex_8e157 cJ3_checkIndex_8e157 3 (some .int) ∈ bg := tk_4 (List.mem_of_getElem? (i := 158) rfl) rfl
theorem m_898 : Cond.methodLink RX9 58 yX9_codeOfNumber ∈ bg := tk_4 (List.mem_of_getElem? (i := 178) rfl) rfl
theorem m_900 : Cond.instanceMethod yX9_codeOfNumber ∈ bg := tk_4 (List.mem_of_getElem? (i := 180) rfl) rfl
theorem m_901 : Cond.code yX9_codeOfNumber cX9_codeOfNumber 4 (some .int) ∈ bg := tk_4 (List.mem_of_getElem? (i := 181) rfl) rfl
theorem m_902 : Cond.methodLink RX9 61 yX9_codeOfSign ∈ bg := tk_4 (List.mem_of_getElem? (i := 182) rfl) rfl
theorem m_904 : Cond.instanceMethod yX9_codeOfSign ∈ bg := tk_4 (List.mem_of_getElem? (i := 184) rfl) rfl
theorem m_905 : Cond.code yX9_codeOfSign cX9_codeOfSign 3 (some .int) ∈ bg := tk_4 (List.mem_of_getElem? (i := 185) rfl) rfl
theorem m_906 : Cond.methodLink RX6 29 yX5_clear ∈ bg := tk_4 (List.mem_of_getElem? (i := 186) rfl) rfl
theorem m_907 : Cond.instanceMethod yX5_clear ∈ bg := tk_4 (List.mem_of_getElem? (i := 187) rfl) rfl
theorem m_908 : Cond.selects RX5 yX5_clear yX5_clear ∈ bg := tk_4 (List.mem_of_getElem? (i := 188) rfl) rfl
theorem m_909 : Cond.code yX5_clear cX5_clear 1 none ∈ bg := tk_4 (List.mem_of_getElem? (i := 189) rfl) rfl
theorem m_910 : Cond.methodLink RX5 34 yJ7_fill_53178 ∈ bg := tk_4 (List.mem_of_getElem? (i := 190) rfl) rfl
theorem m_911 : Cond.methodLink RX6 34 yX9_hasToken ∈ bg := tk_4 (List.mem_of_getElem? (i := 191) rfl) rfl
theorem m_912 : Cond.instanceMethod yX9_hasToken ∈ bg := tk_4 (List.mem_of_getElem? (i := 192) rfl) rfl
theorem m_913 : Cond.selects RX9 yX9_hasToken yX9_hasToken ∈ bg := tk_4 (List.mem_of_getElem? (i := 193) rfl) rfl
theorem m_914 : Cond.code yX9_hasToken cX9_hasToken 2 (some .boolean) ∈ bg := tk_4 (List.mem_of_getElem? (i := 194) rfl) rfl
theorem m_915 : Cond.methodLink RX6 38 yX6_readStatement ∈ bg := tk_4 (List.mem_of_getElem? (i := 195) rfl) rfl
theorem m_917 : Cond.instanceMethod yX6_readStatement ∈ bg := tk_4 (List.mem_of_getElem? (i := 197) rfl) rfl
theorem m_918 : Cond.code yX6_readStatement cX6_readStatement 5 (some .boolean) ∈ bg := tk_4 (List.mem_of_getElem? (i := 198) rfl) rfl
theorem m_919 : Cond.methodLink RX6 42 yX6_take ∈ bg := tk_4 (List.mem_of_getElem? (i := 199) rfl) rfl
theorem m_921 : Cond.instanceMethod yX6_take ∈ bg := tk_4 (List.mem_of_getElem? (i := 201) rfl) rfl
theorem m_922 : Cond.code yX6_take cX6_take 2 (some .boolean) ∈ bg := tk_4 (List.mem_of_getElem? (i := 202) rfl) rfl
theorem m_923 : Cond.methodLink RX6 71 yX9_codeOf ∈ bg := tk_4 (List.mem_of_getElem? (i := 203) rfl) rfl
theorem m_924 : Cond.instanceMethod yX9_codeOf ∈ bg := tk_4 (List.mem_of_getElem? (i := 204) rfl) rfl
theorem m_925 : Cond.selects RX9 yX9_codeOf yX9_codeOf ∈ bg := tk_4 (List.mem_of_getElem? (i := 205) rfl) rfl
theorem m_926 : Cond.code yX9_codeOf cX9_codeOf 2 (some .int) ∈ bg := tk_4 (List.mem_of_getElem? (i := 206) rfl) rfl
theorem m_927 : Cond.methodLink RX6 45 yX6_readDeedNumber ∈ bg := tk_4 (List.mem_of_getElem? (i := 207) rfl) rfl
theorem m_929 : Cond.instanceMethod yX6_readDeedNumber ∈ bg := tk_4 (List.mem_of_getElem? (i := 209) rfl) rfl
theorem m_930 : Cond.code yX6_readDeedNumber cX6_readDeedNumber 4 (some .boolean) ∈ bg := tk_4 (List.mem_of_getElem? (i := 210) rfl) rfl
theorem m_931 : Cond.methodLink RX6 62 yX6_takeNumber ∈ bg := tk_4 (List.mem_of_getElem? (i := 211) rfl) rfl
theorem m_933 : Cond.instanceMethod yX6_takeNumber ∈ bg := tk_4 (List.mem_of_getElem? (i := 213) rfl) rfl
theorem m_934 : Cond.code yX6_takeNumber cX6_takeNumber 3 (some .boolean) ∈ bg := tk_4 (List.mem_of_getElem? (i := 214) rfl) rfl
theorem m_936 : Cond.methodLink RX6 58 yX5_setDeed ∈ bg := tk_4 (List.mem_of_getElem? (i := 216) rfl) rfl
theorem m_937 : Cond.instanceMethod yX5_setDeed ∈ bg := tk_4 (List.mem_of_getElem? (i := 217) rfl) rfl
theorem m_938 : Cond.selects RX5 yX5_setDeed yX5_setDeed ∈ bg := tk_4 (List.mem_of_getElem? (i := 218) rfl) rfl
theorem m_939 : Cond.code yX5_setDeed cX5_setDeed 3 none ∈ bg := tk_4 (List.mem_of_getElem? (i := 219) rfl) rfl
theorem m_940 : Cond.methodLink RX6 49 yX6_readTests ∈ bg := tk_4 (List.mem_of_getElem? (i := 220) rfl) rfl
theorem m_942 : Cond.instanceMethod yX6_readTests ∈ bg := tk_4 (List.mem_of_getElem? (i := 222) rfl) rfl
theorem m_943 : Cond.code yX6_readTests cX6_readTests 3 (some .boolean) ∈ bg := tk_4 (List.mem_of_getElem? (i := 223) rfl) rfl
theorem m_944 : Cond.methodLink RX6 68 yX6_readTest ∈ bg := tk_4 (List.mem_of_getElem? (i := 224) rfl) rfl
theorem m_946 : Cond.instanceMethod yX6_readTest ∈ bg := tk_4 (List.mem_of_getElem? (i := 226) rfl) rfl
theorem m_947 : Cond.code yX6_readTest cX6_readTest 5 (some .boolean) ∈ bg := tk_4 (List.mem_of_getElem? (i := 227) rfl) rfl
theorem m_948 : Cond.methodLink RX6 78 yX5_addTest ∈ bg := tk_4 (List.mem_of_getElem? (i := 228) rfl) rfl
theorem m_949 : Cond.instanceMethod yX5_addTest ∈ bg := tk_4 (List.mem_of_getElem? (i := 229) rfl) rfl
theorem m_950 : Cond.selects RX5 yX5_addTest yX5_addTest ∈ bg := tk_4 (List.mem_of_getElem? (i := 230) rfl) rfl
theorem m_951 : Cond.code yX5_addTest cX5_addTest 5 none ∈ bg := tk_4 (List.mem_of_getElem? (i := 231) rfl) rfl
theorem m_952 : Cond.methodLink RX6 52 yX6_readDeed ∈ bg := tk_4 (List.mem_of_getElem? (i := 232) rfl) rfl
theorem m_954 : Cond.instanceMethod yX6_readDeed ∈ bg := tk_4 (List.mem_of_getElem? (i := 234) rfl) rfl
theorem m_955 : Cond.code yX6_readDeed cX6_readDeed 2 (some .boolean) ∈ bg := tk_4 (List.mem_of_getElem? (i := 235) rfl) rfl
theorem m_956 : Cond.methodLink RX6 55 yX5_endStatement ∈ bg := tk_4 (List.mem_of_getElem? (i := 236) rfl) rfl
theorem m_957 : Cond.instanceMethod yX5_endStatement ∈ bg := tk_4 (List.mem_of_getElem? (i := 237) rfl) rfl
theorem m_958 : Cond.selects RX5 yX5_endStatement yX5_endStatement ∈ bg := tk_4 (List.mem_of_getElem? (i := 238) rfl) rfl
theorem m_959 : Cond.code yX5_endStatement cX5_endStatement 1 none ∈ bg := tk_4 (List.mem_of_getElem? (i := 239) rfl) rfl
theorem m_960 : Cond.methodLink RX11 263 yX6_place ∈ bg := tk_5 (List.mem_of_getElem? (i := 0) rfl) rfl
theorem m_961 : Cond.instanceMethod yX6_place ∈ bg := tk_5 (List.mem_of_getElem? (i := 1) rfl) rfl
theorem m_962 : Cond.selects RX6 yX6_place yX6_place ∈ bg := tk_5 (List.mem_of_getElem? (i := 2) rfl) rfl
theorem m_963 : Cond.code yX6_place cX6_place 1 (some .int) ∈ bg := tk_5 (List.mem_of_getElem? (i := 3) rfl) rfl
theorem m_964 : Cond.methodLink RX6 19 yX9_placeOf ∈ bg := tk_5 (List.mem_of_getElem? (i := 4) rfl) rfl
theorem m_965 : Cond.instanceMethod yX9_placeOf ∈ bg := tk_5 (List.mem_of_getElem? (i := 5) rfl) rfl
theorem m_966 : Cond.selects RX9 yX9_placeOf yX9_placeOf ∈ bg := tk_5 (List.mem_of_getElem? (i := 6) rfl) rfl
theorem m_967 : Cond.code yX9_placeOf cX9_placeOf 2 (some .int) ∈ bg := tk_5 (List.mem_of_getElem? (i := 7) rfl) rfl
theorem m_968 : Cond.methodLink RX9 108 yX9_hasToken ∈ bg := tk_5 (List.mem_of_getElem? (i := 8) rfl) rfl
theorem m_969 : Cond.methodLink RX11 266 yX9_clear ∈ bg := tk_5 (List.mem_of_getElem? (i := 9) rfl) rfl
theorem m_970 : Cond.instanceMethod yX9_clear ∈ bg := tk_5 (List.mem_of_getElem? (i := 10) rfl) rfl
theorem m_971 : Cond.selects RX9 yX9_clear yX9_clear ∈ bg := tk_5 (List.mem_of_getElem? (i := 11) rfl) rfl
theorem m_972 : Cond.code yX9_clear cX9_clear 1 none ∈ bg := tk_5 (List.mem_of_getElem? (i := 12) rfl) rfl
theorem m_973 : Cond.methodLink RL 110 yX11_fault ∈ bg := tk_5 (List.mem_of_getElem? (i := 13) rfl) rfl
theorem m_974 : Cond.instanceMethod yX11_fault ∈ bg := tk_5 (List.mem_of_getElem? (i := 14) rfl) rfl
theorem m_975 : Cond.selects RX11 yX11_fault yX11_fault ∈ bg := tk_5 (List.mem_of_getElem? (i := 15) rfl) rfl
theorem m_976 : Cond.code yX11_fault cX11_fault 1 (some .int) ∈ bg := tk_5 (List.mem_of_getElem? (i := 16) rfl) rfl
theorem m_977 : Cond.methodLink RL 114 yX11_count ∈ bg := tk_5 (List.mem_of_getElem? (i := 17) rfl) rfl
theorem m_978 : Cond.instanceMethod yX11_count ∈ bg := tk_5 (List.mem_of_getElem? (i := 18) rfl) rfl
theorem m_979 : Cond.selects RX11 yX11_count yX11_count ∈ bg := tk_5 (List.mem_of_getElem? (i := 19) rfl) rfl
theorem m_980 : Cond.code yX11_count cX11_count 2 (some .int) ∈ bg := tk_5 (List.mem_of_getElem? (i := 20) rfl) rfl
theorem m_981 : Cond.classLink RL 10 RX12 ∈ bg := tk_5 (List.mem_of_getElem? (i := 21) rfl) rfl
theorem m_982 : Cond.instantiable RX12 66 ∈ bg := tk_5 (List.mem_of_getElem? (i := 22) rfl) rfl
theorem m_983 : Cond.methodLink RL 12 yX12_init ∈ bg := tk_5 (List.mem_of_getElem? (i := 23) rfl) rfl
theorem m_984 : Cond.instanceMethod yX12_init ∈ bg := tk_5 (List.mem_of_getElem? (i := 24) rfl) rfl
theorem m_985 : Cond.code yX12_init cX12_init 2 none ∈ bg := tk_5 (List.mem_of_getElem? (i := 25) rfl) rfl
theorem m_986 : Cond.methodLink RX12 1 objectInit ∈ bg := tk_5 (List.mem_of_getElem? (i := 26) rfl) rfl
theorem m_987 : Cond.fieldLink RX12 176 "MapleLinesModel" "year" "I" ∈ bg := tk_5 (List.mem_of_getElem? (i := 27) rfl) rfl
theorem m_988 : Cond.fieldLink RX12 199 "MapleLinesModel" "day" "I" ∈ bg := tk_5 (List.mem_of_getElem? (i := 28) rfl) rfl
theorem m_989 : Cond.fieldLink RX12 7 "MapleLinesModel" "nodes" "I" ∈ bg := tk_5 (List.mem_of_getElem? (i := 29) rfl) rfl
theorem m_990 : Cond.fieldLink RX12 140 "MapleLinesModel" "trees" "I" ∈ bg := tk_5 (List.mem_of_getElem? (i := 30) rfl) rfl
theorem m_991 : Cond.fieldLink RX12 170 "MapleLinesModel" "holes" "I" ∈ bg := tk_5 (List.mem_of_getElem? (i := 31) rfl) rfl
theorem m_992 : Cond.fieldLink RX12 143 "MapleLinesModel" "vacuum" "I" ∈ bg := tk_5 (List.mem_of_getElem? (i := 32) rfl) rfl
theorem m_993 : Cond.fieldLink RX12 214 "MapleLinesModel" "tank" "I" ∈ bg := tk_5 (List.mem_of_getElem? (i := 33) rfl) rfl
theorem m_994 : Cond.fieldLink RX12 217 "MapleLinesModel" "spilt" "I" ∈ bg := tk_5 (List.mem_of_getElem? (i := 34) rfl) rfl
theorem m_995 : Cond.fieldLink RX12 208 "MapleLinesModel" "left" "I" ∈ bg := tk_5 (List.mem_of_getElem? (i := 35) rfl) rfl
theorem m_996 : Cond.fieldLink RX12 211 "MapleLinesModel" "came" "I" ∈ bg := tk_5 (List.mem_of_getElem? (i := 36) rfl) rfl
theorem m_997 : Cond.fieldLink RX12 205 "MapleLinesModel" "thawDays" "I" ∈ bg := tk_5 (List.mem_of_getElem? (i := 37) rfl) rfl
theorem m_998 : Cond.fieldLink RX12 191 "MapleLinesModel" "isDry" "Z" ∈ bg := tk_5 (List.mem_of_getElem? (i := 38) rfl) rfl
theorem m_999 : Cond.fieldLink RX12 13 "MapleLinesModel" "to" "[I" ∈ bg := tk_5 (List.mem_of_getElem? (i := 39) rfl) rfl
theorem m_1000 : Cond.fieldLink RX12 17 "MapleLinesModel" "length" "[I" ∈ bg := tk_5 (List.mem_of_getElem? (i := 40) rfl) rfl
theorem m_1001 : Cond.fieldLink RX12 20 "MapleLinesModel" "height" "[I" ∈ bg := tk_5 (List.mem_of_getElem? (i := 41) rfl) rfl
theorem m_1002 : Cond.fieldLink RX12 23 "MapleLinesModel" "member" "[I" ∈ bg := tk_5 (List.mem_of_getElem? (i := 42) rfl) rfl
theorem m_1003 : Cond.fieldLink RX12 26 "MapleLinesModel" "leaks" "[I" ∈ bg := tk_5 (List.mem_of_getElem? (i := 43) rfl) rfl
theorem m_1004 : Cond.fieldLink RX12 29 "MapleLinesModel" "reading" "[I" ∈ bg := tk_5 (List.mem_of_getElem? (i := 44) rfl) rfl
theorem m_1005 : Cond.fieldLink RX12 32 "MapleLinesModel" "treeNode" "[I" ∈ bg := tk_5 (List.mem_of_getElem? (i := 45) rfl) rfl
theorem m_1006 : Cond.fieldLink RX12 35 "MapleLinesModel" "girth" "[I" ∈ bg := tk_5 (List.mem_of_getElem? (i := 46) rfl) rfl
theorem m_1007 : Cond.fieldLink RX12 38 "MapleLinesModel" "gave" "[I" ∈ bg := tk_5 (List.mem_of_getElem? (i := 47) rfl) rfl
theorem m_1008 : Cond.fieldLink RX12 41 "MapleLinesModel" "holeTree" "[I" ∈ bg := tk_5 (List.mem_of_getElem? (i := 48) rfl) rfl
theorem m_1009 : Cond.fieldLink RX12 44 "MapleLinesModel" "holeAngle" "[I" ∈ bg := tk_5 (List.mem_of_getElem? (i := 49) rfl) rfl
theorem m_1010 : Cond.fieldLink RX12 47 "MapleLinesModel" "holeYear" "[I" ∈ bg := tk_5 (List.mem_of_getElem? (i := 50) rfl) rfl
theorem m_1011 : Cond.fieldLink RX12 50 "MapleLinesModel" "cameOf" "[I" ∈ bg := tk_5 (List.mem_of_getElem? (i := 51) rfl) rfl
theorem m_1012 : Cond.fieldLink RX12 53 "MapleLinesModel" "coinsOf" "[I" ∈ bg := tk_5 (List.mem_of_getElem? (i := 52) rfl) rfl
theorem m_1013 : Cond.fieldLink RX12 56 "MapleLinesModel" "sums" "[I" ∈ bg := tk_5 (List.mem_of_getElem? (i := 53) rfl) rfl
theorem m_1014 : Cond.fieldLink RX12 59 "MapleLinesModel" "many" "[I" ∈ bg := tk_5 (List.mem_of_getElem? (i := 54) rfl) rfl
theorem m_1015 : Cond.fieldLink RX12 220 "MapleLinesModel" "parts" "I" ∈ bg := tk_5 (List.mem_of_getElem? (i := 55) rfl) rfl
theorem m_1016 : Cond.fieldLink RX12 227 "MapleLinesModel" "heat" "I" ∈ bg := tk_5 (List.mem_of_getElem? (i := 56) rfl) rfl
theorem m_1017 : Cond.fieldLink RX12 230 "MapleLinesModel" "minutes" "I" ∈ bg := tk_5 (List.mem_of_getElem? (i := 57) rfl) rfl
theorem m_1018 : Cond.fieldLink RX12 244 "MapleLinesModel" "wood" "I" ∈ bg := tk_5 (List.mem_of_getElem? (i := 58) rfl) rfl
theorem m_1019 : Cond.fieldLink RX12 261 "MapleLinesModel" "batches" "I" ∈ bg := tk_5 (List.mem_of_getElem? (i := 59) rfl) rfl
theorem m_1020 : Cond.fieldLink RX12 223 "MapleLinesModel" "sugar" "J" ∈ bg := tk_5 (List.mem_of_getElem? (i := 60) rfl) rfl
theorem m_1021 : Cond.fieldLink RX12 233 "MapleLinesModel" "isBurnt" "Z" ∈ bg := tk_5 (List.mem_of_getElem? (i := 61) rfl) rfl
theorem m_1022 : Cond.fieldLink RX12 62 "MapleLinesModel" "batchParts" "[I" ∈ bg := tk_5 (List.mem_of_getElem? (i := 62) rfl) rfl
theorem m_1023 : Cond.fieldLink RX12 65 "MapleLinesModel" "batchStrength" "[I" ∈ bg := tk_5 (List.mem_of_getElem? (i := 63) rfl) rfl
theorem m_1024 : Cond.fieldLink RX12 68 "MapleLinesModel" "batchDay" "[I" ∈ bg := tk_5 (List.mem_of_getElem? (i := 64) rfl) rfl
theorem m_1025 : Cond.fieldLink RX12 71 "MapleLinesModel" "batchYear" "[I" ∈ bg := tk_5 (List.mem_of_getElem? (i := 65) rfl) rfl
theorem m_1026 : Cond.fieldLink RX12 74 "MapleLinesModel" "looks" "[I" ∈ bg := tk_5 (List.mem_of_getElem? (i := 66) rfl) rfl
theorem m_1027 : Cond.fieldLink RX12 77 "MapleLinesModel" "isSold" "[Z" ∈ bg := tk_5 (List.mem_of_getElem? (i := 67) rfl) rfl
theorem m_1028 : Cond.fieldLink RX12 81 "MapleLinesModel" "hasMore" "[Z" ∈ bg := tk_5 (List.mem_of_getElem? (i := 68) rfl) rfl
theorem m_1029 : Cond.fieldLink RX12 84 "MapleLinesModel" "tape" "[B" ∈ bg := tk_5 (List.mem_of_getElem? (i := 69) rfl) rfl
theorem m_1030 : Cond.fieldLink RX12 88 "MapleLinesModel" "text" "[B" ∈ bg := tk_5 (List.mem_of_getElem? (i := 70) rfl) rfl
theorem m_1031 : Cond.fieldLink RX12 273 "MapleLinesModel" "taped" "I" ∈ bg := tk_5 (List.mem_of_getElem? (i := 71) rfl) rfl
theorem m_1032 : Cond.fieldLink RX12 283 "MapleLinesModel" "size" "I" ∈ bg := tk_5 (List.mem_of_getElem? (i := 72) rfl) rfl
theorem m_1033 : Cond.fieldLink RX12 280 "MapleLinesModel" "at" "I" ∈ bg := tk_5 (List.mem_of_getElem? (i := 73) rfl) rfl
theorem m_1034 : Cond.fieldLink RX12 91 "MapleLinesModel" "fault" "I" ∈ bg := tk_5 (List.mem_of_getElem? (i := 74) rfl) rfl
theorem m_1035 : Cond.fieldLink RX12 342 "MapleLinesModel" "rules" "I" ∈ bg := tk_5 (List.mem_of_getElem? (i := 75) rfl) rfl
theorem m_1036 : Cond.fieldLink RX12 314 "MapleLinesModel" "newRules" "I" ∈ bg := tk_5 (List.mem_of_getElem? (i := 76) rfl) rfl
theorem m_1037 : Cond.fieldLink RX12 94 "MapleLinesModel" "isPan" "[Z" ∈ bg := tk_5 (List.mem_of_getElem? (i := 77) rfl) rfl
theorem m_1038 : Cond.fieldLink RX12 97 "MapleLinesModel" "newPan" "[Z" ∈ bg := tk_5 (List.mem_of_getElem? (i := 78) rfl) rfl
theorem m_1039 : Cond.fieldLink RX12 100 "MapleLinesModel" "gives" "[I" ∈ bg := tk_5 (List.mem_of_getElem? (i := 79) rfl) rfl
theorem m_1040 : Cond.fieldLink RX12 103 "MapleLinesModel" "grades" "[I" ∈ bg := tk_5 (List.mem_of_getElem? (i := 80) rfl) rfl
theorem m_1041 : Cond.fieldLink RX12 106 "MapleLinesModel" "testMany" "[I" ∈ bg := tk_5 (List.mem_of_getElem? (i := 81) rfl) rfl
theorem m_1042 : Cond.fieldLink RX12 109 "MapleLinesModel" "testName" "[I" ∈ bg := tk_5 (List.mem_of_getElem? (i := 82) rfl) rfl
theorem m_1043 : Cond.fieldLink RX12 112 "MapleLinesModel" "testSign" "[I" ∈ bg := tk_5 (List.mem_of_getElem? (i := 83) rfl) rfl
theorem m_1044 : Cond.fieldLink RX12 115 "MapleLinesModel" "testNumber" "[I" ∈ bg := tk_5 (List.mem_of_getElem? (i := 84) rfl) rfl
theorem m_1045 : Cond.fieldLink RX12 118 "MapleLinesModel" "newGives" "[I" ∈ bg := tk_5 (List.mem_of_getElem? (i := 85) rfl) rfl
theorem m_1046 : Cond.fieldLink RX12 121 "MapleLinesModel" "newGrades" "[I" ∈ bg := tk_5 (List.mem_of_getElem? (i := 86) rfl) rfl
theorem m_1047 : Cond.fieldLink RX12 124 "MapleLinesModel" "newMany" "[I" ∈ bg := tk_5 (List.mem_of_getElem? (i := 87) rfl) rfl
theorem m_1048 : Cond.fieldLink RX12 127 "MapleLinesModel" "newName" "[I" ∈ bg := tk_5 (List.mem_of_getElem? (i := 88) rfl) rfl
theorem m_1049 : Cond.fieldLink RX12 130 "MapleLinesModel" "newSign" "[I" ∈ bg := tk_5 (List.mem_of_getElem? (i := 89) rfl) rfl
theorem m_1050 : Cond.fieldLink RX12 133 "MapleLinesModel" "newNumber" "[I" ∈ bg := tk_5 (List.mem_of_getElem? (i := 90) rfl) rfl
theorem m_1051 : Cond.fieldLink RX12 289 "MapleLinesModel" "wordEnd" "I" ∈ bg := tk_5 (List.mem_of_getElem? (i := 91) rfl) rfl
theorem m_1052 : Cond.fieldLink RX12 296 "MapleLinesModel" "number" "I" ∈ bg := tk_5 (List.mem_of_getElem? (i := 92) rfl) rfl
theorem m_1186 : Cond.methodLink RL 17 yX12_node ∈ bg := tk_5 (List.mem_of_getElem? (i := 226) rfl) rfl
theorem m_1187 : Cond.instanceMethod yX12_node ∈ bg := tk_5 (List.mem_of_getElem? (i := 227) rfl) rfl
theorem m_1188 : Cond.selects RX12 yX12_node yX12_node ∈ bg := tk_5 (List.mem_of_getElem? (i := 228) rfl) rfl
theorem m_1189 : Cond.code yX12_node cX12_node 5 (some .int) ∈ bg := tk_5 (List.mem_of_getElem? (i := 229) rfl) rfl
theorem m_1190 : Cond.methodLink RX12 136 yX12_isIn ∈ bg := tk_5 (List.mem_of_getElem? (i := 230) rfl) rfl
theorem m_1191 : Cond.static yX12_isIn ∈ bg := tk_5 (List.mem_of_getElem? (i := 231) rfl) rfl
theorem m_1192 : Cond.code yX12_isIn cX12_isIn 3 (some .boolean) ∈ bg := tk_5 (List.mem_of_getElem? (i := 232) rfl) rfl
theorem m_1193 : Cond.methodLink RL 31 yX12_leak ∈ bg := tk_5 (List.mem_of_getElem? (i := 233) rfl) rfl
theorem m_1194 : Cond.instanceMethod yX12_leak ∈ bg := tk_5 (List.mem_of_getElem? (i := 234) rfl) rfl
theorem m_1195 : Cond.selects RX12 yX12_leak yX12_leak ∈ bg := tk_5 (List.mem_of_getElem? (i := 235) rfl) rfl
theorem m_1196 : Cond.code yX12_leak cX12_leak 3 (some .boolean) ∈ bg := tk_5 (List.mem_of_getElem? (i := 236) rfl) rfl
theorem m_1197 : Cond.methodLink RX12 152 yX12_isNode ∈ bg := tk_5 (List.mem_of_getElem? (i := 237) rfl) rfl
theorem m_1199 : Cond.instanceMethod yX12_isNode ∈ bg := tk_5 (List.mem_of_getElem? (i := 239) rfl) rfl
theorem m_1200 : Cond.code yX12_isNode cX12_isNode 2 (some .boolean) ∈ bg := tk_6 (List.mem_of_getElem? (i := 0) rfl) rfl
theorem m_1201 : Cond.methodLink RL 36 yX12_pump ∈ bg := tk_6 (List.mem_of_getElem? (i := 1) rfl) rfl
theorem m_1202 : Cond.instanceMethod yX12_pump ∈ bg := tk_6 (List.mem_of_getElem? (i := 2) rfl) rfl
theorem m_1203 : Cond.selects RX12 yX12_pump yX12_pump ∈ bg := tk_6 (List.mem_of_getElem? (i := 3) rfl) rfl
theorem m_1204 : Cond.code yX12_pump cX12_pump 2 (some .boolean) ∈ bg := tk_6 (List.mem_of_getElem? (i := 4) rfl) rfl
theorem m_1205 : Cond.methodLink RL 40 yX12_gauge ∈ bg := tk_6 (List.mem_of_getElem? (i := 5) rfl) rfl
theorem m_1206 : Cond.instanceMethod yX12_gauge ∈ bg := tk_6 (List.mem_of_getElem? (i := 6) rfl) rfl
theorem m_1207 : Cond.selects RX12 yX12_gauge yX12_gauge ∈ bg := tk_6 (List.mem_of_getElem? (i := 7) rfl) rfl
theorem m_1208 : Cond.code yX12_gauge cX12_gauge 3 (some .boolean) ∈ bg := tk_6 (List.mem_of_getElem? (i := 8) rfl) rfl
theorem m_1209 : Cond.methodLink RL 44 yX12_nodeOf ∈ bg := tk_6 (List.mem_of_getElem? (i := 9) rfl) rfl
theorem m_1210 : Cond.instanceMethod yX12_nodeOf ∈ bg := tk_6 (List.mem_of_getElem? (i := 10) rfl) rfl
theorem m_1211 : Cond.selects RX12 yX12_nodeOf yX12_nodeOf ∈ bg := tk_6 (List.mem_of_getElem? (i := 11) rfl) rfl
theorem m_1212 : Cond.code yX12_nodeOf cX12_nodeOf 5 (some .int) ∈ bg := tk_6 (List.mem_of_getElem? (i := 12) rfl) rfl
theorem m_1213 : Cond.methodLink RX12 156 yX12_runs ∈ bg := tk_6 (List.mem_of_getElem? (i := 13) rfl) rfl
theorem m_1215 : Cond.instanceMethod yX12_runs ∈ bg := tk_6 (List.mem_of_getElem? (i := 15) rfl) rfl
theorem m_1216 : Cond.code yX12_runs cX12_runs 4 (some .boolean) ∈ bg := tk_6 (List.mem_of_getElem? (i := 16) rfl) rfl
theorem m_1217 : Cond.methodLink RX12 159 yX12_one ∈ bg := tk_6 (List.mem_of_getElem? (i := 17) rfl) rfl
theorem m_1218 : Cond.static yX12_one ∈ bg := tk_6 (List.mem_of_getElem? (i := 18) rfl) rfl
theorem m_1219 : Cond.code yX12_one cX12_one 1 (some .int) ∈ bg := tk_6 (List.mem_of_getElem? (i := 19) rfl) rfl
theorem m_1220 : Cond.methodLink RX12 163 yX12_vacuumAt ∈ bg := tk_6 (List.mem_of_getElem? (i := 20) rfl) rfl
theorem m_1222 : Cond.instanceMethod yX12_vacuumAt ∈ bg := tk_6 (List.mem_of_getElem? (i := 22) rfl) rfl
theorem m_1223 : Cond.code yX12_vacuumAt cX12_vacuumAt 4 (some .int) ∈ bg := tk_6 (List.mem_of_getElem? (i := 23) rfl) rfl
theorem m_1224 : Cond.methodLink RX12 146 Lib.Math.max.name ∈ bg := tk_6 (List.mem_of_getElem? (i := 24) rfl) rfl
theorem m_1225 : Cond.methodLink RX12 167 yX12_suspect ∈ bg := tk_6 (List.mem_of_getElem? (i := 25) rfl) rfl
theorem m_1227 : Cond.instanceMethod yX12_suspect ∈ bg := tk_6 (List.mem_of_getElem? (i := 27) rfl) rfl
theorem m_1228 : Cond.code yX12_suspect cX12_suspect 3 (some .int) ∈ bg := tk_6 (List.mem_of_getElem? (i := 28) rfl) rfl
theorem m_1229 : Cond.methodLink RL 22 yX12_tree ∈ bg := tk_6 (List.mem_of_getElem? (i := 29) rfl) rfl
theorem m_1230 : Cond.instanceMethod yX12_tree ∈ bg := tk_6 (List.mem_of_getElem? (i := 30) rfl) rfl
theorem m_1231 : Cond.selects RX12 yX12_tree yX12_tree ∈ bg := tk_6 (List.mem_of_getElem? (i := 31) rfl) rfl
theorem m_1232 : Cond.code yX12_tree cX12_tree 3 (some .int) ∈ bg := tk_6 (List.mem_of_getElem? (i := 32) rfl) rfl
theorem m_1233 : Cond.methodLink RL 26 yX12_tap ∈ bg := tk_6 (List.mem_of_getElem? (i := 33) rfl) rfl
theorem m_1234 : Cond.instanceMethod yX12_tap ∈ bg := tk_6 (List.mem_of_getElem? (i := 34) rfl) rfl
theorem m_1235 : Cond.selects RX12 yX12_tap yX12_tap ∈ bg := tk_6 (List.mem_of_getElem? (i := 35) rfl) rfl
theorem m_1236 : Cond.code yX12_tap cX12_tap 5 (some .int) ∈ bg := tk_6 (List.mem_of_getElem? (i := 36) rfl) rfl
theorem m_1237 : Cond.methodLink RX12 173 yX12_isTree ∈ bg := tk_6 (List.mem_of_getElem? (i := 37) rfl) rfl
theorem m_1239 : Cond.instanceMethod yX12_isTree ∈ bg := tk_6 (List.mem_of_getElem? (i := 39) rfl) rfl
theorem m_1240 : Cond.code yX12_isTree cX12_isTree 2 (some .boolean) ∈ bg := tk_6 (List.mem_of_getElem? (i := 40) rfl) rfl
theorem m_1241 : Cond.methodLink RX12 179 yX12_holesOf ∈ bg := tk_6 (List.mem_of_getElem? (i := 41) rfl) rfl
theorem m_1243 : Cond.instanceMethod yX12_holesOf ∈ bg := tk_6 (List.mem_of_getElem? (i := 43) rfl) rfl
theorem m_1244 : Cond.code yX12_holesOf cX12_holesOf 5 (some .int) ∈ bg := tk_6 (List.mem_of_getElem? (i := 44) rfl) rfl
theorem m_1245 : Cond.methodLink RX12 182 yX12_mayHave ∈ bg := tk_6 (List.mem_of_getElem? (i := 45) rfl) rfl
theorem m_1247 : Cond.instanceMethod yX12_mayHave ∈ bg := tk_6 (List.mem_of_getElem? (i := 47) rfl) rfl
theorem m_1248 : Cond.code yX12_mayHave cX12_mayHave 2 (some .int) ∈ bg := tk_6 (List.mem_of_getElem? (i := 48) rfl) rfl
theorem m_1249 : Cond.methodLink RX12 185 Lib.Math.abs.name ∈ bg := tk_6 (List.mem_of_getElem? (i := 49) rfl) rfl
theorem m_1250 : Cond.methodLink RX12 188 Lib.Math.min.name ∈ bg := tk_6 (List.mem_of_getElem? (i := 50) rfl) rfl
theorem m_1251 : Cond.methodLink RL 48 yX12_treeOf ∈ bg := tk_6 (List.mem_of_getElem? (i := 51) rfl) rfl
theorem m_1252 : Cond.instanceMethod yX12_treeOf ∈ bg := tk_6 (List.mem_of_getElem? (i := 52) rfl) rfl
theorem m_1253 : Cond.selects RX12 yX12_treeOf yX12_treeOf ∈ bg := tk_6 (List.mem_of_getElem? (i := 53) rfl) rfl
theorem m_1254 : Cond.code yX12_treeOf cX12_treeOf 3 (some .int) ∈ bg := tk_6 (List.mem_of_getElem? (i := 54) rfl) rfl
theorem m_1255 : Cond.methodLink RL 52 yX12_day ∈ bg := tk_6 (List.mem_of_getElem? (i := 55) rfl) rfl
theorem m_1256 : Cond.instanceMethod yX12_day ∈ bg := tk_6 (List.mem_of_getElem? (i := 56) rfl) rfl
theorem m_1257 : Cond.selects RX12 yX12_day yX12_day ∈ bg := tk_6 (List.mem_of_getElem? (i := 57) rfl) rfl
theorem m_1258 : Cond.code yX12_day cX12_day 10 (some .int) ∈ bg := tk_6 (List.mem_of_getElem? (i := 58) rfl) rfl
theorem m_1259 : Cond.methodLink RX12 195 yX12_isWeather ∈ bg := tk_6 (List.mem_of_getElem? (i := 59) rfl) rfl
theorem m_1260 : Cond.static yX12_isWeather ∈ bg := tk_6 (List.mem_of_getElem? (i := 60) rfl) rfl
theorem m_1261 : Cond.code yX12_isWeather cX12_isWeather 2 (some .boolean) ∈ bg := tk_6 (List.mem_of_getElem? (i := 61) rfl) rfl
theorem m_1262 : Cond.methodLink RX12 202 yX12_held ∈ bg := tk_6 (List.mem_of_getElem? (i := 62) rfl) rfl
theorem m_1263 : Cond.static yX12_held ∈ bg := tk_6 (List.mem_of_getElem? (i := 63) rfl) rfl
theorem m_1264 : Cond.code yX12_held cX12_held 1 (some .int) ∈ bg := tk_6 (List.mem_of_getElem? (i := 64) rfl) rfl
theorem m_1265 : Cond.methodLink RL 57 yX12_year ∈ bg := tk_6 (List.mem_of_getElem? (i := 65) rfl) rfl
theorem m_1266 : Cond.instanceMethod yX12_year ∈ bg := tk_6 (List.mem_of_getElem? (i := 66) rfl) rfl
theorem m_1267 : Cond.selects RX12 yX12_year yX12_year ∈ bg := tk_6 (List.mem_of_getElem? (i := 67) rfl) rfl
theorem m_1268 : Cond.code yX12_year cX12_year 2 (some .int) ∈ bg := tk_6 (List.mem_of_getElem? (i := 68) rfl) rfl
theorem m_1269 : Cond.methodLink RX12 236 yX12_emptyPan ∈ bg := tk_6 (List.mem_of_getElem? (i := 69) rfl) rfl
theorem m_1271 : Cond.instanceMethod yX12_emptyPan ∈ bg := tk_6 (List.mem_of_getElem? (i := 71) rfl) rfl
theorem m_1272 : Cond.code yX12_emptyPan cX12_emptyPan 1 none ∈ bg := tk_6 (List.mem_of_getElem? (i := 72) rfl) rfl
theorem m_1273 : Cond.methodLink RL 62 yX12_foretold ∈ bg := tk_6 (List.mem_of_getElem? (i := 73) rfl) rfl
theorem m_1274 : Cond.instanceMethod yX12_foretold ∈ bg := tk_6 (List.mem_of_getElem? (i := 74) rfl) rfl
theorem m_1275 : Cond.selects RX12 yX12_foretold yX12_foretold ∈ bg := tk_6 (List.mem_of_getElem? (i := 75) rfl) rfl
theorem m_1276 : Cond.code yX12_foretold cX12_foretold 6 (some .int) ∈ bg := tk_6 (List.mem_of_getElem? (i := 76) rfl) rfl
theorem m_1277 : Cond.methodLink RX12 239 yX12_common ∈ bg := tk_6 (List.mem_of_getElem? (i := 77) rfl) rfl
theorem m_1278 : Cond.static yX12_common ∈ bg := tk_6 (List.mem_of_getElem? (i := 78) rfl) rfl
theorem m_1279 : Cond.code yX12_common cX12_common 5 (some .int) ∈ bg := tk_6 (List.mem_of_getElem? (i := 79) rfl) rfl
theorem m_1280 : Cond.methodLink RL 67 yX12_let ∈ bg := tk_6 (List.mem_of_getElem? (i := 80) rfl) rfl
theorem m_1281 : Cond.instanceMethod yX12_let ∈ bg := tk_6 (List.mem_of_getElem? (i := 81) rfl) rfl
theorem m_1282 : Cond.selects RX12 yX12_let yX12_let ∈ bg := tk_6 (List.mem_of_getElem? (i := 82) rfl) rfl
theorem m_1283 : Cond.code yX12_let cX12_let 2 (some .int) ∈ bg := tk_6 (List.mem_of_getElem? (i := 83) rfl) rfl
theorem m_1284 : Cond.constantLong RX12 242 20000 ∈ bg := tk_6 (List.mem_of_getElem? (i := 84) rfl) rfl
theorem m_1285 : Cond.methodLink RL 71 yX12_dump ∈ bg := tk_6 (List.mem_of_getElem? (i := 85) rfl) rfl
theorem m_1286 : Cond.instanceMethod yX12_dump ∈ bg := tk_6 (List.mem_of_getElem? (i := 86) rfl) rfl
theorem m_1287 : Cond.selects RX12 yX12_dump yX12_dump ∈ bg := tk_6 (List.mem_of_getElem? (i := 87) rfl) rfl
theorem m_1288 : Cond.code yX12_dump cX12_dump 2 (some .int) ∈ bg := tk_6 (List.mem_of_getElem? (i := 88) rfl) rfl
theorem m_1289 : Cond.methodLink RL 75 yX12_wood ∈ bg := tk_6 (List.mem_of_getElem? (i := 89) rfl) rfl
theorem m_1290 : Cond.instanceMethod yX12_wood ∈ bg := tk_6 (List.mem_of_getElem? (i := 90) rfl) rfl
theorem m_1291 : Cond.selects RX12 yX12_wood yX12_wood ∈ bg := tk_6 (List.mem_of_getElem? (i := 91) rfl) rfl
theorem m_1292 : Cond.code yX12_wood cX12_wood 2 (some .int) ∈ bg := tk_6 (List.mem_of_getElem? (i := 92) rfl) rfl
theorem m_1293 : Cond.constant RX12 247 1000000 ∈ bg := tk_6 (List.mem_of_getElem? (i := 93) rfl) rfl
theorem m_1294 : Cond.methodLink RL 79 yX12_boil ∈ bg := tk_6 (List.mem_of_getElem? (i := 94) rfl) rfl
theorem m_1295 : Cond.instanceMethod yX12_boil ∈ bg := tk_6 (List.mem_of_getElem? (i := 95) rfl) rfl
theorem m_1296 : Cond.selects RX12 yX12_boil yX12_boil ∈ bg := tk_6 (List.mem_of_getElem? (i := 96) rfl) rfl
theorem m_1297 : Cond.code yX12_boil cX12_boil 3 (some .int) ∈ bg := tk_6 (List.mem_of_getElem? (i := 97) rfl) rfl
theorem m_1298 : Cond.methodLink RX12 250 yX12_minute ∈ bg := tk_6 (List.mem_of_getElem? (i := 98) rfl) rfl
theorem m_1300 : Cond.instanceMethod yX12_minute ∈ bg := tk_6 (List.mem_of_getElem? (i := 100) rfl) rfl
theorem m_1301 : Cond.code yX12_minute cX12_minute 3 none ∈ bg := tk_6 (List.mem_of_getElem? (i := 101) rfl) rfl
theorem m_1302 : Cond.methodLink RX12 253 yX12_firstRule ∈ bg := tk_6 (List.mem_of_getElem? (i := 102) rfl) rfl
theorem m_1304 : Cond.instanceMethod yX12_firstRule ∈ bg := tk_6 (List.mem_of_getElem? (i := 104) rfl) rfl
theorem m_1305 : Cond.code yX12_firstRule cX12_firstRule 9 (some .int) ∈ bg := tk_6 (List.mem_of_getElem? (i := 105) rfl) rfl
theorem m_1306 : Cond.methodLink RX12 257 yX12_strength ∈ bg := tk_6 (List.mem_of_getElem? (i := 106) rfl) rfl
theorem m_1308 : Cond.instanceMethod yX12_strength ∈ bg := tk_6 (List.mem_of_getElem? (i := 108) rfl) rfl
theorem m_1309 : Cond.code yX12_strength cX12_strength 1 (some .int) ∈ bg := tk_6 (List.mem_of_getElem? (i := 109) rfl) rfl
theorem m_1310 : Cond.constantLong RX12 248 1000 ∈ bg := tk_6 (List.mem_of_getElem? (i := 110) rfl) rfl
theorem m_1311 : Cond.methodLink RL 83 yX12_pan ∈ bg := tk_6 (List.mem_of_getElem? (i := 111) rfl) rfl
theorem m_1312 : Cond.instanceMethod yX12_pan ∈ bg := tk_6 (List.mem_of_getElem? (i := 112) rfl) rfl
theorem m_1313 : Cond.selects RX12 yX12_pan yX12_pan ∈ bg := tk_6 (List.mem_of_getElem? (i := 113) rfl) rfl
theorem m_1314 : Cond.code yX12_pan cX12_pan 2 (some .int) ∈ bg := tk_6 (List.mem_of_getElem? (i := 114) rfl) rfl
theorem m_1315 : Cond.methodLink RL 88 yX12_look ∈ bg := tk_6 (List.mem_of_getElem? (i := 115) rfl) rfl
theorem m_1316 : Cond.instanceMethod yX12_look ∈ bg := tk_6 (List.mem_of_getElem? (i := 116) rfl) rfl
theorem m_1317 : Cond.selects RX12 yX12_look yX12_look ∈ bg := tk_6 (List.mem_of_getElem? (i := 117) rfl) rfl
theorem m_1318 : Cond.code yX12_look cX12_look 4 (some .boolean) ∈ bg := tk_6 (List.mem_of_getElem? (i := 118) rfl) rfl
theorem m_1319 : Cond.methodLink RX12 264 yX12_isBatch ∈ bg := tk_6 (List.mem_of_getElem? (i := 119) rfl) rfl
theorem m_1321 : Cond.instanceMethod yX12_isBatch ∈ bg := tk_6 (List.mem_of_getElem? (i := 121) rfl) rfl
theorem m_1322 : Cond.code yX12_isBatch cX12_isBatch 2 (some .boolean) ∈ bg := tk_6 (List.mem_of_getElem? (i := 122) rfl) rfl
theorem m_1323 : Cond.methodLink RL 92 yX12_batch ∈ bg := tk_6 (List.mem_of_getElem? (i := 123) rfl) rfl
theorem m_1324 : Cond.instanceMethod yX12_batch ∈ bg := tk_6 (List.mem_of_getElem? (i := 124) rfl) rfl
theorem m_1325 : Cond.selects RX12 yX12_batch yX12_batch ∈ bg := tk_6 (List.mem_of_getElem? (i := 125) rfl) rfl
theorem m_1326 : Cond.code yX12_batch cX12_batch 3 (some .int) ∈ bg := tk_6 (List.mem_of_getElem? (i := 126) rfl) rfl
theorem m_1327 : Cond.methodLink RX12 270 yX12_gradeOf ∈ bg := tk_6 (List.mem_of_getElem? (i := 127) rfl) rfl
theorem m_1329 : Cond.instanceMethod yX12_gradeOf ∈ bg := tk_6 (List.mem_of_getElem? (i := 129) rfl) rfl
theorem m_1330 : Cond.code yX12_gradeOf cX12_gradeOf 2 (some .int) ∈ bg := tk_6 (List.mem_of_getElem? (i := 130) rfl) rfl
theorem m_1331 : Cond.methodLink RX12 267 yX12_gradeBy ∈ bg := tk_6 (List.mem_of_getElem? (i := 131) rfl) rfl
theorem m_1333 : Cond.instanceMethod yX12_gradeBy ∈ bg := tk_6 (List.mem_of_getElem? (i := 133) rfl) rfl
theorem m_1334 : Cond.code yX12_gradeBy cX12_gradeBy 4 (some .int) ∈ bg := tk_6 (List.mem_of_getElem? (i := 134) rfl) rfl
theorem m_1335 : Cond.methodLink RL 96 yX12_sell ∈ bg := tk_6 (List.mem_of_getElem? (i := 135) rfl) rfl
theorem m_1336 : Cond.instanceMethod yX12_sell ∈ bg := tk_6 (List.mem_of_getElem? (i := 136) rfl) rfl
theorem m_1337 : Cond.selects RX12 yX12_sell yX12_sell ∈ bg := tk_6 (List.mem_of_getElem? (i := 137) rfl) rfl
theorem m_1338 : Cond.code yX12_sell cX12_sell 9 (some .int) ∈ bg := tk_6 (List.mem_of_getElem? (i := 138) rfl) rfl
theorem m_1339 : Cond.methodLink RL 100 yX12_member ∈ bg := tk_6 (List.mem_of_getElem? (i := 139) rfl) rfl
theorem m_1340 : Cond.instanceMethod yX12_member ∈ bg := tk_6 (List.mem_of_getElem? (i := 140) rfl) rfl
theorem m_1341 : Cond.selects RX12 yX12_member yX12_member ∈ bg := tk_6 (List.mem_of_getElem? (i := 141) rfl) rfl
theorem m_1342 : Cond.code yX12_member cX12_member 3 (some .int) ∈ bg := tk_6 (List.mem_of_getElem? (i := 142) rfl) rfl
theorem m_1343 : Cond.methodLink RL 105 yX12_feed ∈ bg := tk_6 (List.mem_of_getElem? (i := 143) rfl) rfl
theorem m_1344 : Cond.instanceMethod yX12_feed ∈ bg := tk_6 (List.mem_of_getElem? (i := 144) rfl) rfl
theorem m_1345 : Cond.selects RX12 yX12_feed yX12_feed ∈ bg := tk_6 (List.mem_of_getElem? (i := 145) rfl) rfl
theorem m_1346 : Cond.code yX12_feed cX12_feed 6 (some .int) ∈ bg := tk_6 (List.mem_of_getElem? (i := 146) rfl) rfl
theorem m_1347 : Cond.methodLink RX12 276 yX12_four ∈ bg := tk_6 (List.mem_of_getElem? (i := 147) rfl) rfl
theorem m_1349 : Cond.instanceMethod yX12_four ∈ bg := tk_6 (List.mem_of_getElem? (i := 149) rfl) rfl
theorem m_1350 : Cond.code yX12_four cX12_four 3 none ∈ bg := tk_6 (List.mem_of_getElem? (i := 150) rfl) rfl
theorem m_1351 : Cond.methodLink RL 109 yX12_rules ∈ bg := tk_6 (List.mem_of_getElem? (i := 151) rfl) rfl
theorem m_1352 : Cond.instanceMethod yX12_rules ∈ bg := tk_6 (List.mem_of_getElem? (i := 152) rfl) rfl
theorem m_1353 : Cond.selects RX12 yX12_rules yX12_rules ∈ bg := tk_6 (List.mem_of_getElem? (i := 153) rfl) rfl
theorem m_1354 : Cond.code yX12_rules cX12_rules 4 (some .int) ∈ bg := tk_6 (List.mem_of_getElem? (i := 154) rfl) rfl
theorem m_1355 : Cond.methodLink RX12 286 yX12_blanks ∈ bg := tk_6 (List.mem_of_getElem? (i := 155) rfl) rfl
theorem m_1357 : Cond.instanceMethod yX12_blanks ∈ bg := tk_6 (List.mem_of_getElem? (i := 157) rfl) rfl
theorem m_1358 : Cond.code yX12_blanks cX12_blanks 1 none ∈ bg := tk_6 (List.mem_of_getElem? (i := 158) rfl) rfl
theorem m_1359 : Cond.methodLink RX12 338 yX12_statement ∈ bg := tk_6 (List.mem_of_getElem? (i := 159) rfl) rfl
theorem m_1361 : Cond.instanceMethod yX12_statement ∈ bg := tk_6 (List.mem_of_getElem? (i := 161) rfl) rfl
theorem m_1362 : Cond.code yX12_statement cX12_statement 2 (some .boolean) ∈ bg := tk_6 (List.mem_of_getElem? (i := 162) rfl) rfl
theorem m_1363 : Cond.constantLong RX12 317 26990 ∈ bg := tk_6 (List.mem_of_getElem? (i := 163) rfl) rfl
theorem m_1364 : Cond.methodLink RX12 319 yX12_takes ∈ bg := tk_6 (List.mem_of_getElem? (i := 164) rfl) rfl
theorem m_1366 : Cond.instanceMethod yX12_takes ∈ bg := tk_6 (List.mem_of_getElem? (i := 166) rfl) rfl
theorem m_1367 : Cond.code yX12_takes cX12_takes 3 (some .boolean) ∈ bg := tk_6 (List.mem_of_getElem? (i := 167) rfl) rfl
theorem m_1368 : Cond.methodLink RX12 292 yX12_word ∈ bg := tk_6 (List.mem_of_getElem? (i := 168) rfl) rfl
theorem m_1370 : Cond.instanceMethod yX12_word ∈ bg := tk_6 (List.mem_of_getElem? (i := 170) rfl) rfl
theorem m_1371 : Cond.code yX12_word cX12_word 3 (some .long) ∈ bg := tk_6 (List.mem_of_getElem? (i := 171) rfl) rfl
theorem m_1372 : Cond.constantLong RX12 323 7364974 ∈ bg := tk_6 (List.mem_of_getElem? (i := 172) rfl) rfl
theorem m_1373 : Cond.constantLong RX12 325 444300616805 ∈ bg := tk_6 (List.mem_of_getElem? (i := 173) rfl) rfl
theorem m_1374 : Cond.methodLink RX12 311 yX12_takesNumber ∈ bg := tk_6 (List.mem_of_getElem? (i := 174) rfl) rfl
theorem m_1376 : Cond.instanceMethod yX12_takesNumber ∈ bg := tk_6 (List.mem_of_getElem? (i := 176) rfl) rfl
theorem m_1377 : Cond.code yX12_takesNumber cX12_takesNumber 3 (some .boolean) ∈ bg := tk_6 (List.mem_of_getElem? (i := 177) rfl) rfl
theorem m_1378 : Cond.constantLong RX12 327 26982 ∈ bg := tk_6 (List.mem_of_getElem? (i := 178) rfl) rfl
theorem m_1379 : Cond.methodLink RX12 329 yX12_test ∈ bg := tk_6 (List.mem_of_getElem? (i := 179) rfl) rfl
theorem m_1381 : Cond.instanceMethod yX12_test ∈ bg := tk_6 (List.mem_of_getElem? (i := 181) rfl) rfl
theorem m_1382 : Cond.code yX12_test cX12_test 4 (some .boolean) ∈ bg := tk_6 (List.mem_of_getElem? (i := 182) rfl) rfl
theorem m_1383 : Cond.constantLong RX12 299 8319400191629685864 ∈ bg := tk_6 (List.mem_of_getElem? (i := 183) rfl) rfl
theorem m_1384 : Cond.constantLong RX12 301 482671228019 ∈ bg := tk_6 (List.mem_of_getElem? (i := 184) rfl) rfl
theorem m_1385 : Cond.constantLong RX12 303 1751474548 ∈ bg := tk_6 (List.mem_of_getElem? (i := 185) rfl) rfl
theorem m_1386 : Cond.constantLong RX12 305 30796695599342963 ∈ bg := tk_6 (List.mem_of_getElem? (i := 186) rfl) rfl
theorem m_1387 : Cond.constantLong RX12 307 1819242347 ∈ bg := tk_6 (List.mem_of_getElem? (i := 187) rfl) rfl
theorem m_1388 : Cond.constantLong RX12 309 6578553 ∈ bg := tk_6 (List.mem_of_getElem? (i := 188) rfl) rfl
theorem m_1389 : Cond.constantLong RX12 332 6385252 ∈ bg := tk_6 (List.mem_of_getElem? (i := 189) rfl) rfl
theorem m_1390 : Cond.constantLong RX12 334 1952998766 ∈ bg := tk_6 (List.mem_of_getElem? (i := 190) rfl) rfl
theorem m_1391 : Cond.constantLong RX12 336 1685217655 ∈ bg := tk_6 (List.mem_of_getElem? (i := 191) rfl) rfl
theorem m_1392 : Cond.methodLink RL 113 yX12_fault ∈ bg := tk_6 (List.mem_of_getElem? (i := 192) rfl) rfl
theorem m_1393 : Cond.instanceMethod yX12_fault ∈ bg := tk_6 (List.mem_of_getElem? (i := 193) rfl) rfl
theorem m_1394 : Cond.selects RX12 yX12_fault yX12_fault ∈ bg := tk_6 (List.mem_of_getElem? (i := 194) rfl) rfl
theorem m_1395 : Cond.code yX12_fault cX12_fault 1 (some .int) ∈ bg := tk_6 (List.mem_of_getElem? (i := 195) rfl) rfl
theorem m_1396 : Cond.methodLink RL 117 yX12_count ∈ bg := tk_6 (List.mem_of_getElem? (i := 196) rfl) rfl
theorem m_1397 : Cond.instanceMethod yX12_count ∈ bg := tk_6 (List.mem_of_getElem? (i := 197) rfl) rfl
theorem m_1398 : Cond.selects RX12 yX12_count yX12_count ∈ bg := tk_6 (List.mem_of_getElem? (i := 198) rfl) rfl
theorem m_1399 : Cond.code yX12_count cX12_count 2 (some .int) ∈ bg := tk_6 (List.mem_of_getElem? (i := 199) rfl) rfl
theorem m_1400 : Cond.fieldLink "java/lang/String" 9 "java/lang/String" "value" "[B" ∈ bg := tk_6 (List.mem_of_getElem? (i := 200) rfl) rfl
theorem m_1401 : Cond.fieldLink "java/lang/String" 15 "java/lang/String" "coder" "B" ∈ bg := tk_6 (List.mem_of_getElem? (i := 201) rfl) rfl
theorem ms_0 : Cond.selects RX10 yX10_settleVacuum yX10_settleVacuum ∈ bg := sl (q := (yX10_settleVacuum, 9)) 0 (by decide +kernel) rfl
theorem ms_1 : Cond.selects RX10 yX10_suspectBy yX10_suspectBy ∈ bg := sl (q := (yX10_suspectBy, 9)) 1 (by decide +kernel) rfl
theorem ms_2 : Cond.selects RX10 yX10_readingAhead yX10_readingAhead ∈ bg := sl (q := (yX10_readingAhead, 9)) 2 (by decide +kernel) rfl
theorem ms_3 : Cond.selects RX11 yX11_gatherSap yX11_gatherSap ∈ bg := sl (q := (yX11_gatherSap, 14)) 3 (by decide +kernel) rfl
theorem ms_4 : Cond.selects RX2 yX2_hasHole yX2_hasHole ∈ bg := sl (q := (yX2_hasHole, 8)) 4 (by decide +kernel) rfl
theorem ms_5 : Cond.selects RX11 yX11_gatherFrom yX11_gatherFrom ∈ bg := sl (q := (yX11_gatherFrom, 14)) 5 (by decide +kernel) rfl
theorem ms_6 : Cond.selects RX4 yX4_inLowestTerms yX4_inLowestTerms ∈ bg := sl (q := (yX4_inLowestTerms, 2)) 6 (by decide +kernel) rfl
theorem ms_7 : Cond.selects RX11 yX11_passMinute yX11_passMinute ∈ bg := sl (q := (yX11_passMinute, 14)) 7 (by decide +kernel) rfl
theorem ms_8 : Cond.selects RX11 yX11_gatherPanFacts yX11_gatherPanFacts ∈ bg := sl (q := (yX11_gatherPanFacts, 14)) 8 (by decide +kernel) rfl
theorem ms_9 : Cond.selects RX5 yX5_allHold yX5_allHold ∈ bg := sl (q := (yX5_allHold, 7)) 9 (by decide +kernel) rfl
theorem ms_10 : Cond.selects RX5 yX5_has yX5_has ∈ bg := sl (q := (yX5_has, 7)) 10 (by decide +kernel) rfl
theorem ms_11 : Cond.selects RX11 yX11_drawBatch yX11_drawBatch ∈ bg := sl (q := (yX11_drawBatch, 14)) 11 (by decide +kernel) rfl
theorem ms_12 : Cond.selects RX11 yX11_gradeOf yX11_gradeOf ∈ bg := sl (q := (yX11_gradeOf, 14)) 12 (by decide +kernel) rfl
theorem ms_13 : Cond.selects RX11 yX11_gradeByLook yX11_gradeByLook ∈ bg := sl (q := (yX11_gradeByLook, 14)) 13 (by decide +kernel) rfl
theorem ms_14 : Cond.selects RX11 yX11_sellAllOf yX11_sellAllOf ∈ bg := sl (q := (yX11_sellAllOf, 14)) 14 (by decide +kernel) rfl
theorem ms_15 : Cond.selects RX1 yX1_greatestRemainder yX1_greatestRemainder ∈ bg := sl (q := (yX1_greatestRemainder, 3)) 15 (by decide +kernel) rfl
theorem ms_16 : Cond.selects RX9 yX9_beginsToken yX9_beginsToken ∈ bg := sl (q := (yX9_beginsToken, 6)) 16 (by decide +kernel) rfl
theorem ms_17 : Cond.selects RX9 yX9_kindAt yX9_kindAt ∈ bg := sl (q := (yX9_kindAt, 6)) 17 (by decide +kernel) rfl
theorem ms_18 : Cond.selects RX9 yX9_codeAt yX9_codeAt ∈ bg := sl (q := (yX9_codeAt, 6)) 18 (by decide +kernel) rfl
theorem ms_19 : Cond.selects RX9 yX9_codeOfWord yX9_codeOfWord ∈ bg := sl (q := (yX9_codeOfWord, 6)) 19 (by decide +kernel) rfl
theorem ms_20 : Cond.selects RX9 yX9_isSpeltAt yX9_isSpeltAt ∈ bg := sl (q := (yX9_isSpeltAt, 6)) 20 (by decide +kernel) rfl
theorem ms_21 : Cond.selects RX9 yX9_codeOfNumber yX9_codeOfNumber ∈ bg := sl (q := (yX9_codeOfNumber, 6)) 21 (by decide +kernel) rfl
theorem ms_22 : Cond.selects RX9 yX9_codeOfSign yX9_codeOfSign ∈ bg := sl (q := (yX9_codeOfSign, 6)) 22 (by decide +kernel) rfl
theorem ms_23 : Cond.selects RX6 yX6_readStatement yX6_readStatement ∈ bg := sl (q := (yX6_readStatement, 3)) 23 (by decide +kernel) rfl
theorem ms_24 : Cond.selects RX6 yX6_take yX6_take ∈ bg := sl (q := (yX6_take, 3)) 24 (by decide +kernel) rfl
theorem ms_25 : Cond.selects RX6 yX6_readDeedNumber yX6_readDeedNumber ∈ bg := sl (q := (yX6_readDeedNumber, 3)) 25 (by decide +kernel) rfl
theorem ms_26 : Cond.selects RX6 yX6_takeNumber yX6_takeNumber ∈ bg := sl (q := (yX6_takeNumber, 3)) 26 (by decide +kernel) rfl
theorem ms_27 : Cond.selects RX6 yX6_readTests yX6_readTests ∈ bg := sl (q := (yX6_readTests, 3)) 27 (by decide +kernel) rfl
theorem ms_28 : Cond.selects RX6 yX6_readTest yX6_readTest ∈ bg := sl (q := (yX6_readTest, 3)) 28 (by decide +kernel) rfl
theorem ms_29 : Cond.selects RX6 yX6_readDeed yX6_readDeed ∈ bg := sl (q := (yX6_readDeed, 3)) 29 (by decide +kernel) rfl
theorem ms_30 : Cond.selects RX12 yX12_isNode yX12_isNode ∈ bg := sl (q := (yX12_isNode, 66)) 30 (by decide +kernel) rfl
theorem ms_31 : Cond.selects RX12 yX12_runs yX12_runs ∈ bg := sl (q := (yX12_runs, 66)) 31 (by decide +kernel) rfl
theorem ms_32 : Cond.selects RX12 yX12_vacuumAt yX12_vacuumAt ∈ bg := sl (q := (yX12_vacuumAt, 66)) 32 (by decide +kernel) rfl
theorem ms_33 : Cond.selects RX12 yX12_suspect yX12_suspect ∈ bg := sl (q := (yX12_suspect, 66)) 33 (by decide +kernel) rfl
theorem ms_34 : Cond.selects RX12 yX12_isTree yX12_isTree ∈ bg := sl (q := (yX12_isTree, 66)) 34 (by decide +kernel) rfl
theorem ms_35 : Cond.selects RX12 yX12_holesOf yX12_holesOf ∈ bg := sl (q := (yX12_holesOf, 66)) 35 (by decide +kernel) rfl
theorem ms_36 : Cond.selects RX12 yX12_mayHave yX12_mayHave ∈ bg := sl (q := (yX12_mayHave, 66)) 36 (by decide +kernel) rfl
theorem ms_37 : Cond.selects RX12 yX12_emptyPan yX12_emptyPan ∈ bg := sl (q := (yX12_emptyPan, 66)) 37 (by decide +kernel) rfl
theorem ms_38 : Cond.selects RX12 yX12_minute yX12_minute ∈ bg := sl (q := (yX12_minute, 66)) 38 (by decide +kernel) rfl
theorem ms_39 : Cond.selects RX12 yX12_firstRule yX12_firstRule ∈ bg := sl (q := (yX12_firstRule, 66)) 39 (by decide +kernel) rfl
theorem ms_40 : Cond.selects RX12 yX12_strength yX12_strength ∈ bg := sl (q := (yX12_strength, 66)) 40 (by decide +kernel) rfl
theorem ms_41 : Cond.selects RX12 yX12_isBatch yX12_isBatch ∈ bg := sl (q := (yX12_isBatch, 66)) 41 (by decide +kernel) rfl
theorem ms_42 : Cond.selects RX12 yX12_gradeOf yX12_gradeOf ∈ bg := sl (q := (yX12_gradeOf, 66)) 42 (by decide +kernel) rfl
theorem ms_43 : Cond.selects RX12 yX12_gradeBy yX12_gradeBy ∈ bg := sl (q := (yX12_gradeBy, 66)) 43 (by decide +kernel) rfl
theorem ms_44 : Cond.selects RX12 yX12_four yX12_four ∈ bg := sl (q := (yX12_four, 66)) 44 (by decide +kernel) rfl
theorem ms_45 : Cond.selects RX12 yX12_blanks yX12_blanks ∈ bg := sl (q := (yX12_blanks, 66)) 45 (by decide +kernel) rfl
theorem ms_46 : Cond.selects RX12 yX12_statement yX12_statement ∈ bg := sl (q := (yX12_statement, 66)) 46 (by decide +kernel) rfl
theorem ms_47 : Cond.selects RX12 yX12_takes yX12_takes ∈ bg := sl (q := (yX12_takes, 66)) 47 (by decide +kernel) rfl
theorem ms_48 : Cond.selects RX12 yX12_word yX12_word ∈ bg := sl (q := (yX12_word, 66)) 48 (by decide +kernel) rfl
theorem ms_49 : Cond.selects RX12 yX12_takesNumber yX12_takesNumber ∈ bg := sl (q := (yX12_takesNumber, 66)) 49 (by decide +kernel) rfl
theorem ms_50 : Cond.selects RX12 yX12_test yX12_test ∈ bg := sl (q := (yX12_test, 66)) 50 (by decide +kernel) rfl
