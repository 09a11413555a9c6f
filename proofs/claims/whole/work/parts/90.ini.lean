/-! CONSTRUCTORS: words, rows -/
theorem iw_1_18 : Cond.instanceMethod ⟨"java/lang/Object", "<init>", "()V"⟩ ∈ zTab := mg1 (List.mem_of_getElem? (i := 18) rfl) rfl
theorem iw_1_19 : Cond.code ⟨"java/lang/Object", "<init>", "()V"⟩ object_method_1_code 1 none ∈ zTab := mg1 (List.mem_of_getElem? (i := 19) rfl) rfl
theorem iw_1_47 : Cond.arrayClass FieldType.int ∈ zTab := mg1 (List.mem_of_getElem? (i := 47) rfl) rfl
theorem iw_4_86 : Cond.arrayClass FieldType.boolean ∈ zTab := mg4 (List.mem_of_getElem? (i := 86) rfl) rfl
theorem iw_1_198 : Cond.methodLink "BeatBounds$Row" 3 ⟨"java/lang/Object", "<init>", "()V"⟩ ∈ zTab := mg1 (List.mem_of_getElem? (i := 198) rfl) rfl
theorem iw_1_199 : Cond.fieldLink "BeatBounds$Row" 9 "BeatBounds$Row" "items" "[I" ∈ zTab := mg1 (List.mem_of_getElem? (i := 199) rfl) rfl
theorem iw_1_201 : Cond.fieldLink "BeatBounds$Row" 15 "BeatBounds$Row" "there" "Z" ∈ zTab := mg1 (List.mem_of_getElem? (i := 201) rfl) rfl
theorem iw_1_203 : Cond.fieldLink "BeatBounds$Row" 19 "BeatBounds$Row" "lane" "I" ∈ zTab := mg1 (List.mem_of_getElem? (i := 203) rfl) rfl
theorem iw_1_205 : Cond.fieldLink "BeatBounds$Row" 23 "BeatBounds$Row" "size" "I" ∈ zTab := mg1 (List.mem_of_getElem? (i := 205) rfl) rfl
theorem iw_1_27 : Cond.methodLink "BeatBounds$Tape" 3 ⟨"java/lang/Object", "<init>", "()V"⟩ ∈ zTab := mg1 (List.mem_of_getElem? (i := 27) rfl) rfl
theorem iw_1_28 : Cond.fieldLink "BeatBounds$Tape" 9 "BeatBounds$Tape" "bytes" "[I" ∈ zTab := mg1 (List.mem_of_getElem? (i := 28) rfl) rfl
theorem iw_1_29 : Cond.fieldLink "BeatBounds$Tape" 15 "BeatBounds$Tape" "length" "I" ∈ zTab := mg1 (List.mem_of_getElem? (i := 29) rfl) rfl
theorem iw_1_31 : Cond.fieldLink "BeatBounds$Tape" 19 "BeatBounds$Tape" "place" "I" ∈ zTab := mg1 (List.mem_of_getElem? (i := 31) rfl) rfl
theorem iw_1_32 : Cond.fieldLink "BeatBounds$Tape" 22 "BeatBounds$Tape" "fault" "I" ∈ zTab := mg1 (List.mem_of_getElem? (i := 32) rfl) rfl
theorem iw_1_34 : Cond.fieldLink "BeatBounds$Tape" 25 "BeatBounds$Tape" "faultPlace" "I" ∈ zTab := mg1 (List.mem_of_getElem? (i := 34) rfl) rfl
theorem iw_1_53 : Cond.methodLink "BeatBounds$Parish" 3 ⟨"java/lang/Object", "<init>", "()V"⟩ ∈ zTab := mg1 (List.mem_of_getElem? (i := 53) rfl) rfl
theorem iw_1_54 : Cond.fieldLink "BeatBounds$Parish" 9 "BeatBounds$Parish" "told" "Z" ∈ zTab := mg1 (List.mem_of_getElem? (i := 54) rfl) rfl
theorem iw_1_57 : Cond.fieldLink "BeatBounds$Parish" 15 "BeatBounds$Parish" "lasts" "I" ∈ zTab := mg1 (List.mem_of_getElem? (i := 57) rfl) rfl
theorem iw_1_59 : Cond.fieldLink "BeatBounds$Parish" 19 "BeatBounds$Parish" "drift" "I" ∈ zTab := mg1 (List.mem_of_getElem? (i := 59) rfl) rfl
theorem iw_1_61 : Cond.fieldLink "BeatBounds$Parish" 22 "BeatBounds$Parish" "year" "I" ∈ zTab := mg1 (List.mem_of_getElem? (i := 61) rfl) rfl
theorem iw_1_64 : Cond.fieldLink "BeatBounds$Parish" 25 "BeatBounds$Parish" "stones" "I" ∈ zTab := mg1 (List.mem_of_getElem? (i := 64) rfl) rfl
theorem iw_1_67 : Cond.fieldLink "BeatBounds$Parish" 28 "BeatBounds$Parish" "witnesses" "I" ∈ zTab := mg1 (List.mem_of_getElem? (i := 67) rfl) rfl
theorem iw_1_71 : Cond.fieldLink "BeatBounds$Parish" 31 "BeatBounds$Parish" "yards" "[I" ∈ zTab := mg1 (List.mem_of_getElem? (i := 71) rfl) rfl
theorem iw_1_75 : Cond.fieldLink "BeatBounds$Parish" 35 "BeatBounds$Parish" "kinds" "[I" ∈ zTab := mg1 (List.mem_of_getElem? (i := 75) rfl) rfl
theorem iw_1_80 : Cond.fieldLink "BeatBounds$Parish" 38 "BeatBounds$Parish" "firstAges" "[I" ∈ zTab := mg1 (List.mem_of_getElem? (i := 80) rfl) rfl
theorem iw_1_82 : Cond.fieldLink "BeatBounds$Parish" 41 "BeatBounds$Parish" "ends" "[I" ∈ zTab := mg1 (List.mem_of_getElem? (i := 82) rfl) rfl
theorem iw_1_85 : Cond.fieldLink "BeatBounds$Parish" 44 "BeatBounds$Parish" "bribes" "[I" ∈ zTab := mg1 (List.mem_of_getElem? (i := 85) rfl) rfl
theorem iw_1_88 : Cond.fieldLink "BeatBounds$Parish" 47 "BeatBounds$Parish" "bumpYard" "[I" ∈ zTab := mg1 (List.mem_of_getElem? (i := 88) rfl) rfl
theorem iw_1_91 : Cond.fieldLink "BeatBounds$Parish" 50 "BeatBounds$Parish" "bumpPain" "[I" ∈ zTab := mg1 (List.mem_of_getElem? (i := 91) rfl) rfl
theorem iw_1_94 : Cond.fieldLink "BeatBounds$Parish" 53 "BeatBounds$Parish" "bumpYear" "[I" ∈ zTab := mg1 (List.mem_of_getElem? (i := 94) rfl) rfl
theorem iw_1_132 : Cond.methodLink "BeatBounds$Acts" 3 ⟨"java/lang/Object", "<init>", "()V"⟩ ∈ zTab := mg1 (List.mem_of_getElem? (i := 132) rfl) rfl
theorem iw_1_133 : Cond.fieldLink "BeatBounds$Acts" 9 "BeatBounds$Acts" "size" "I" ∈ zTab := mg1 (List.mem_of_getElem? (i := 133) rfl) rfl
theorem iw_1_135 : Cond.fieldLink "BeatBounds$Acts" 15 "BeatBounds$Acts" "next" "I" ∈ zTab := mg1 (List.mem_of_getElem? (i := 135) rfl) rfl
theorem iw_1_136 : Cond.fieldLink "BeatBounds$Acts" 18 "BeatBounds$Acts" "sorts" "[I" ∈ zTab := mg1 (List.mem_of_getElem? (i := 136) rfl) rfl
theorem iw_1_137 : Cond.fieldLink "BeatBounds$Acts" 22 "BeatBounds$Acts" "whose" "[I" ∈ zTab := mg1 (List.mem_of_getElem? (i := 137) rfl) rfl
theorem iw_1_138 : Cond.fieldLink "BeatBounds$Acts" 25 "BeatBounds$Acts" "was" "[I" ∈ zTab := mg1 (List.mem_of_getElem? (i := 138) rfl) rfl
theorem iw_1_139 : Cond.fieldLink "BeatBounds$Acts" 28 "BeatBounds$Acts" "wasYard" "[I" ∈ zTab := mg1 (List.mem_of_getElem? (i := 139) rfl) rfl
theorem iw_1_140 : Cond.fieldLink "BeatBounds$Acts" 31 "BeatBounds$Acts" "wasPain" "[I" ∈ zTab := mg1 (List.mem_of_getElem? (i := 140) rfl) rfl
theorem iw_1_141 : Cond.fieldLink "BeatBounds$Acts" 34 "BeatBounds$Acts" "wasYear" "[I" ∈ zTab := mg1 (List.mem_of_getElem? (i := 141) rfl) rfl
theorem iw_1_164 : Cond.methodLink "BeatBounds$Oaths" 3 ⟨"java/lang/Object", "<init>", "()V"⟩ ∈ zTab := mg1 (List.mem_of_getElem? (i := 164) rfl) rfl
theorem iw_1_165 : Cond.fieldLink "BeatBounds$Oaths" 9 "BeatBounds$Oaths" "many" "I" ∈ zTab := mg1 (List.mem_of_getElem? (i := 165) rfl) rfl
theorem iw_1_167 : Cond.fieldLink "BeatBounds$Oaths" 15 "BeatBounds$Oaths" "who" "[I" ∈ zTab := mg1 (List.mem_of_getElem? (i := 167) rfl) rfl
theorem iw_1_168 : Cond.fieldLink "BeatBounds$Oaths" 19 "BeatBounds$Oaths" "says" "[I" ∈ zTab := mg1 (List.mem_of_getElem? (i := 168) rfl) rfl
theorem iw_1_169 : Cond.fieldLink "BeatBounds$Oaths" 22 "BeatBounds$Oaths" "ways" "[I" ∈ zTab := mg1 (List.mem_of_getElem? (i := 169) rfl) rfl
theorem iw_1_184 : Cond.methodLink "BeatBounds$Asks" 3 ⟨"java/lang/Object", "<init>", "()V"⟩ ∈ zTab := mg1 (List.mem_of_getElem? (i := 184) rfl) rfl
theorem iw_1_185 : Cond.fieldLink "BeatBounds$Asks" 9 "BeatBounds$Asks" "traces" "[I" ∈ zTab := mg1 (List.mem_of_getElem? (i := 185) rfl) rfl
theorem iw_1_187 : Cond.fieldLink "BeatBounds$Asks" 15 "BeatBounds$Asks" "traced" "I" ∈ zTab := mg1 (List.mem_of_getElem? (i := 187) rfl) rfl
theorem iw_4_9 : Cond.methodLink "BeatBoundsModel" 1 ⟨"java/lang/Object", "<init>", "()V"⟩ ∈ zTab := mg4 (List.mem_of_getElem? (i := 9) rfl) rfl
theorem iw_4_12 : Cond.fieldLink "BeatBoundsModel" 7 "BeatBoundsModel" "lane" "[I" ∈ zTab := mg4 (List.mem_of_getElem? (i := 12) rfl) rfl
theorem iw_4_13 : Cond.fieldLink "BeatBoundsModel" 13 "BeatBoundsModel" "many" "[I" ∈ zTab := mg4 (List.mem_of_getElem? (i := 13) rfl) rfl
theorem iw_4_14 : Cond.fieldLink "BeatBoundsModel" 16 "BeatBoundsModel" "item" "[I" ∈ zTab := mg4 (List.mem_of_getElem? (i := 14) rfl) rfl
theorem iw_4_15 : Cond.fieldLink "BeatBoundsModel" 19 "BeatBoundsModel" "parish" "[I" ∈ zTab := mg4 (List.mem_of_getElem? (i := 15) rfl) rfl
theorem iw_4_16 : Cond.fieldLink "BeatBoundsModel" 22 "BeatBoundsModel" "fresh" "[I" ∈ zTab := mg4 (List.mem_of_getElem? (i := 16) rfl) rfl
theorem iw_4_17 : Cond.fieldLink "BeatBoundsModel" 25 "BeatBoundsModel" "then" "[I" ∈ zTab := mg4 (List.mem_of_getElem? (i := 17) rfl) rfl
theorem iw_4_18 : Cond.fieldLink "BeatBoundsModel" 28 "BeatBoundsModel" "was" "[I" ∈ zTab := mg4 (List.mem_of_getElem? (i := 18) rfl) rfl
theorem iw_4_20 : Cond.fieldLink "BeatBoundsModel" 31 "BeatBoundsModel" "tape" "[I" ∈ zTab := mg4 (List.mem_of_getElem? (i := 20) rfl) rfl
theorem iw_4_29 : Cond.fieldLink "BeatBoundsModel" 34 "BeatBoundsModel" "said" "[I" ∈ zTab := mg4 (List.mem_of_getElem? (i := 29) rfl) rfl
theorem iw_4_30 : Cond.fieldLink "BeatBoundsModel" 37 "BeatBoundsModel" "orders" "[I" ∈ zTab := mg4 (List.mem_of_getElem? (i := 30) rfl) rfl
theorem iw_4_31 : Cond.fieldLink "BeatBoundsModel" 40 "BeatBoundsModel" "isKept" "[Z" ∈ zTab := mg4 (List.mem_of_getElem? (i := 31) rfl) rfl
theorem iw_4_32 : Cond.fieldLink "BeatBoundsModel" 44 "BeatBoundsModel" "kept" "[I" ∈ zTab := mg4 (List.mem_of_getElem? (i := 32) rfl) rfl
theorem iw_4_33 : Cond.fieldLink "BeatBoundsModel" 47 "BeatBoundsModel" "trace" "[I" ∈ zTab := mg4 (List.mem_of_getElem? (i := 33) rfl) rfl
theorem iw_1_7 : Cond.initialized "BeatBounds$Row" ∈ zTab := mg1 (List.mem_of_getElem? (i := 7) rfl) rfl
theorem iw_1_194 : Cond.instantiable "BeatBounds$Row" 4 ∈ zTab := mg1 (List.mem_of_getElem? (i := 194) rfl) rfl
theorem iw_1_196 : Cond.instanceMethod ⟨"BeatBounds$Row", "<init>", "()V"⟩ ∈ zTab := mg1 (List.mem_of_getElem? (i := 196) rfl) rfl
theorem iw_1_197 : Cond.code ⟨"BeatBounds$Row", "<init>", "()V"⟩ prog_6_method_1_code 1 none ∈ zTab := mg1 (List.mem_of_getElem? (i := 197) rfl) rfl
theorem iw_1_2 : Cond.initialized "BeatBounds$Tape" ∈ zTab := mg1 (List.mem_of_getElem? (i := 2) rfl) rfl
theorem iw_1_23 : Cond.instantiable "BeatBounds$Tape" 5 ∈ zTab := mg1 (List.mem_of_getElem? (i := 23) rfl) rfl
theorem iw_1_25 : Cond.instanceMethod ⟨"BeatBounds$Tape", "<init>", "()V"⟩ ∈ zTab := mg1 (List.mem_of_getElem? (i := 25) rfl) rfl
theorem iw_1_26 : Cond.code ⟨"BeatBounds$Tape", "<init>", "()V"⟩ prog_7_method_1_code 1 none ∈ zTab := mg1 (List.mem_of_getElem? (i := 26) rfl) rfl
theorem iw_1_3 : Cond.initialized "BeatBounds$Parish" ∈ zTab := mg1 (List.mem_of_getElem? (i := 3) rfl) rfl
theorem iw_1_49 : Cond.instantiable "BeatBounds$Parish" 14 ∈ zTab := mg1 (List.mem_of_getElem? (i := 49) rfl) rfl
theorem iw_1_51 : Cond.instanceMethod ⟨"BeatBounds$Parish", "<init>", "()V"⟩ ∈ zTab := mg1 (List.mem_of_getElem? (i := 51) rfl) rfl
theorem iw_1_52 : Cond.code ⟨"BeatBounds$Parish", "<init>", "()V"⟩ prog_5_method_1_code 1 none ∈ zTab := mg1 (List.mem_of_getElem? (i := 52) rfl) rfl
theorem iw_1_4 : Cond.initialized "BeatBounds$Acts" ∈ zTab := mg1 (List.mem_of_getElem? (i := 4) rfl) rfl
theorem iw_1_128 : Cond.instantiable "BeatBounds$Acts" 8 ∈ zTab := mg1 (List.mem_of_getElem? (i := 128) rfl) rfl
theorem iw_1_130 : Cond.instanceMethod ⟨"BeatBounds$Acts", "<init>", "()V"⟩ ∈ zTab := mg1 (List.mem_of_getElem? (i := 130) rfl) rfl
theorem iw_1_131 : Cond.code ⟨"BeatBounds$Acts", "<init>", "()V"⟩ prog_2_method_1_code 1 none ∈ zTab := mg1 (List.mem_of_getElem? (i := 131) rfl) rfl
theorem iw_1_5 : Cond.initialized "BeatBounds$Oaths" ∈ zTab := mg1 (List.mem_of_getElem? (i := 5) rfl) rfl
theorem iw_1_160 : Cond.instantiable "BeatBounds$Oaths" 4 ∈ zTab := mg1 (List.mem_of_getElem? (i := 160) rfl) rfl
theorem iw_1_162 : Cond.instanceMethod ⟨"BeatBounds$Oaths", "<init>", "()V"⟩ ∈ zTab := mg1 (List.mem_of_getElem? (i := 162) rfl) rfl
theorem iw_1_163 : Cond.code ⟨"BeatBounds$Oaths", "<init>", "()V"⟩ prog_4_method_1_code 1 none ∈ zTab := mg1 (List.mem_of_getElem? (i := 163) rfl) rfl
theorem iw_1_6 : Cond.initialized "BeatBounds$Asks" ∈ zTab := mg1 (List.mem_of_getElem? (i := 6) rfl) rfl
theorem iw_1_180 : Cond.instantiable "BeatBounds$Asks" 2 ∈ zTab := mg1 (List.mem_of_getElem? (i := 180) rfl) rfl
theorem iw_1_182 : Cond.instanceMethod ⟨"BeatBounds$Asks", "<init>", "()V"⟩ ∈ zTab := mg1 (List.mem_of_getElem? (i := 182) rfl) rfl
theorem iw_1_183 : Cond.code ⟨"BeatBounds$Asks", "<init>", "()V"⟩ prog_3_method_1_code 1 none ∈ zTab := mg1 (List.mem_of_getElem? (i := 183) rfl) rfl
theorem iw_1_1 : Cond.initialized "BeatBounds" ∈ zTab := mg1 (List.mem_of_getElem? (i := 1) rfl) rfl
theorem iw_1_13 : Cond.instantiable "BeatBounds" 9 ∈ zTab := mg1 (List.mem_of_getElem? (i := 13) rfl) rfl
theorem iw_1_15 : Cond.instanceMethod ⟨"BeatBounds", "<init>", "()V"⟩ ∈ zTab := mg1 (List.mem_of_getElem? (i := 15) rfl) rfl
theorem iw_1_16 : Cond.code ⟨"BeatBounds", "<init>", "()V"⟩ prog_1_method_1_code 2 none ∈ zTab := mg1 (List.mem_of_getElem? (i := 16) rfl) rfl
theorem iw_1_8 : Cond.initialized "BeatBoundsModel" ∈ zTab := mg1 (List.mem_of_getElem? (i := 8) rfl) rfl
theorem iw_4_5 : Cond.instantiable "BeatBoundsModel" 25 ∈ zTab := mg4 (List.mem_of_getElem? (i := 5) rfl) rfl
theorem iw_4_7 : Cond.instanceMethod ⟨"BeatBoundsModel", "<init>", "()V"⟩ ∈ zTab := mg4 (List.mem_of_getElem? (i := 7) rfl) rfl
theorem iw_4_8 : Cond.code ⟨"BeatBoundsModel", "<init>", "()V"⟩ prog_9_method_1_code 1 none ∈ zTab := mg4 (List.mem_of_getElem? (i := 8) rfl) rfl
theorem iw_1_20 : Cond.classLink "BeatBounds" 9 "BeatBounds$Row" ∈ zTab := mg1 (List.mem_of_getElem? (i := 20) rfl) rfl
theorem iw_1_22 : Cond.classLink "BeatBounds" 15 "BeatBounds$Tape" ∈ zTab := mg1 (List.mem_of_getElem? (i := 22) rfl) rfl
theorem iw_1_48 : Cond.classLink "BeatBounds" 22 "BeatBounds$Parish" ∈ zTab := mg1 (List.mem_of_getElem? (i := 48) rfl) rfl
theorem iw_1_127 : Cond.classLink "BeatBounds" 36 "BeatBounds$Acts" ∈ zTab := mg1 (List.mem_of_getElem? (i := 127) rfl) rfl
theorem iw_1_159 : Cond.classLink "BeatBounds" 43 "BeatBounds$Oaths" ∈ zTab := mg1 (List.mem_of_getElem? (i := 159) rfl) rfl
theorem iw_1_179 : Cond.classLink "BeatBounds" 50 "BeatBounds$Asks" ∈ zTab := mg1 (List.mem_of_getElem? (i := 179) rfl) rfl
theorem iw_1_12 : Cond.classLink "BeatBoundsLaw" 7 "BeatBounds" ∈ zTab := mg1 (List.mem_of_getElem? (i := 12) rfl) rfl
theorem iw_4_4 : Cond.classLink "BeatBoundsLaw" 10 "BeatBoundsModel" ∈ zTab := mg4 (List.mem_of_getElem? (i := 4) rfl) rfl
theorem iw_1_14 : Cond.methodLink "BeatBoundsLaw" 9 ⟨"BeatBounds", "<init>", "()V"⟩ ∈ zTab := mg1 (List.mem_of_getElem? (i := 14) rfl) rfl
theorem iw_4_6 : Cond.methodLink "BeatBoundsLaw" 12 ⟨"BeatBoundsModel", "<init>", "()V"⟩ ∈ zTab := mg4 (List.mem_of_getElem? (i := 6) rfl) rfl
theorem iw_1_17 : Cond.methodLink "BeatBounds" 1 ⟨"java/lang/Object", "<init>", "()V"⟩ ∈ zTab := mg1 (List.mem_of_getElem? (i := 17) rfl) rfl
theorem iw_1_216 : Cond.fieldLink "BeatBounds" 11 "BeatBounds" "rows" "[LBeatBounds$Row;" ∈ zTab := mg1 (List.mem_of_getElem? (i := 216) rfl) rfl
theorem iw_1_217 : Cond.fieldLink "BeatBounds" 18 "BeatBounds" "tape" "LBeatBounds$Tape;" ∈ zTab := mg1 (List.mem_of_getElem? (i := 217) rfl) rfl
theorem iw_1_218 : Cond.fieldLink "BeatBounds" 25 "BeatBounds" "now" "LBeatBounds$Parish;" ∈ zTab := mg1 (List.mem_of_getElem? (i := 218) rfl) rfl
theorem iw_1_219 : Cond.fieldLink "BeatBounds" 29 "BeatBounds" "trial" "LBeatBounds$Parish;" ∈ zTab := mg1 (List.mem_of_getElem? (i := 219) rfl) rfl
theorem iw_1_220 : Cond.fieldLink "BeatBounds" 32 "BeatBounds" "images" "[LBeatBounds$Parish;" ∈ zTab := mg1 (List.mem_of_getElem? (i := 220) rfl) rfl
theorem iw_1_221 : Cond.fieldLink "BeatBounds" 39 "BeatBounds" "acts" "LBeatBounds$Acts;" ∈ zTab := mg1 (List.mem_of_getElem? (i := 221) rfl) rfl
theorem iw_1_222 : Cond.fieldLink "BeatBounds" 46 "BeatBounds" "oaths" "LBeatBounds$Oaths;" ∈ zTab := mg1 (List.mem_of_getElem? (i := 222) rfl) rfl
theorem iw_1_223 : Cond.fieldLink "BeatBounds" 53 "BeatBounds" "asks" "LBeatBounds$Asks;" ∈ zTab := mg1 (List.mem_of_getElem? (i := 223) rfl) rfl
theorem iw_1_224 : Cond.fieldLink "BeatBounds" 57 "BeatBounds" "status" "I" ∈ zTab := mg1 (List.mem_of_getElem? (i := 224) rfl) rfl
theorem in_1_24 : Cond.methodLinkNest "BeatBounds" 17 ⟨"BeatBounds$Tape", "<init>", "()V"⟩ "BeatBounds" ∈ lw_tbl := mt1 (List.mem_of_getElem? (i := 24) rfl)
theorem in_1_50 : Cond.methodLinkNest "BeatBounds" 24 ⟨"BeatBounds$Parish", "<init>", "()V"⟩ "BeatBounds" ∈ lw_tbl := mt1 (List.mem_of_getElem? (i := 50) rfl)
theorem in_1_129 : Cond.methodLinkNest "BeatBounds" 38 ⟨"BeatBounds$Acts", "<init>", "()V"⟩ "BeatBounds" ∈ lw_tbl := mt1 (List.mem_of_getElem? (i := 129) rfl)
theorem in_1_161 : Cond.methodLinkNest "BeatBounds" 45 ⟨"BeatBounds$Oaths", "<init>", "()V"⟩ "BeatBounds" ∈ lw_tbl := mt1 (List.mem_of_getElem? (i := 161) rfl)
theorem in_1_181 : Cond.methodLinkNest "BeatBounds" 52 ⟨"BeatBounds$Asks", "<init>", "()V"⟩ "BeatBounds" ∈ lw_tbl := mt1 (List.mem_of_getElem? (i := 181) rfl)
theorem in_1_195 : Cond.methodLinkNest "BeatBounds" 61 ⟨"BeatBounds$Row", "<init>", "()V"⟩ "BeatBounds" ∈ lw_tbl := mt1 (List.mem_of_getElem? (i := 195) rfl)
theorem in_1_21 : Cond.arrayOver (FieldType.object "BeatBounds$Row") ∈ lw_tbl := mt1 (List.mem_of_getElem? (i := 21) rfl)
theorem in_1_126 : Cond.arrayOver (FieldType.object "BeatBounds$Parish") ∈ lw_tbl := mt1 (List.mem_of_getElem? (i := 126) rfl)
theorem in_3_208 : Cond.fieldLinkNest "BeatBounds$Asks" 32 "BeatBounds" "SIZE_BODIES" "[I" "BeatBounds" ∈ lw_tbl := mt3 (List.mem_of_getElem? (i := 208) rfl)
theorem in_3_210 : Cond.fieldLinkNest "BeatBounds$Asks" 35 "BeatBounds" "MARK_BODIES" "[I" "BeatBounds" ∈ lw_tbl := mt3 (List.mem_of_getElem? (i := 210) rfl)
theorem in_3_212 : Cond.fieldLinkNest "BeatBounds$Asks" 38 "BeatBounds" "ABOVE" "[I" "BeatBounds" ∈ lw_tbl := mt3 (List.mem_of_getElem? (i := 212) rfl)
theorem io_code : Cond.code objectInit ⟨#[0xb1]⟩ 1 none ∈ zTab := iw_1_19
def zT (cA : Nat → ClassId) : List (ClassId × FieldType) := [(cA 0, .int), (cA 1, .boolean), (cA 2, .object "BeatBounds$Row"), (cA 3, .object "BeatBounds$Parish")]
abbrev iPc (D : va_G) (cA : Nat → ClassId) (Nn : State → Prop) (q sz : Nat) (e : va_E) : Array Value → State → Prop := va_Pc [.ref q] (fun U => U.heap.size = sz ∧ va_P D vwCl [(q, e)] U.heap ∧ va_K D vwCl (zT cA) U ∧ Nn U ∧ va_D (fun _ => True) [(q, e)])
abbrev iQc (D : va_G) (q sz : Nat) (e : va_E) (blk : (Nat → Nat) → va_W) : Array Value → State → Outcome → State → Prop := va_Qv (fun _ : Nat → Nat => True) (fun u t => va_P D vwCl (blk u) t.heap ∧ va_D (va_A [(q, e)] sz) (blk u)) (va_A [(q, e)] sz)
/-- a constructor's contract: from an object new made to its block of cells -/
abbrev iMet (l : Launch) (D : va_G) (cA : Nat → ClassId) (Nn : State → Prop) (y : MethodName) (bs : ByteArray) (mL fr lo mc ms ci : Nat) (fs : List Value) (blk : Nat → (Nat → Nat) → va_W) : Prop :=
  ∀ q sz : Nat, Met l y (zws (y, bs, mL, none)) ({ frames := fr, cells := mc, slots := ms, locals := lo } : Room) (iPc D cA Nn q sz (.inr (ci, fs))) (iQc D q sz (.inr (ci, fs)) (blk q)) mc ms (va_A [(q, .inr (ci, fs))] sz)
section ZI
variable {p : Program} {l : Launch} {e : Env} {R : Room} {s : State} {m : MethodId} {args : Array Value} {below : List Frame} {meth : Method} {c : Code} {H : Heap} {locs : List Loc} {cells slots : Nat} {Q : State → Prop} {A : Nat → Prop} {pc : Nat} {ls : Array Slot} {rest : List Value} {cc : ByteArray} {D : va_G} {cl : List vw_C} {tys : List (ClassId × FieldType)} {ws : va_W} {H0 : Heap}
theorem zi_newa (hexec : p.tables.exec = Jvm.exec) (hb : c.code = cc) {atype : ArrayType} (harr : (Cond.arrayClass (newarray.typeOf atype)).before args s = true) {ty : FieldType} (hty : newarray.typeOf atype = ty) (t0 : Nat) {c0 : ClassId} (hK : va_K D cl tys s) (ht : tys[t0]? = some (c0, ty)) (hRA : ∀ k : ClassId, va_RA s k ty → s.vm.findClass ("[" ++ ty.toString) = some k) (hP : va_P D cl ws H) (hD : va_D A ws) (hS : va_S A H0 H locs) (hA : ∀ q, H0.size ≤ q → A q)
    {n : Int32} {N' : Nat} {a0 : vp_A} (ha : ∀ k : ClassId, vp_cell k a0 = arrV k N' (fun _ => defaultValue ty)) (hn : ¬ n < 0) (hN : n.toNatClampNeg = N') (hbytes : N' * componentBytes ty ≤ 536870912) (hcells : cells + 1 ≤ R.cells) (hslots : slots + N' ≤ R.slots) (hdg : decode cc pc = .ok (.newarray atype, 2))
    (kk : ∀ (q : Nat) (H1 : Heap), va_P D cl (ws ++ [(q, .inl (c0, a0))]) H1 → va_D A (ws ++ [(q, .inl (c0, a0))]) → va_S A H0 H1 locs → W p l e R s m args below meth c H1 locs (cells + 1) (slots + N') Q (F0 m (pc + 2) ls (.ref q :: rest))) : W p l e R s m args below meth c H locs cells slots Q (F0 m pc ls (.int n :: rest)) := by
  refine va_newa hexec hb harr hty hK hP hD hS hA ha hn hN hbytes hcells hslots hdg (fun q k H1 hK1 hP1 hD1 hS1 => ?_)
  have h1 := hRA k (hK1.2 tys.length (k, ty) (by simp)).2
  have h2 := hRA c0 (hK.2 t0 _ ht).2
  have e : k = c0 := Option.some.inj (h1.symm.trans h2)
  subst e
  exact kk q H1 hP1 hD1 hS1
theorem zi_newq (hexec : p.tables.exec = Jvm.exec) (hb : c.code = cc) {own C : String} {index : Nat} (hown : s.vm.findClass own = some m.cls) (hclink : (Cond.classLink own index C).before args s = true) (hover : va_AO C s) (t0 : Nat) {c0 : ClassId} (hK : va_K D cl tys s) (ht : tys[t0]? = some (c0, .object C)) (hP : va_P D cl ws H) (hD : va_D A ws) (hS : va_S A H0 H locs) (hA : ∀ q, H0.size ≤ q → A q)
    {n : Int32} {N' : Nat} (hn : ¬ n < 0) (hN : n.toNatClampNeg = N') (hbytes : N' * 4 ≤ 536870912) (hcells : cells + 1 ≤ R.cells) (hslots : slots + N' ≤ R.slots) (hdg : decode cc pc = .ok (.anewarray index, 3))
    (kk : ∀ (q : Nat) (H1 : Heap), va_P D cl (ws ++ [(q, .inl (c0, N', .inr (.inr (.inr (.inr (fun _ => none))))))]) H1 → va_D A (ws ++ [(q, .inl (c0, N', .inr (.inr (.inr (.inr (fun _ => none))))))]) → va_S A H0 H1 locs →
      W p l e R s m args below meth c H1 locs (cells + 1) (slots + N') Q (F0 m (pc + 3) ls (.ref q :: rest))) : W p l e R s m args below meth c H locs cells slots Q (F0 m pc ls (.int n :: rest)) := by
  refine va_newq hexec hb hown hclink hover hK hP hD hS hA hn hN hbytes hcells hslots hdg (fun q k H1 hK1 hP1 hD1 hS1 => ?_)
  obtain ⟨_, _, -, -, -, h1⟩ := (hK1.2 tys.length (k, .object C) (by simp)).2
  obtain ⟨_, _, -, -, -, h2⟩ := (hK.2 t0 _ ht).2
  have e : k = c0 := Option.some.inj (h1.symm.trans h2)
  subst e
  exact kk q H1 hP1 hD1 hS1
/-- new, dup, the constructor's call: a block of cells comes behind the others (an ordinary call) -/
theorem zi_mkI {cA : Nat → ClassId} {Nn : State → Prop} {own C : String} {T : u_T} {y : MethodName} {bs : ByteArray} {nL mL fr lo mc ms ci N idxN idxI : Nat} {fs : List Value} {blk : Nat → (Nat → Nat) → va_W} {ty : Nat → FieldType} (hexec : p.tables.exec = Jvm.exec) (hb : c.code = cc) (hml : c.maxLocals = nL) (hown : s.vm.findClass own = some m.cls) (hts : ∀ w ∈ zTab, w.before args s = true) (hM : iMet l D cA Nn y bs mL fr lo mc ms ci fs blk)
    (hc : vwCl[ci]? = some (C, T, N)) (hin : ∀ w ∈ u_ws C T N, w ∈ zTab) (hty : ∀ k, k < N → parseFieldDescriptor (T k).2.2.1 = some (ty k)) (hfs : ∀ j, j < N → defaultValue (ty j) = vp_V fs j) (w1 : Cond.classLink own idxN C ∈ zTab) (w2 : Cond.instantiable C N ∈ zTab) (w3 : Cond.initialized C ∈ zTab) (w4 : Cond.code y bs mL none ∈ zTab) (w5 : Cond.instanceMethod y ∈ zTab) (w6 : Cond.methodLink own idxI y ∈ zTab) (hyC : y.cls = C) (hyn : y.name = "<init>")
    (hd : y.cls ≠ "java/lang/invoke/MethodHandle" ∧ y.cls ≠ "java/lang/invoke/VarHandle" ∧ (parseMethodDescriptor y.desc).map (fun d => d.parameters.length) = some 0) (hR : fr + 1 ≤ R.frames ∧ 8 + (mL + 11) + lo ≤ R.locals) (hNb : ∀ (U : State) (f : JFrame) (mk : MethodId) (a : Array Value), Nn U → Nn (U.calling f mk a)) (hNw : ∀ U : State, s.WarmedH U.vm → Nn U)
    (hK : va_K D vwCl (zT cA) s) (hP : va_P D vwCl ws H) (hD : va_D A ws) (hS : va_S A s.heap H locs) (hA : ∀ q, s.heap.size ≤ q → A q) (hsz : ls.size = nL) (hrm : (rest.map fun v => v.category).sum ≤ 7) (hce : cells + 1 + mc ≤ R.cells) (hsl : slots + N + ms ≤ R.slots) (hd0 : decode cc pc = .ok (.new idxN, 3)) (hd1 : decode cc (pc + 3) = .ok (.dup, 1)) (hd2 : decode cc (pc + 4) = .ok (.invokespecial idxI, 3))
    (kk : ∀ (q : Nat) (u : Nat → Nat) (H1 : Heap) (locs1 : List Loc), va_P D vwCl (ws ++ blk q u) H1 → va_D A (ws ++ blk q u) → va_S A s.heap H1 locs1 → W p l e R s m args below meth c H1 locs1 (cells + 1 + mc) (slots + N + ms) Q (F0 m (pc + 7) ls (.ref q :: rest))) : W p l e R s m args below meth c H locs cells slots Q (F0 m pc ls rest) := by
  refine va_new (ci := ci) (fs := fs) (C := C) (T := T) (N := N) hexec hb hts hin ty hty hown (hts _ w1) (hts _ w2) (hts _ w3) hK hP hD hS hA hc hfs (by omega) (by omega) hd0 (fun q H hP1 hD1 hS1 => ?_)
  refine lv_dup hexec hb hd1 rfl ?_
  have hP2 : va_P D vwCl ([(q, .inr (ci, fs))] ++ ws) H := va_P.swap (a := []) (b := ws) (c := [(q, .inr (ci, fs))]) hP1
  have hD2 : va_D A ([(q, .inr (ci, fs))] ++ ws) := va_D.swap (a := []) (b := ws) (c := [(q, .inr (ci, fs))]) hD1
  have hPc : va_P D vwCl [(q, .inr (ci, fs))] H := hP2.sub (ws' := [(q, .inr (ci, fs))]) [0] rfl
  have hDc : va_D A [(q, .inr (ci, fs))] := hD2.sub (ws' := [(q, .inr (ci, fs))]) [0] (by decide) rfl
  have hFc := va_free (wc := [(q, .inr (ci, fs))]) hD2 hS1 hA [0] rfl
  refine va_callv (va_runI (As := []) (rest := .ref q :: rest) ⟨hexec, hb, hml, hown, hts⟩ (hM q H.size) (cwI 0 hts (zgoodIn w4) rfl rfl rfl (hts _ (by rw [hyC]; exact w3)) (hts _ w6) (hts _ w5) hyn hd hR) ⟨fun a U f mk h => by obtain ⟨h0, h1, h2, h3, h4, h5⟩ := h; exact ⟨h0, h1, h2, va_K.moved (u := U) (U := U.calling f mk a) (Vm.Alike.refl U.vm) h3, hNb U f mk a h4, h5⟩, fun U hU hW => ⟨rfl, by rw [hU], by rw [hU]; exact hPc, va_K.moved hW.alike hK, hNw U hW, hDc.weaken (fun _ _ _ _ => trivial)⟩⟩ rfl rfl hsz rfl (lv_room (by show 1 + (rest.map fun v => v.category).sum ≤ 8; omega)) hd2 ⟨hce, hsl⟩) hS1 (fun a _ h => hFc a h) hFc (fun u t H1 locs1 ht hvm _ hB hz1 hk1 hS2 => ?_)
  obtain ⟨hP3, hD3⟩ := hB
  rw [ht] at hP3
  obtain ⟨hP4, hD4⟩ := va_joinQ (X := [(q, .inr (ci, fs))]) (cx := [(q, .inr (ci, fs))]) (wr := []) (w1 := blk q u) (pl := ws) hP2 hD2 [0] [] rfl rfl (by decide) (by decide) hk1 hFc hP3 hD3
  exact kk q u H1 locs1 (va_P.swap (a := []) (b := blk q u) (c := ws) hP4) (va_D.swap (a := []) (b := blk q u) (c := ws) hD4) hS2
/-- new, dup, the constructor's call: a block of cells comes behind the others (a private one of the nest) -/
theorem zi_mkN {cA : Nat → ClassId} {Nn : State → Prop} {own C : String} {T : u_T} {y : MethodName} {bs : ByteArray} {nL mL fr lo mc ms ci N idxN idxI : Nat} {fs : List Value} {blk : Nat → (Nat → Nat) → va_W} {ty : Nat → FieldType} (hexec : p.tables.exec = Jvm.exec) (hb : c.code = cc) (hml : c.maxLocals = nL) (hown : s.vm.findClass own = some m.cls) (hts : ∀ w ∈ zTab, w.before args s = true) (hM : iMet l D cA Nn y bs mL fr lo mc ms ci fs blk)
    (hc : vwCl[ci]? = some (C, T, N)) (hin : ∀ w ∈ u_ws C T N, w ∈ zTab) (hty : ∀ k, k < N → parseFieldDescriptor (T k).2.2.1 = some (ty k)) (hfs : ∀ j, j < N → defaultValue (ty j) = vp_V fs j) (w1 : Cond.classLink own idxN C ∈ zTab) (w2 : Cond.instantiable C N ∈ zTab) (w3 : Cond.initialized C ∈ zTab) (w4 : Cond.code y bs mL none ∈ zTab) (w5 : Cond.instanceMethod y ∈ zTab) (w6 : va_Nw (.methodLinkNest own idxI y "BeatBounds") s) (hyC : y.cls = C) (hyn : y.name = "<init>")
    (hd : y.cls ≠ "java/lang/invoke/MethodHandle" ∧ y.cls ≠ "java/lang/invoke/VarHandle" ∧ (parseMethodDescriptor y.desc).map (fun d => d.parameters.length) = some 0) (hR : fr + 1 ≤ R.frames ∧ 8 + (mL + 11) + lo ≤ R.locals) (hNb : ∀ (U : State) (f : JFrame) (mk : MethodId) (a : Array Value), Nn U → Nn (U.calling f mk a)) (hNw : ∀ U : State, s.WarmedH U.vm → Nn U)
    (hK : va_K D vwCl (zT cA) s) (hP : va_P D vwCl ws H) (hD : va_D A ws) (hS : va_S A s.heap H locs) (hA : ∀ q, s.heap.size ≤ q → A q) (hsz : ls.size = nL) (hrm : (rest.map fun v => v.category).sum ≤ 7) (hce : cells + 1 + mc ≤ R.cells) (hsl : slots + N + ms ≤ R.slots) (hd0 : decode cc pc = .ok (.new idxN, 3)) (hd1 : decode cc (pc + 3) = .ok (.dup, 1)) (hd2 : decode cc (pc + 4) = .ok (.invokespecial idxI, 3))
    (kk : ∀ (q : Nat) (u : Nat → Nat) (H1 : Heap) (locs1 : List Loc), va_P D vwCl (ws ++ blk q u) H1 → va_D A (ws ++ blk q u) → va_S A s.heap H1 locs1 → W p l e R s m args below meth c H1 locs1 (cells + 1 + mc) (slots + N + ms) Q (F0 m (pc + 7) ls (.ref q :: rest))) : W p l e R s m args below meth c H locs cells slots Q (F0 m pc ls rest) := by
  refine va_new (ci := ci) (fs := fs) (C := C) (T := T) (N := N) hexec hb hts hin ty hty hown (hts _ w1) (hts _ w2) (hts _ w3) hK hP hD hS hA hc hfs (by omega) (by omega) hd0 (fun q H hP1 hD1 hS1 => ?_)
  refine lv_dup hexec hb hd1 rfl ?_
  have hP2 : va_P D vwCl ([(q, .inr (ci, fs))] ++ ws) H := va_P.swap (a := []) (b := ws) (c := [(q, .inr (ci, fs))]) hP1
  have hD2 : va_D A ([(q, .inr (ci, fs))] ++ ws) := va_D.swap (a := []) (b := ws) (c := [(q, .inr (ci, fs))]) hD1
  have hPc : va_P D vwCl [(q, .inr (ci, fs))] H := hP2.sub (ws' := [(q, .inr (ci, fs))]) [0] rfl
  have hDc : va_D A [(q, .inr (ci, fs))] := hD2.sub (ws' := [(q, .inr (ci, fs))]) [0] (by decide) rfl
  have hFc := va_free (wc := [(q, .inr (ci, fs))]) hD2 hS1 hA [0] rfl
  refine va_callv (va_runIN (As := []) (rest := .ref q :: rest) ⟨hexec, hb, hml, hown, hts⟩ (hM q H.size) ⟨va_cnB 0 hts (zgoodIn w4) rfl rfl rfl w6 (hts _ (by rw [hyC]; exact w3)) hd hR, hyn, hts _ w5⟩ ⟨fun a U f mk h => by obtain ⟨h0, h1, h2, h3, h4, h5⟩ := h; exact ⟨h0, h1, h2, va_K.moved (u := U) (U := U.calling f mk a) (Vm.Alike.refl U.vm) h3, hNb U f mk a h4, h5⟩, fun U hU hW => ⟨rfl, by rw [hU], by rw [hU]; exact hPc, va_K.moved hW.alike hK, hNw U hW, hDc.weaken (fun _ _ _ _ => trivial)⟩⟩ rfl rfl hsz rfl (lv_room (by show 1 + (rest.map fun v => v.category).sum ≤ 8; omega)) hd2 ⟨hce, hsl⟩) hS1 (fun a _ h => hFc a h) hFc (fun u t H1 locs1 ht hvm _ hB hz1 hk1 hS2 => ?_)
  obtain ⟨hP3, hD3⟩ := hB
  rw [ht] at hP3
  obtain ⟨hP4, hD4⟩ := va_joinQ (X := [(q, .inr (ci, fs))]) (cx := [(q, .inr (ci, fs))]) (wr := []) (w1 := blk q u) (pl := ws) hP2 hD2 [0] [] rfl rfl (by decide) (by decide) hk1 hFc hP3 hD3
  exact kk q u H1 locs1 (va_P.swap (a := []) (b := blk q u) (c := ws) hP4) (va_D.swap (a := []) (b := blk q u) (c := ws) hD4) hS2
end ZI
