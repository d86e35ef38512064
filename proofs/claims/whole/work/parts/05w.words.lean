def GT : List Cond := lw_tbl.filter goodWord
theorem GT_of {i : Nat} {x : Cond} (h : tables_1[i]? = some x) (hg : goodWord x = true) : x ∈ GT := List.mem_filter.mpr ⟨List.mem_append_right _ (List.mem_of_getElem? h), hg⟩
theorem LT_of {i : Nat} {x : Cond} (h : tables_1[i]? = some x) : x ∈ lw_tbl := List.mem_append_right _ (List.mem_of_getElem? h)
def MI (y : MethodName) (bytes : ByteArray) (maxL : Nat) (rt : Option FieldType) (n : Nat) (C : String) : Prop := Cond.code y bytes maxL rt ∈ GT ∧ Cond.initialized C ∈ GT ∧ y.cls = C ∧ (y.cls ≠ "java/lang/invoke/MethodHandle" ∧ y.cls ≠ "java/lang/invoke/VarHandle" ∧ (parseMethodDescriptor y.desc).map (fun d => d.parameters.length) = some n)
theorem in_X0 : ∀ x ∈ u_ws RX0 TX0 11, x ∈ GT := by decide +kernel
theorem in_X1 : ∀ x ∈ u_ws RX1 TX1 2, x ∈ GT := by decide +kernel
theorem in_X2 : ∀ x ∈ u_ws RX2 TX2 2, x ∈ GT := by decide +kernel
theorem in_X3 : ∀ x ∈ u_ws RX3 TX3 6, x ∈ GT := by decide +kernel
theorem in_X4 : ∀ x ∈ u_ws RX4 TX4 4, x ∈ GT := by decide +kernel
theorem in_X5 : ∀ x ∈ u_ws RX5 TX5 5, x ∈ GT := by decide +kernel
theorem in_X6 : ∀ x ∈ u_ws RX6 TX6 5, x ∈ GT := by decide +kernel
theorem in_X7 : ∀ x ∈ u_ws RX7 TX7 7, x ∈ GT := by decide +kernel
theorem in_X8 : ∀ x ∈ u_ws RX8 TX8 23, x ∈ GT := by decide +kernel
theorem ini_L : Cond.initialized "BagBottomLaw" ∈ GT := GT_of (i := 0) (by decide +kernel) (by decide +kernel)
theorem ini_X7 : Cond.initialized "BagBottom" ∈ GT := GT_of (i := 1) (by decide +kernel) (by decide +kernel)
theorem ini_X0 : Cond.initialized "BagBottom$Bag" ∈ GT := GT_of (i := 2) (by decide +kernel) (by decide +kernel)
theorem ini_X1 : Cond.initialized "BagBottom$Row" ∈ GT := GT_of (i := 3) (by decide +kernel) (by decide +kernel)
theorem ini_J9 : Cond.initialized "java/lang/Math" ∈ GT := GT_of (i := 4) (by decide +kernel) (by decide +kernel)
theorem ini_X4 : Cond.initialized "BagBottom$Thing" ∈ GT := GT_of (i := 5) (by decide +kernel) (by decide +kernel)
theorem ini_X3 : Cond.initialized "BagBottom$Text" ∈ GT := GT_of (i := 6) (by decide +kernel) (by decide +kernel)
theorem ini_X6 : Cond.initialized "BagBottom$Voices" ∈ GT := GT_of (i := 7) (by decide +kernel) (by decide +kernel)
theorem ini_X5 : Cond.initialized "BagBottom$Thought" ∈ GT := GT_of (i := 8) (by decide +kernel) (by decide +kernel)
theorem ini_X2 : Cond.initialized "BagBottom$Sheet" ∈ GT := GT_of (i := 9) (by decide +kernel) (by decide +kernel)
theorem ini_X8 : Cond.initialized "BagBottomModel" ∈ GT := GT_of (i := 10) (by decide +kernel) (by decide +kernel)
theorem ini_J10 : Cond.initialized "java/lang/System" ∈ GT := GT_of (i := 11) (by decide +kernel) (by decide +kernel)
theorem ini_J0 : Cond.initialized "java/lang/String" ∈ GT := GT_of (i := 12) (by decide +kernel) (by decide +kernel)
theorem ini_J1 : Cond.initialized "java/lang/StringLatin1" ∈ GT := GT_of (i := 13) (by decide +kernel) (by decide +kernel)
theorem ini_J2 : Cond.initialized "java/lang/StringUTF16" ∈ GT := GT_of (i := 14) (by decide +kernel) (by decide +kernel)
theorem ini_J3 : Cond.initialized "jdk/internal/util/Preconditions" ∈ GT := GT_of (i := 15) (by decide +kernel) (by decide +kernel)
theorem ini_J11 : Cond.initialized "java/lang/Character" ∈ GT := GT_of (i := 16) (by decide +kernel) (by decide +kernel)
theorem ini_J6 : Cond.initialized "java/lang/Integer" ∈ GT := GT_of (i := 17) (by decide +kernel) (by decide +kernel)
theorem cl_L_7 : Cond.classLink "BagBottomLaw" 7 "BagBottom" ∈ GT := GT_of (i := 18) (by decide +kernel) (by decide +kernel)
theorem new_X7 : Cond.instantiable "BagBottom" 7 ∈ GT := GT_of (i := 19) (by decide +kernel) (by decide +kernel)
theorem ml_L_9 : Cond.methodLink "BagBottomLaw" 9 yX7_init ∈ GT := GT_of (i := 20) (by decide +kernel) (by decide +kernel)
theorem im_X7_init : Cond.instanceMethod yX7_init ∈ GT := GT_of (i := 21) (by decide +kernel) (by decide +kernel)
theorem cd_X7_init : Cond.code yX7_init cX7_init 2 none ∈ GT := GT_of (i := 22) (by decide +kernel) (by decide +kernel)
theorem ml_X7_3 : Cond.methodLink "BagBottom" 3 objectInit ∈ GT := GT_of (i := 23) (by decide +kernel) (by decide +kernel)
theorem im_objectInit : Cond.instanceMethod objectInit ∈ GT := GT_of (i := 24) (by decide +kernel) (by decide +kernel)
theorem cl_X7_9 : Cond.classLink "BagBottom" 9 "BagBottom$Bag" ∈ GT := GT_of (i := 26) (by decide +kernel) (by decide +kernel)
theorem new_X0 : Cond.instantiable "BagBottom$Bag" 11 ∈ GT := GT_of (i := 27) (by decide +kernel) (by decide +kernel)
theorem ml_X7_11 : Cond.methodLink "BagBottom" 11 yX0_init ∈ GT := GT_of (i := 28) (by decide +kernel) (by decide +kernel)
theorem im_X0_init : Cond.instanceMethod yX0_init ∈ GT := GT_of (i := 29) (by decide +kernel) (by decide +kernel)
theorem cd_X0_init : Cond.code yX0_init cX0_init 2 none ∈ GT := GT_of (i := 30) (by decide +kernel) (by decide +kernel)
theorem ml_X0_3 : Cond.methodLink "BagBottom$Bag" 3 objectInit ∈ GT := GT_of (i := 31) (by decide +kernel) (by decide +kernel)
theorem cl_X0_9 : Cond.classLink "BagBottom$Bag" 9 "BagBottom$Thing" ∈ GT := GT_of (i := 32) (by decide +kernel) (by decide +kernel)
theorem cl_X0_17 : Cond.classLink "BagBottom$Bag" 17 "BagBottom$Row" ∈ GT := GT_of (i := 34) (by decide +kernel) (by decide +kernel)
theorem new_X1 : Cond.instantiable "BagBottom$Row" 2 ∈ GT := GT_of (i := 35) (by decide +kernel) (by decide +kernel)
theorem ml_X0_19 : Cond.methodLink "BagBottom$Bag" 19 yX1_init ∈ GT := GT_of (i := 36) (by decide +kernel) (by decide +kernel)
theorem im_X1_init : Cond.instanceMethod yX1_init ∈ GT := GT_of (i := 37) (by decide +kernel) (by decide +kernel)
theorem cd_X1_init : Cond.code yX1_init cX1_init 2 none ∈ GT := GT_of (i := 38) (by decide +kernel) (by decide +kernel)
theorem ml_X1_3 : Cond.methodLink "BagBottom$Row" 3 objectInit ∈ GT := GT_of (i := 39) (by decide +kernel) (by decide +kernel)
theorem ml_X1_9 : Cond.methodLink "BagBottom$Row" 9 yJ9_max_7cf53 ∈ GT := GT_of (i := 40) (by decide +kernel) (by decide +kernel)
theorem sm_J9_max_7cf53 : Cond.static yJ9_max_7cf53 ∈ GT := GT_of (i := 41) (by decide +kernel) (by decide +kernel)
theorem cd_J9_max_7cf53 : Cond.code yJ9_max_7cf53 cJ9_max_7cf53 2 (some .int) ∈ GT := GT_of (i := 42) (by decide +kernel) (by decide +kernel)
theorem fl_X1_15 : Cond.fieldLink "BagBottom$Row" 15 "BagBottom$Row" "numbers" "[I" ∈ GT := GT_of (i := 43) (by decide +kernel) (by decide +kernel)
theorem fl_X2_34 : Cond.fieldLink "BagBottom$Sheet" 34 "BagBottom$Row" "numbers" "[I" ∈ GT := GT_of (i := 44) (by decide +kernel) (by decide +kernel)
theorem fl_X5_86 : Cond.fieldLink "BagBottom$Thought" 86 "BagBottom$Row" "numbers" "[I" ∈ GT := GT_of (i := 45) (by decide +kernel) (by decide +kernel)
theorem fl_X0_79 : Cond.fieldLink "BagBottom$Bag" 79 "BagBottom$Row" "numbers" "[I" ∈ GT := GT_of (i := 46) (by decide +kernel) (by decide +kernel)
theorem fl_X7_112 : Cond.fieldLink "BagBottom" 112 "BagBottom$Row" "numbers" "[I" ∈ GT := GT_of (i := 47) (by decide +kernel) (by decide +kernel)
theorem fl_X3_96 : Cond.fieldLink "BagBottom$Text" 96 "BagBottom$Row" "numbers" "[I" ∈ GT := GT_of (i := 48) (by decide +kernel) (by decide +kernel)
theorem fl_X3_33 : Cond.fieldLink "BagBottom$Text" 33 "BagBottom$Row" "length" "I" ∈ GT := GT_of (i := 49) (by decide +kernel) (by decide +kernel)
theorem fl_X1_21 : Cond.fieldLink "BagBottom$Row" 21 "BagBottom$Row" "length" "I" ∈ GT := GT_of (i := 50) (by decide +kernel) (by decide +kernel)
theorem fl_X6_38 : Cond.fieldLink "BagBottom$Voices" 38 "BagBottom$Row" "length" "I" ∈ GT := GT_of (i := 51) (by decide +kernel) (by decide +kernel)
theorem fl_X2_24 : Cond.fieldLink "BagBottom$Sheet" 24 "BagBottom$Row" "length" "I" ∈ GT := GT_of (i := 52) (by decide +kernel) (by decide +kernel)
theorem fl_X5_60 : Cond.fieldLink "BagBottom$Thought" 60 "BagBottom$Row" "length" "I" ∈ GT := GT_of (i := 53) (by decide +kernel) (by decide +kernel)
theorem fl_X0_76 : Cond.fieldLink "BagBottom$Bag" 76 "BagBottom$Row" "length" "I" ∈ GT := GT_of (i := 54) (by decide +kernel) (by decide +kernel)
theorem fl_X7_120 : Cond.fieldLink "BagBottom" 120 "BagBottom$Row" "length" "I" ∈ GT := GT_of (i := 55) (by decide +kernel) (by decide +kernel)
theorem cl_X0_36 : Cond.classLink "BagBottom$Bag" 36 "BagBottom$Text" ∈ GT := GT_of (i := 62) (by decide +kernel) (by decide +kernel)
theorem new_X4 : Cond.instantiable "BagBottom$Thing" 4 ∈ GT := GT_of (i := 64) (by decide +kernel) (by decide +kernel)
theorem ml_X0_49 : Cond.methodLink "BagBottom$Bag" 49 yX4_init ∈ GT := GT_of (i := 65) (by decide +kernel) (by decide +kernel)
theorem im_X4_init : Cond.instanceMethod yX4_init ∈ GT := GT_of (i := 66) (by decide +kernel) (by decide +kernel)
theorem cd_X4_init : Cond.code yX4_init cX4_init 1 none ∈ GT := GT_of (i := 67) (by decide +kernel) (by decide +kernel)
theorem ml_X4_3 : Cond.methodLink "BagBottom$Thing" 3 objectInit ∈ GT := GT_of (i := 68) (by decide +kernel) (by decide +kernel)
theorem fl_X4_9 : Cond.fieldLink "BagBottom$Thing" 9 "BagBottom$Thing" "kind" "I" ∈ GT := GT_of (i := 69) (by decide +kernel) (by decide +kernel)
theorem fl_X6_24 : Cond.fieldLink "BagBottom$Voices" 24 "BagBottom$Thing" "kind" "I" ∈ GT := GT_of (i := 70) (by decide +kernel) (by decide +kernel)
theorem fl_X0_54 : Cond.fieldLink "BagBottom$Bag" 54 "BagBottom$Thing" "kind" "I" ∈ GT := GT_of (i := 71) (by decide +kernel) (by decide +kernel)
theorem fl_X7_72 : Cond.fieldLink "BagBottom" 72 "BagBottom$Thing" "kind" "I" ∈ GT := GT_of (i := 72) (by decide +kernel) (by decide +kernel)
theorem fl_X5_102 : Cond.fieldLink "BagBottom$Thought" 102 "BagBottom$Thing" "kind" "I" ∈ GT := GT_of (i := 73) (by decide +kernel) (by decide +kernel)
theorem fl_X6_30 : Cond.fieldLink "BagBottom$Voices" 30 "BagBottom$Thing" "m" "I" ∈ GT := GT_of (i := 74) (by decide +kernel) (by decide +kernel)
theorem fl_X4_18 : Cond.fieldLink "BagBottom$Thing" 18 "BagBottom$Thing" "m" "I" ∈ GT := GT_of (i := 75) (by decide +kernel) (by decide +kernel)
theorem fl_X0_57 : Cond.fieldLink "BagBottom$Bag" 57 "BagBottom$Thing" "m" "I" ∈ GT := GT_of (i := 76) (by decide +kernel) (by decide +kernel)
theorem fl_X7_77 : Cond.fieldLink "BagBottom" 77 "BagBottom$Thing" "m" "I" ∈ GT := GT_of (i := 77) (by decide +kernel) (by decide +kernel)
theorem fl_X4_15 : Cond.fieldLink "BagBottom$Thing" 15 "BagBottom$Thing" "weight" "I" ∈ GT := GT_of (i := 78) (by decide +kernel) (by decide +kernel)
theorem fl_X0_60 : Cond.fieldLink "BagBottom$Bag" 60 "BagBottom$Thing" "weight" "I" ∈ GT := GT_of (i := 79) (by decide +kernel) (by decide +kernel)
theorem fl_X7_80 : Cond.fieldLink "BagBottom" 80 "BagBottom$Thing" "weight" "I" ∈ GT := GT_of (i := 80) (by decide +kernel) (by decide +kernel)
theorem fl_X4_21 : Cond.fieldLink "BagBottom$Thing" 21 "BagBottom$Thing" "size" "I" ∈ GT := GT_of (i := 81) (by decide +kernel) (by decide +kernel)
theorem fl_X0_63 : Cond.fieldLink "BagBottom$Bag" 63 "BagBottom$Thing" "size" "I" ∈ GT := GT_of (i := 82) (by decide +kernel) (by decide +kernel)
theorem fl_X7_83 : Cond.fieldLink "BagBottom" 83 "BagBottom$Thing" "size" "I" ∈ GT := GT_of (i := 83) (by decide +kernel) (by decide +kernel)
theorem new_X3 : Cond.instantiable "BagBottom$Text" 6 ∈ GT := GT_of (i := 93) (by decide +kernel) (by decide +kernel)
theorem ml_X0_50 : Cond.methodLink "BagBottom$Bag" 50 yX3_init ∈ GT := GT_of (i := 94) (by decide +kernel) (by decide +kernel)
theorem im_X3_init : Cond.instanceMethod yX3_init ∈ GT := GT_of (i := 95) (by decide +kernel) (by decide +kernel)
theorem cd_X3_init : Cond.code yX3_init cX3_init 1 none ∈ GT := GT_of (i := 96) (by decide +kernel) (by decide +kernel)
theorem ml_X3_3 : Cond.methodLink "BagBottom$Text" 3 objectInit ∈ GT := GT_of (i := 97) (by decide +kernel) (by decide +kernel)
theorem cl_X3_9 : Cond.classLink "BagBottom$Text" 9 "BagBottom$Row" ∈ GT := GT_of (i := 98) (by decide +kernel) (by decide +kernel)
theorem ml_X3_11 : Cond.methodLink "BagBottom$Text" 11 yX1_init ∈ GT := GT_of (i := 99) (by decide +kernel) (by decide +kernel)
theorem fl_X3_14 : Cond.fieldLink "BagBottom$Text" 14 "BagBottom$Text" "codes" "LBagBottom$Row;" ∈ GT := GT_of (i := 101) (by decide +kernel) (by decide +kernel)
theorem fl_X7_158 : Cond.fieldLink "BagBottom" 158 "BagBottom$Text" "codes" "LBagBottom$Row;" ∈ GT := GT_of (i := 102) (by decide +kernel) (by decide +kernel)
theorem fl_X3_20 : Cond.fieldLink "BagBottom$Text" 20 "BagBottom$Text" "written" "LBagBottom$Row;" ∈ GT := GT_of (i := 103) (by decide +kernel) (by decide +kernel)
theorem fl_X3_23 : Cond.fieldLink "BagBottom$Text" 23 "BagBottom$Text" "stack" "[I" ∈ GT := GT_of (i := 104) (by decide +kernel) (by decide +kernel)
theorem fl_X3_37 : Cond.fieldLink "BagBottom$Text" 37 "BagBottom$Text" "bytes" "LBagBottom$Row;" ∈ GT := GT_of (i := 105) (by decide +kernel) (by decide +kernel)
theorem fl_X3_29 : Cond.fieldLink "BagBottom$Text" 29 "BagBottom$Text" "names" "Ljava/lang/String;" ∈ GT := GT_of (i := 106) (by decide +kernel) (by decide +kernel)
theorem fl_X3_40 : Cond.fieldLink "BagBottom$Text" 40 "BagBottom$Text" "next" "I" ∈ GT := GT_of (i := 107) (by decide +kernel) (by decide +kernel)
theorem fl_X0_11 : Cond.fieldLink "BagBottom$Bag" 11 "BagBottom$Bag" "things" "[LBagBottom$Thing;" ∈ GT := GT_of (i := 122) (by decide +kernel) (by decide +kernel)
theorem fl_X7_68 : Cond.fieldLink "BagBottom" 68 "BagBottom$Bag" "things" "[LBagBottom$Thing;" ∈ GT := GT_of (i := 123) (by decide +kernel) (by decide +kernel)
theorem fl_X5_89 : Cond.fieldLink "BagBottom$Thought" 89 "BagBottom$Bag" "things" "[LBagBottom$Thing;" ∈ GT := GT_of (i := 124) (by decide +kernel) (by decide +kernel)
theorem fl_X0_51 : Cond.fieldLink "BagBottom$Bag" 51 "BagBottom$Bag" "known" "I" ∈ GT := GT_of (i := 125) (by decide +kernel) (by decide +kernel)
theorem fl_X7_56 : Cond.fieldLink "BagBottom" 56 "BagBottom$Bag" "known" "I" ∈ GT := GT_of (i := 126) (by decide +kernel) (by decide +kernel)
theorem fl_X5_71 : Cond.fieldLink "BagBottom$Thought" 71 "BagBottom$Bag" "known" "I" ∈ GT := GT_of (i := 127) (by decide +kernel) (by decide +kernel)
theorem fl_X0_22 : Cond.fieldLink "BagBottom$Bag" 22 "BagBottom$Bag" "order" "LBagBottom$Row;" ∈ GT := GT_of (i := 128) (by decide +kernel) (by decide +kernel)
theorem fl_X5_38 : Cond.fieldLink "BagBottom$Thought" 38 "BagBottom$Bag" "order" "LBagBottom$Row;" ∈ GT := GT_of (i := 129) (by decide +kernel) (by decide +kernel)
theorem fl_X7_103 : Cond.fieldLink "BagBottom" 103 "BagBottom$Bag" "order" "LBagBottom$Row;" ∈ GT := GT_of (i := 130) (by decide +kernel) (by decide +kernel)
theorem fl_X0_26 : Cond.fieldLink "BagBottom$Bag" 26 "BagBottom$Bag" "pocket" "I" ∈ GT := GT_of (i := 131) (by decide +kernel) (by decide +kernel)
theorem fl_X7_286 : Cond.fieldLink "BagBottom" 286 "BagBottom$Bag" "pocket" "I" ∈ GT := GT_of (i := 132) (by decide +kernel) (by decide +kernel)
theorem fl_X5_45 : Cond.fieldLink "BagBottom$Thought" 45 "BagBottom$Bag" "steps" "I" ∈ GT := GT_of (i := 133) (by decide +kernel) (by decide +kernel)
theorem fl_X7_89 : Cond.fieldLink "BagBottom" 89 "BagBottom$Bag" "steps" "I" ∈ GT := GT_of (i := 134) (by decide +kernel) (by decide +kernel)
theorem fl_X0_131 : Cond.fieldLink "BagBottom$Bag" 131 "BagBottom$Bag" "steps" "I" ∈ GT := GT_of (i := 135) (by decide +kernel) (by decide +kernel)
theorem fl_X0_115 : Cond.fieldLink "BagBottom$Bag" 115 "BagBottom$Bag" "seconds" "I" ∈ GT := GT_of (i := 136) (by decide +kernel) (by decide +kernel)
theorem fl_X7_184 : Cond.fieldLink "BagBottom" 184 "BagBottom$Bag" "seconds" "I" ∈ GT := GT_of (i := 137) (by decide +kernel) (by decide +kernel)
theorem fl_X0_30 : Cond.fieldLink "BagBottom$Bag" 30 "BagBottom$Bag" "z" "I" ∈ GT := GT_of (i := 138) (by decide +kernel) (by decide +kernel)
theorem fl_X7_187 : Cond.fieldLink "BagBottom" 187 "BagBottom$Bag" "z" "I" ∈ GT := GT_of (i := 139) (by decide +kernel) (by decide +kernel)
theorem fl_X0_33 : Cond.fieldLink "BagBottom$Bag" 33 "BagBottom$Bag" "tape" "LBagBottom$Row;" ∈ GT := GT_of (i := 140) (by decide +kernel) (by decide +kernel)
theorem fl_X7_129 : Cond.fieldLink "BagBottom" 129 "BagBottom$Bag" "tape" "LBagBottom$Row;" ∈ GT := GT_of (i := 141) (by decide +kernel) (by decide +kernel)
theorem fl_X0_38 : Cond.fieldLink "BagBottom$Bag" 38 "BagBottom$Bag" "texts" "[LBagBottom$Text;" ∈ GT := GT_of (i := 142) (by decide +kernel) (by decide +kernel)
theorem fl_X7_140 : Cond.fieldLink "BagBottom" 140 "BagBottom$Bag" "texts" "[LBagBottom$Text;" ∈ GT := GT_of (i := 143) (by decide +kernel) (by decide +kernel)
theorem fl_X0_42 : Cond.fieldLink "BagBottom$Bag" 42 "BagBottom$Bag" "waiting" "LBagBottom$Row;" ∈ GT := GT_of (i := 144) (by decide +kernel) (by decide +kernel)
theorem fl_X7_283 : Cond.fieldLink "BagBottom" 283 "BagBottom$Bag" "waiting" "LBagBottom$Row;" ∈ GT := GT_of (i := 145) (by decide +kernel) (by decide +kernel)
theorem fl_X0_45 : Cond.fieldLink "BagBottom$Bag" 45 "BagBottom$Bag" "sinkRows" "[I" ∈ GT := GT_of (i := 146) (by decide +kernel) (by decide +kernel)
theorem cl_X7_19 : Cond.classLink "BagBottom" 19 "BagBottom$Sheet" ∈ GT := GT_of (i := 170) (by decide +kernel) (by decide +kernel)
theorem cl_X7_25 : Cond.classLink "BagBottom" 25 "BagBottom$Voices" ∈ GT := GT_of (i := 172) (by decide +kernel) (by decide +kernel)
theorem new_X6 : Cond.instantiable "BagBottom$Voices" 5 ∈ GT := GT_of (i := 173) (by decide +kernel) (by decide +kernel)
theorem ml_X7_27 : Cond.methodLink "BagBottom" 27 yX6_init ∈ GT := GT_of (i := 174) (by decide +kernel) (by decide +kernel)
theorem im_X6_init : Cond.instanceMethod yX6_init ∈ GT := GT_of (i := 175) (by decide +kernel) (by decide +kernel)
theorem cd_X6_init : Cond.code yX6_init cX6_init 1 none ∈ GT := GT_of (i := 176) (by decide +kernel) (by decide +kernel)
theorem ml_X6_3 : Cond.methodLink "BagBottom$Voices" 3 objectInit ∈ GT := GT_of (i := 177) (by decide +kernel) (by decide +kernel)
theorem cl_X6_9 : Cond.classLink "BagBottom$Voices" 9 "BagBottom$Row" ∈ GT := GT_of (i := 178) (by decide +kernel) (by decide +kernel)
theorem ml_X6_11 : Cond.methodLink "BagBottom$Voices" 11 yX1_init ∈ GT := GT_of (i := 179) (by decide +kernel) (by decide +kernel)
theorem fl_X6_14 : Cond.fieldLink "BagBottom$Voices" 14 "BagBottom$Voices" "trace" "LBagBottom$Row;" ∈ GT := GT_of (i := 180) (by decide +kernel) (by decide +kernel)
theorem fl_X7_246 : Cond.fieldLink "BagBottom" 246 "BagBottom$Voices" "trace" "LBagBottom$Row;" ∈ GT := GT_of (i := 181) (by decide +kernel) (by decide +kernel)
theorem fl_X6_34 : Cond.fieldLink "BagBottom$Voices" 34 "BagBottom$Voices" "parted" "Z" ∈ GT := GT_of (i := 182) (by decide +kernel) (by decide +kernel)
theorem fl_X7_241 : Cond.fieldLink "BagBottom" 241 "BagBottom$Voices" "parted" "Z" ∈ GT := GT_of (i := 183) (by decide +kernel) (by decide +kernel)
theorem fl_X6_20 : Cond.fieldLink "BagBottom$Voices" 20 "BagBottom$Voices" "number" "I" ∈ GT := GT_of (i := 184) (by decide +kernel) (by decide +kernel)
theorem fl_X6_29 : Cond.fieldLink "BagBottom$Voices" 29 "BagBottom$Voices" "kind" "I" ∈ GT := GT_of (i := 185) (by decide +kernel) (by decide +kernel)
theorem fl_X6_33 : Cond.fieldLink "BagBottom$Voices" 33 "BagBottom$Voices" "m" "I" ∈ GT := GT_of (i := 186) (by decide +kernel) (by decide +kernel)
theorem cl_X7_32 : Cond.classLink "BagBottom" 32 "BagBottom$Thought" ∈ GT := GT_of (i := 198) (by decide +kernel) (by decide +kernel)
theorem new_X5 : Cond.instantiable "BagBottom$Thought" 5 ∈ GT := GT_of (i := 199) (by decide +kernel) (by decide +kernel)
theorem ml_X7_34 : Cond.methodLink "BagBottom" 34 yX5_init ∈ GT := GT_of (i := 200) (by decide +kernel) (by decide +kernel)
theorem im_X5_init : Cond.instanceMethod yX5_init ∈ GT := GT_of (i := 201) (by decide +kernel) (by decide +kernel)
theorem cd_X5_init : Cond.code yX5_init cX5_init 1 none ∈ GT := GT_of (i := 202) (by decide +kernel) (by decide +kernel)
theorem ml_X5_3 : Cond.methodLink "BagBottom$Thought" 3 objectInit ∈ GT := GT_of (i := 203) (by decide +kernel) (by decide +kernel)
theorem cl_X5_9 : Cond.classLink "BagBottom$Thought" 9 "BagBottom$Row" ∈ GT := GT_of (i := 204) (by decide +kernel) (by decide +kernel)
theorem ml_X5_11 : Cond.methodLink "BagBottom$Thought" 11 yX1_init ∈ GT := GT_of (i := 205) (by decide +kernel) (by decide +kernel)
theorem fl_X5_14 : Cond.fieldLink "BagBottom$Thought" 14 "BagBottom$Thought" "packed" "LBagBottom$Row;" ∈ GT := GT_of (i := 206) (by decide +kernel) (by decide +kernel)
theorem fl_X7_203 : Cond.fieldLink "BagBottom" 203 "BagBottom$Thought" "packed" "LBagBottom$Row;" ∈ GT := GT_of (i := 207) (by decide +kernel) (by decide +kernel)
theorem fl_X5_20 : Cond.fieldLink "BagBottom$Thought" 20 "BagBottom$Thought" "start" "LBagBottom$Row;" ∈ GT := GT_of (i := 208) (by decide +kernel) (by decide +kernel)
theorem fl_X5_23 : Cond.fieldLink "BagBottom$Thought" 23 "BagBottom$Thought" "row" "LBagBottom$Row;" ∈ GT := GT_of (i := 209) (by decide +kernel) (by decide +kernel)
theorem fl_X5_26 : Cond.fieldLink "BagBottom$Thought" 26 "BagBottom$Thought" "felt" "[I" ∈ GT := GT_of (i := 210) (by decide +kernel) (by decide +kernel)
theorem fl_X5_30 : Cond.fieldLink "BagBottom$Thought" 30 "BagBottom$Thought" "used" "[I" ∈ GT := GT_of (i := 211) (by decide +kernel) (by decide +kernel)
theorem new_X2 : Cond.instantiable "BagBottom$Sheet" 2 ∈ GT := GT_of (i := 223) (by decide +kernel) (by decide +kernel)
theorem ml_X7_43 : Cond.methodLink "BagBottom" 43 yX2_init ∈ GT := GT_of (i := 224) (by decide +kernel) (by decide +kernel)
theorem im_X2_init : Cond.instanceMethod yX2_init ∈ GT := GT_of (i := 225) (by decide +kernel) (by decide +kernel)
theorem cd_X2_init : Cond.code yX2_init cX2_init 1 none ∈ GT := GT_of (i := 226) (by decide +kernel) (by decide +kernel)
theorem ml_X2_3 : Cond.methodLink "BagBottom$Sheet" 3 objectInit ∈ GT := GT_of (i := 227) (by decide +kernel) (by decide +kernel)
theorem cl_X2_9 : Cond.classLink "BagBottom$Sheet" 9 "BagBottom$Row" ∈ GT := GT_of (i := 228) (by decide +kernel) (by decide +kernel)
theorem ml_X2_11 : Cond.methodLink "BagBottom$Sheet" 11 yX1_init ∈ GT := GT_of (i := 229) (by decide +kernel) (by decide +kernel)
theorem fl_X2_20 : Cond.fieldLink "BagBottom$Sheet" 20 "BagBottom$Sheet" "bits" "I" ∈ GT := GT_of (i := 230) (by decide +kernel) (by decide +kernel)
theorem fl_X7_256 : Cond.fieldLink "BagBottom" 256 "BagBottom$Sheet" "bits" "I" ∈ GT := GT_of (i := 231) (by decide +kernel) (by decide +kernel)
theorem fl_X2_14 : Cond.fieldLink "BagBottom$Sheet" 14 "BagBottom$Sheet" "row" "LBagBottom$Row;" ∈ GT := GT_of (i := 232) (by decide +kernel) (by decide +kernel)
theorem fl_X7_230 : Cond.fieldLink "BagBottom" 230 "BagBottom$Sheet" "row" "LBagBottom$Row;" ∈ GT := GT_of (i := 233) (by decide +kernel) (by decide +kernel)
theorem fl_X7_12 : Cond.fieldLink "BagBottom" 12 "BagBottom" "bag" "LBagBottom$Bag;" ∈ GT := GT_of (i := 239) (by decide +kernel) (by decide +kernel)
theorem fl_X7_16 : Cond.fieldLink "BagBottom" 16 "BagBottom" "kept" "LBagBottom$Bag;" ∈ GT := GT_of (i := 240) (by decide +kernel) (by decide +kernel)
theorem fl_X7_280 : Cond.fieldLink "BagBottom" 280 "BagBottom" "images" "I" ∈ GT := GT_of (i := 241) (by decide +kernel) (by decide +kernel)
theorem fl_X7_21 : Cond.fieldLink "BagBottom" 21 "BagBottom" "sheets" "[LBagBottom$Sheet;" ∈ GT := GT_of (i := 242) (by decide +kernel) (by decide +kernel)
theorem fl_X7_28 : Cond.fieldLink "BagBottom" 28 "BagBottom" "voices" "LBagBottom$Voices;" ∈ GT := GT_of (i := 243) (by decide +kernel) (by decide +kernel)
theorem fl_X7_35 : Cond.fieldLink "BagBottom" 35 "BagBottom" "thought" "LBagBottom$Thought;" ∈ GT := GT_of (i := 244) (by decide +kernel) (by decide +kernel)
theorem fl_X7_39 : Cond.fieldLink "BagBottom" 39 "BagBottom" "errors" "[I" ∈ GT := GT_of (i := 245) (by decide +kernel) (by decide +kernel)
theorem ml_L_13 : Cond.methodLink "BagBottomLaw" 13 yX7_thing ∈ GT := GT_of (i := 261) (by decide +kernel) (by decide +kernel)
theorem im_X7_thing : Cond.instanceMethod yX7_thing ∈ GT := GT_of (i := 262) (by decide +kernel) (by decide +kernel)
theorem se_X7_thing : Cond.selects "BagBottom" yX7_thing yX7_thing ∈ GT := GT_of (i := 263) (by decide +kernel) (by decide +kernel)
theorem cd_X7_thing : Cond.code yX7_thing cX7_thing 4 (some .int) ∈ GT := GT_of (i := 264) (by decide +kernel) (by decide +kernel)
theorem ml_X7_44 : Cond.methodLink "BagBottom" 44 yX7_isKindAndM ∈ GT := GT_of (i := 265) (by decide +kernel) (by decide +kernel)
theorem sm_X7_isKindAndM : Cond.static yX7_isKindAndM ∈ GT := GT_of (i := 266) (by decide +kernel) (by decide +kernel)
theorem cd_X7_isKindAndM : Cond.code yX7_isKindAndM cX7_isKindAndM 1 (some .boolean) ∈ GT := GT_of (i := 267) (by decide +kernel) (by decide +kernel)
theorem ml_X7_48 : Cond.methodLink "BagBottom" 48 yX7_isWeight ∈ GT := GT_of (i := 268) (by decide +kernel) (by decide +kernel)
theorem sm_X7_isWeight : Cond.static yX7_isWeight ∈ GT := GT_of (i := 269) (by decide +kernel) (by decide +kernel)
theorem cd_X7_isWeight : Cond.code yX7_isWeight cX7_isWeight 1 (some .boolean) ∈ GT := GT_of (i := 270) (by decide +kernel) (by decide +kernel)
theorem kc_X7_51 : Cond.constant "BagBottom" 51 (-1000000001) ∈ GT := GT_of (i := 271) (by decide +kernel) (by decide +kernel)
theorem ml_X7_52 : Cond.methodLink "BagBottom" 52 yX7_failed ∈ GT := GT_of (i := 272) (by decide +kernel) (by decide +kernel)
theorem im_X7_failed : Cond.instanceMethod yX7_failed ∈ GT := GT_of (i := 274) (by decide +kernel) (by decide +kernel)
theorem cd_X7_failed : Cond.code yX7_failed cX7_failed 3 (some .int) ∈ GT := GT_of (i := 275) (by decide +kernel) (by decide +kernel)
theorem kc_X7_289 : Cond.constant "BagBottom" 289 (-1000000000) ∈ GT := GT_of (i := 276) (by decide +kernel) (by decide +kernel)
theorem kc_X7_60 : Cond.constant "BagBottom" 60 (-1000000004) ∈ GT := GT_of (i := 277) (by decide +kernel) (by decide +kernel)
theorem ml_X7_61 : Cond.methodLink "BagBottom" 61 yX0_addThing ∈ GT := GT_of (i := 278) (by decide +kernel) (by decide +kernel)
theorem im_X0_addThing : Cond.instanceMethod yX0_addThing ∈ GT := GT_of (i := 279) (by decide +kernel) (by decide +kernel)
theorem se_X0_addThing : Cond.selects "BagBottom$Bag" yX0_addThing yX0_addThing ∈ GT := GT_of (i := 280) (by decide +kernel) (by decide +kernel)
theorem cd_X0_addThing : Cond.code yX0_addThing cX0_addThing 6 (some .int) ∈ GT := GT_of (i := 281) (by decide +kernel) (by decide +kernel)
theorem ml_X0_66 : Cond.methodLink "BagBottom$Bag" 66 yX1_addOnTop ∈ GT := GT_of (i := 282) (by decide +kernel) (by decide +kernel)
theorem im_X1_addOnTop : Cond.instanceMethod yX1_addOnTop ∈ GT := GT_of (i := 283) (by decide +kernel) (by decide +kernel)
theorem se_X1_addOnTop : Cond.selects "BagBottom$Row" yX1_addOnTop yX1_addOnTop ∈ GT := GT_of (i := 284) (by decide +kernel) (by decide +kernel)
theorem cd_X1_addOnTop : Cond.code yX1_addOnTop cX1_addOnTop 2 none ∈ GT := GT_of (i := 285) (by decide +kernel) (by decide +kernel)
theorem ml_X1_25 : Cond.methodLink "BagBottom$Row" 25 arraycopyName ∈ GT := GT_of (i := 286) (by decide +kernel) (by decide +kernel)
theorem sm_arraycopy : Cond.static arraycopyName ∈ GT := GT_of (i := 287) (by decide +kernel) (by decide +kernel)
theorem nt_arraycopy : Cond.native arraycopyName ∈ GT := GT_of (i := 288) (by decide +kernel) (by decide +kernel)
theorem ml_L_18 : Cond.methodLink "BagBottomLaw" 18 yX7_thingIs ∈ GT := GT_of (i := 289) (by decide +kernel) (by decide +kernel)
theorem im_X7_thingIs : Cond.instanceMethod yX7_thingIs ∈ GT := GT_of (i := 290) (by decide +kernel) (by decide +kernel)
theorem se_X7_thingIs : Cond.selects "BagBottom" yX7_thingIs yX7_thingIs ∈ GT := GT_of (i := 291) (by decide +kernel) (by decide +kernel)
theorem cd_X7_thingIs : Cond.code yX7_thingIs cX7_thingIs 4 (some .int) ∈ GT := GT_of (i := 292) (by decide +kernel) (by decide +kernel)
theorem ml_X7_65 : Cond.methodLink "BagBottom" 65 yX0_knows ∈ GT := GT_of (i := 293) (by decide +kernel) (by decide +kernel)
theorem im_X0_knows : Cond.instanceMethod yX0_knows ∈ GT := GT_of (i := 294) (by decide +kernel) (by decide +kernel)
theorem se_X0_knows : Cond.selects "BagBottom$Bag" yX0_knows yX0_knows ∈ GT := GT_of (i := 295) (by decide +kernel) (by decide +kernel)
theorem cd_X0_knows : Cond.code yX0_knows cX0_knows 2 (some .boolean) ∈ GT := GT_of (i := 296) (by decide +kernel) (by decide +kernel)
theorem ml_X7_86 : Cond.methodLink "BagBottom" 86 yX0_whereIs ∈ GT := GT_of (i := 297) (by decide +kernel) (by decide +kernel)
theorem im_X0_whereIs : Cond.instanceMethod yX0_whereIs ∈ GT := GT_of (i := 298) (by decide +kernel) (by decide +kernel)
theorem se_X0_whereIs : Cond.selects "BagBottom$Bag" yX0_whereIs yX0_whereIs ∈ GT := GT_of (i := 299) (by decide +kernel) (by decide +kernel)
theorem cd_X0_whereIs : Cond.code yX0_whereIs cX0_whereIs 3 (some .int) ∈ GT := GT_of (i := 300) (by decide +kernel) (by decide +kernel)
theorem ml_X0_69 : Cond.methodLink "BagBottom$Bag" 69 yX1_placeOf ∈ GT := GT_of (i := 301) (by decide +kernel) (by decide +kernel)
theorem im_X1_placeOf : Cond.instanceMethod yX1_placeOf ∈ GT := GT_of (i := 302) (by decide +kernel) (by decide +kernel)
theorem se_X1_placeOf : Cond.selects "BagBottom$Row" yX1_placeOf yX1_placeOf ∈ GT := GT_of (i := 303) (by decide +kernel) (by decide +kernel)
theorem cd_X1_placeOf : Cond.code yX1_placeOf cX1_placeOf 3 (some .int) ∈ GT := GT_of (i := 304) (by decide +kernel) (by decide +kernel)
theorem ml_X7_92 : Cond.methodLink "BagBottom" 92 yX4_sinks ∈ GT := GT_of (i := 305) (by decide +kernel) (by decide +kernel)
theorem im_X4_sinks : Cond.instanceMethod yX4_sinks ∈ GT := GT_of (i := 306) (by decide +kernel) (by decide +kernel)
theorem se_X4_sinks : Cond.selects "BagBottom$Thing" yX4_sinks yX4_sinks ∈ GT := GT_of (i := 307) (by decide +kernel) (by decide +kernel)
theorem cd_X4_sinks : Cond.code yX4_sinks cX4_sinks 2 (some .int) ∈ GT := GT_of (i := 308) (by decide +kernel) (by decide +kernel)
theorem ml_X7_95 : Cond.methodLink "BagBottom" 95 yX4_feels ∈ GT := GT_of (i := 309) (by decide +kernel) (by decide +kernel)
theorem im_X4_feels : Cond.instanceMethod yX4_feels ∈ GT := GT_of (i := 310) (by decide +kernel) (by decide +kernel)
theorem se_X4_feels : Cond.selects "BagBottom$Thing" yX4_feels yX4_feels ∈ GT := GT_of (i := 311) (by decide +kernel) (by decide +kernel)
theorem cd_X4_feels : Cond.code yX4_feels cX4_feels 1 (some .int) ∈ GT := GT_of (i := 312) (by decide +kernel) (by decide +kernel)
theorem ml_X4_24 : Cond.methodLink "BagBottom$Thing" 24 yJ9_max_7cf53 ∈ GT := GT_of (i := 313) (by decide +kernel) (by decide +kernel)
theorem ml_L_23 : Cond.methodLink "BagBottomLaw" 23 yX7_become ∈ GT := GT_of (i := 314) (by decide +kernel) (by decide +kernel)
theorem im_X7_become : Cond.instanceMethod yX7_become ∈ GT := GT_of (i := 315) (by decide +kernel) (by decide +kernel)
theorem se_X7_become : Cond.selects "BagBottom" yX7_become yX7_become ∈ GT := GT_of (i := 316) (by decide +kernel) (by decide +kernel)
theorem cd_X7_become : Cond.code yX7_become cX7_become 5 (some .int) ∈ GT := GT_of (i := 317) (by decide +kernel) (by decide +kernel)
theorem ml_L_27 : Cond.methodLink "BagBottomLaw" 27 yX7_as ∈ GT := GT_of (i := 318) (by decide +kernel) (by decide +kernel)
theorem im_X7_as : Cond.instanceMethod yX7_as ∈ GT := GT_of (i := 319) (by decide +kernel) (by decide +kernel)
theorem se_X7_as : Cond.selects "BagBottom" yX7_as yX7_as ∈ GT := GT_of (i := 320) (by decide +kernel) (by decide +kernel)
theorem cd_X7_as : Cond.code yX7_as cX7_as 3 (some .int) ∈ GT := GT_of (i := 321) (by decide +kernel) (by decide +kernel)
theorem ml_X7_99 : Cond.methodLink "BagBottom" 99 yX4_isOf ∈ GT := GT_of (i := 322) (by decide +kernel) (by decide +kernel)
theorem im_X4_isOf : Cond.instanceMethod yX4_isOf ∈ GT := GT_of (i := 323) (by decide +kernel) (by decide +kernel)
theorem se_X4_isOf : Cond.selects "BagBottom$Thing" yX4_isOf yX4_isOf ∈ GT := GT_of (i := 324) (by decide +kernel) (by decide +kernel)
theorem cd_X4_isOf : Cond.code yX4_isOf cX4_isOf 4 (some .boolean) ∈ GT := GT_of (i := 325) (by decide +kernel) (by decide +kernel)
theorem fn_X4_30 : Cond.fieldLinkNest "BagBottom$Thing" 30 "BagBottom" "KIND_ABOVE" "[I" "BagBottom" ∈ lw_tbl := LT_of (i := 326) (by decide +kernel)
theorem kc_X7_102 : Cond.constant "BagBottom" 102 (-1000000005) ∈ GT := GT_of (i := 328) (by decide +kernel) (by decide +kernel)
theorem ml_L_31 : Cond.methodLink "BagBottomLaw" 31 yX7_weigh ∈ GT := GT_of (i := 329) (by decide +kernel) (by decide +kernel)
theorem im_X7_weigh : Cond.instanceMethod yX7_weigh ∈ GT := GT_of (i := 330) (by decide +kernel) (by decide +kernel)
theorem se_X7_weigh : Cond.selects "BagBottom" yX7_weigh yX7_weigh ∈ GT := GT_of (i := 331) (by decide +kernel) (by decide +kernel)
theorem cd_X7_weigh : Cond.code yX7_weigh cX7_weigh 4 (some .int) ∈ GT := GT_of (i := 332) (by decide +kernel) (by decide +kernel)
theorem ml_L_35 : Cond.methodLink "BagBottomLaw" 35 yX7_at ∈ GT := GT_of (i := 333) (by decide +kernel) (by decide +kernel)
theorem im_X7_at : Cond.instanceMethod yX7_at ∈ GT := GT_of (i := 334) (by decide +kernel) (by decide +kernel)
theorem se_X7_at : Cond.selects "BagBottom" yX7_at yX7_at ∈ GT := GT_of (i := 335) (by decide +kernel) (by decide +kernel)
theorem cd_X7_at : Cond.code yX7_at cX7_at 2 (some .int) ∈ GT := GT_of (i := 336) (by decide +kernel) (by decide +kernel)
theorem ml_X7_107 : Cond.methodLink "BagBottom" 107 yX1_has ∈ GT := GT_of (i := 337) (by decide +kernel) (by decide +kernel)
theorem im_X1_has : Cond.instanceMethod yX1_has ∈ GT := GT_of (i := 338) (by decide +kernel) (by decide +kernel)
theorem se_X1_has : Cond.selects "BagBottom$Row" yX1_has yX1_has ∈ GT := GT_of (i := 339) (by decide +kernel) (by decide +kernel)
theorem cd_X1_has : Cond.code yX1_has cX1_has 2 (some .boolean) ∈ GT := GT_of (i := 340) (by decide +kernel) (by decide +kernel)
theorem ml_L_40 : Cond.methodLink "BagBottomLaw" 40 yX7_leave ∈ GT := GT_of (i := 341) (by decide +kernel) (by decide +kernel)
theorem im_X7_leave : Cond.instanceMethod yX7_leave ∈ GT := GT_of (i := 342) (by decide +kernel) (by decide +kernel)
theorem se_X7_leave : Cond.selects "BagBottom" yX7_leave yX7_leave ∈ GT := GT_of (i := 343) (by decide +kernel) (by decide +kernel)
theorem cd_X7_leave : Cond.code yX7_leave cX7_leave 2 (some .int) ∈ GT := GT_of (i := 344) (by decide +kernel) (by decide +kernel)
theorem kc_X7_115 : Cond.constant "BagBottom" 115 (-1000000003) ∈ GT := GT_of (i := 345) (by decide +kernel) (by decide +kernel)
theorem ml_X7_116 : Cond.methodLink "BagBottom" 116 yX0_bringOut ∈ GT := GT_of (i := 346) (by decide +kernel) (by decide +kernel)
theorem im_X0_bringOut : Cond.instanceMethod yX0_bringOut ∈ GT := GT_of (i := 347) (by decide +kernel) (by decide +kernel)
theorem se_X0_bringOut : Cond.selects "BagBottom$Bag" yX0_bringOut yX0_bringOut ∈ GT := GT_of (i := 348) (by decide +kernel) (by decide +kernel)
theorem cd_X0_bringOut : Cond.code yX0_bringOut cX0_bringOut 2 none ∈ GT := GT_of (i := 349) (by decide +kernel) (by decide +kernel)
theorem ml_X0_73 : Cond.methodLink "BagBottom$Bag" 73 yX1_removeAt ∈ GT := GT_of (i := 350) (by decide +kernel) (by decide +kernel)
theorem im_X1_removeAt : Cond.instanceMethod yX1_removeAt ∈ GT := GT_of (i := 351) (by decide +kernel) (by decide +kernel)
theorem se_X1_removeAt : Cond.selects "BagBottom$Row" yX1_removeAt yX1_removeAt ∈ GT := GT_of (i := 352) (by decide +kernel) (by decide +kernel)
theorem cd_X1_removeAt : Cond.code yX1_removeAt cX1_removeAt 2 none ∈ GT := GT_of (i := 353) (by decide +kernel) (by decide +kernel)
theorem ml_X1_31 : Cond.methodLink "BagBottom$Row" 31 yX1_has ∈ GT := GT_of (i := 354) (by decide +kernel) (by decide +kernel)
theorem ml_L_44 : Cond.methodLink "BagBottomLaw" 44 yX7_stow ∈ GT := GT_of (i := 355) (by decide +kernel) (by decide +kernel)
theorem im_X7_stow : Cond.instanceMethod yX7_stow ∈ GT := GT_of (i := 356) (by decide +kernel) (by decide +kernel)
theorem se_X7_stow : Cond.selects "BagBottom" yX7_stow yX7_stow ∈ GT := GT_of (i := 357) (by decide +kernel) (by decide +kernel)
theorem cd_X7_stow : Cond.code yX7_stow cX7_stow 2 (some .int) ∈ GT := GT_of (i := 358) (by decide +kernel) (by decide +kernel)
theorem ml_X7_123 : Cond.methodLink "BagBottom" 123 yX1_addOnTop ∈ GT := GT_of (i := 359) (by decide +kernel) (by decide +kernel)
theorem ml_L_48 : Cond.methodLink "BagBottomLaw" 48 yX7_zip ∈ GT := GT_of (i := 360) (by decide +kernel) (by decide +kernel)
theorem im_X7_zip : Cond.instanceMethod yX7_zip ∈ GT := GT_of (i := 361) (by decide +kernel) (by decide +kernel)
theorem se_X7_zip : Cond.selects "BagBottom" yX7_zip yX7_zip ∈ GT := GT_of (i := 362) (by decide +kernel) (by decide +kernel)
theorem cd_X7_zip : Cond.code yX7_zip cX7_zip 2 (some .int) ∈ GT := GT_of (i := 363) (by decide +kernel) (by decide +kernel)
theorem ml_X7_126 : Cond.methodLink "BagBottom" 126 yX0_changePocket ∈ GT := GT_of (i := 364) (by decide +kernel) (by decide +kernel)
theorem im_X0_changePocket : Cond.instanceMethod yX0_changePocket ∈ GT := GT_of (i := 365) (by decide +kernel) (by decide +kernel)
theorem se_X0_changePocket : Cond.selects "BagBottom$Bag" yX0_changePocket yX0_changePocket ∈ GT := GT_of (i := 366) (by decide +kernel) (by decide +kernel)
theorem cd_X0_changePocket : Cond.code yX0_changePocket cX0_changePocket 3 (some .int) ∈ GT := GT_of (i := 367) (by decide +kernel) (by decide +kernel)
theorem ml_L_54 : Cond.methodLink "BagBottomLaw" 54 yX7_feed ∈ GT := GT_of (i := 368) (by decide +kernel) (by decide +kernel)
theorem im_X7_feed : Cond.instanceMethod yX7_feed ∈ GT := GT_of (i := 369) (by decide +kernel) (by decide +kernel)
theorem se_X7_feed : Cond.selects "BagBottom" yX7_feed yX7_feed ∈ GT := GT_of (i := 370) (by decide +kernel) (by decide +kernel)
theorem cd_X7_feed : Cond.code yX7_feed cX7_feed 5 (some .int) ∈ GT := GT_of (i := 371) (by decide +kernel) (by decide +kernel)
theorem kl_X7_132 : Cond.constantLong "BagBottom" 132 (255) ∈ GT := GT_of (i := 372) (by decide +kernel) (by decide +kernel)
theorem ml_X7_134 : Cond.methodLink "BagBottom" 134 yX1_add ∈ GT := GT_of (i := 373) (by decide +kernel) (by decide +kernel)
theorem im_X1_add : Cond.instanceMethod yX1_add ∈ GT := GT_of (i := 374) (by decide +kernel) (by decide +kernel)
theorem se_X1_add : Cond.selects "BagBottom$Row" yX1_add yX1_add ∈ GT := GT_of (i := 375) (by decide +kernel) (by decide +kernel)
theorem cd_X1_add : Cond.code yX1_add cX1_add 2 none ∈ GT := GT_of (i := 376) (by decide +kernel) (by decide +kernel)
theorem ml_L_59 : Cond.methodLink "BagBottomLaw" 59 yX7_text ∈ GT := GT_of (i := 377) (by decide +kernel) (by decide +kernel)
theorem im_X7_text : Cond.instanceMethod yX7_text ∈ GT := GT_of (i := 378) (by decide +kernel) (by decide +kernel)
theorem se_X7_text : Cond.selects "BagBottom" yX7_text yX7_text ∈ GT := GT_of (i := 379) (by decide +kernel) (by decide +kernel)
theorem cd_X7_text : Cond.code yX7_text cX7_text 3 (some .int) ∈ GT := GT_of (i := 380) (by decide +kernel) (by decide +kernel)
theorem ml_X7_137 : Cond.methodLink "BagBottom" 137 yX7_isUse ∈ GT := GT_of (i := 381) (by decide +kernel) (by decide +kernel)
theorem sm_X7_isUse : Cond.static yX7_isUse ∈ GT := GT_of (i := 382) (by decide +kernel) (by decide +kernel)
theorem cd_X7_isUse : Cond.code yX7_isUse cX7_isUse 1 (some .boolean) ∈ GT := GT_of (i := 383) (by decide +kernel) (by decide +kernel)
theorem ml_X7_148 : Cond.methodLink "BagBottom" 148 yX3_read ∈ GT := GT_of (i := 386) (by decide +kernel) (by decide +kernel)
theorem im_X3_read : Cond.instanceMethod yX3_read ∈ GT := GT_of (i := 387) (by decide +kernel) (by decide +kernel)
theorem se_X3_read : Cond.selects "BagBottom$Text" yX3_read yX3_read ∈ GT := GT_of (i := 388) (by decide +kernel) (by decide +kernel)
theorem cd_X3_read : Cond.code yX3_read cX3_read 3 (some .int) ∈ GT := GT_of (i := 389) (by decide +kernel) (by decide +kernel)
theorem ml_X3_43 : Cond.methodLink "BagBottom$Text" 43 yX3_reads ∈ GT := GT_of (i := 390) (by decide +kernel) (by decide +kernel)
theorem im_X3_reads : Cond.instanceMethod yX3_reads ∈ GT := GT_of (i := 392) (by decide +kernel) (by decide +kernel)
theorem cd_X3_reads : Cond.code yX3_reads cX3_reads 5 (some .boolean) ∈ GT := GT_of (i := 393) (by decide +kernel) (by decide +kernel)
theorem ml_X3_51 : Cond.methodLink "BagBottom$Text" 51 yX3_readsSingle ∈ GT := GT_of (i := 394) (by decide +kernel) (by decide +kernel)
theorem im_X3_readsSingle : Cond.instanceMethod yX3_readsSingle ∈ GT := GT_of (i := 396) (by decide +kernel) (by decide +kernel)
theorem cd_X3_readsSingle : Cond.code yX3_readsSingle cX3_readsSingle 4 (some .boolean) ∈ GT := GT_of (i := 397) (by decide +kernel) (by decide +kernel)
theorem ml_X3_59 : Cond.methodLink "BagBottom$Text" 59 yX3_standsIn ∈ GT := GT_of (i := 399) (by decide +kernel) (by decide +kernel)
theorem im_X3_standsIn : Cond.instanceMethod yX3_standsIn ∈ GT := GT_of (i := 401) (by decide +kernel) (by decide +kernel)
theorem cd_X3_standsIn : Cond.code yX3_standsIn cX3_standsIn 3 (some .boolean) ∈ GT := GT_of (i := 402) (by decide +kernel) (by decide +kernel)
theorem ml_X3_63 : Cond.methodLink "BagBottom$Text" 63 yX3_here ∈ GT := GT_of (i := 403) (by decide +kernel) (by decide +kernel)
theorem im_X3_here : Cond.instanceMethod yX3_here ∈ GT := GT_of (i := 405) (by decide +kernel) (by decide +kernel)
theorem cd_X3_here : Cond.code yX3_here cX3_here 1 (some .int) ∈ GT := GT_of (i := 406) (by decide +kernel) (by decide +kernel)
theorem ml_X3_93 : Cond.methodLink "BagBottom$Text" 93 yX1_has ∈ GT := GT_of (i := 407) (by decide +kernel) (by decide +kernel)
theorem ml_X3_75 : Cond.methodLink "BagBottom$Text" 75 yJ0_indexOf_0f7a4 ∈ GT := GT_of (i := 408) (by decide +kernel) (by decide +kernel)
theorem im_J0_indexOf_0f7a4 : Cond.instanceMethod yJ0_indexOf_0f7a4 ∈ GT := GT_of (i := 409) (by decide +kernel) (by decide +kernel)
theorem se_J0_indexOf_0f7a4 : Cond.selects "java/lang/String" yJ0_indexOf_0f7a4 yJ0_indexOf_0f7a4 ∈ GT := GT_of (i := 410) (by decide +kernel) (by decide +kernel)
theorem cd_J0_indexOf_0f7a4 : Cond.code yJ0_indexOf_0f7a4 cJ0_indexOf_0f7a4 2 (some .int) ∈ GT := GT_of (i := 411) (by decide +kernel) (by decide +kernel)
theorem ml_J0_633 : Cond.methodLink "java/lang/String" 633 yJ0_indexOf_7cf53 ∈ GT := GT_of (i := 412) (by decide +kernel) (by decide +kernel)
theorem im_J0_indexOf_7cf53 : Cond.instanceMethod yJ0_indexOf_7cf53 ∈ GT := GT_of (i := 413) (by decide +kernel) (by decide +kernel)
theorem se_J0_indexOf_7cf53 : Cond.selects "java/lang/String" yJ0_indexOf_7cf53 yJ0_indexOf_7cf53 ∈ GT := GT_of (i := 414) (by decide +kernel) (by decide +kernel)
theorem cd_J0_indexOf_7cf53 : Cond.code yJ0_indexOf_7cf53 cJ0_indexOf_7cf53 3 (some .int) ∈ GT := GT_of (i := 415) (by decide +kernel) (by decide +kernel)
theorem ml_J0_492 : Cond.methodLink "java/lang/String" 492 yJ0_isLatin1_aae02 ∈ GT := GT_of (i := 416) (by decide +kernel) (by decide +kernel)
theorem im_J0_isLatin1_aae02 : Cond.instanceMethod yJ0_isLatin1_aae02 ∈ GT := GT_of (i := 417) (by decide +kernel) (by decide +kernel)
theorem se_J0_isLatin1_aae02 : Cond.selects "java/lang/String" yJ0_isLatin1_aae02 yJ0_isLatin1_aae02 ∈ GT := GT_of (i := 418) (by decide +kernel) (by decide +kernel)
theorem cd_J0_isLatin1_aae02 : Cond.code yJ0_isLatin1_aae02 cJ0_isLatin1_aae02 1 (some .boolean) ∈ GT := GT_of (i := 419) (by decide +kernel) (by decide +kernel)
theorem fl_J0_38 : Cond.fieldLink "java/lang/String" 38 "java/lang/String" "COMPACT_STRINGS" "Z" ∈ GT := GT_of (i := 420) (by decide +kernel) (by decide +kernel)
theorem ml_J0_505 : Cond.methodLink "java/lang/String" 505 yJ0_length_8abf5 ∈ GT := GT_of (i := 422) (by decide +kernel) (by decide +kernel)
theorem im_J0_length_8abf5 : Cond.instanceMethod yJ0_length_8abf5 ∈ GT := GT_of (i := 423) (by decide +kernel) (by decide +kernel)
theorem se_J0_length_8abf5 : Cond.selects "java/lang/String" yJ0_length_8abf5 yJ0_length_8abf5 ∈ GT := GT_of (i := 424) (by decide +kernel) (by decide +kernel)
theorem cd_J0_length_8abf5 : Cond.code yJ0_length_8abf5 cJ0_length_8abf5 1 (some .int) ∈ GT := GT_of (i := 425) (by decide +kernel) (by decide +kernel)
theorem ml_J0_335 : Cond.methodLink "java/lang/String" 335 yJ0_coder_7d493 ∈ GT := GT_of (i := 426) (by decide +kernel) (by decide +kernel)
theorem im_J0_coder_7d493 : Cond.instanceMethod yJ0_coder_7d493 ∈ GT := GT_of (i := 427) (by decide +kernel) (by decide +kernel)
theorem se_J0_coder_7d493 : Cond.selects "java/lang/String" yJ0_coder_7d493 yJ0_coder_7d493 ∈ GT := GT_of (i := 428) (by decide +kernel) (by decide +kernel)
theorem cd_J0_coder_7d493 : Cond.code yJ0_coder_7d493 cJ0_coder_7d493 1 (some .byte) ∈ GT := GT_of (i := 429) (by decide +kernel) (by decide +kernel)
theorem ml_J0_637 : Cond.methodLink "java/lang/String" 637 yJ1_indexOf_4cfef ∈ GT := GT_of (i := 430) (by decide +kernel) (by decide +kernel)
theorem sm_J1_indexOf_4cfef : Cond.static yJ1_indexOf_4cfef ∈ GT := GT_of (i := 431) (by decide +kernel) (by decide +kernel)
theorem cd_J1_indexOf_4cfef : Cond.code yJ1_indexOf_4cfef cJ1_indexOf_4cfef 4 (some .int) ∈ GT := GT_of (i := 432) (by decide +kernel) (by decide +kernel)
theorem ml_J1_88 : Cond.methodLink "java/lang/StringLatin1" 88 yJ1_canEncode_9a6ad ∈ GT := GT_of (i := 433) (by decide +kernel) (by decide +kernel)
theorem sm_J1_canEncode_9a6ad : Cond.static yJ1_canEncode_9a6ad ∈ GT := GT_of (i := 434) (by decide +kernel) (by decide +kernel)
theorem cd_J1_canEncode_9a6ad : Cond.code yJ1_canEncode_9a6ad cJ1_canEncode_9a6ad 1 (some .boolean) ∈ GT := GT_of (i := 435) (by decide +kernel) (by decide +kernel)
theorem ml_J1_92 : Cond.methodLink "java/lang/StringLatin1" 92 yJ9_max_7cf53 ∈ GT := GT_of (i := 436) (by decide +kernel) (by decide +kernel)
theorem ml_J1_38 : Cond.methodLink "java/lang/StringLatin1" 38 yJ9_min_7cf53 ∈ GT := GT_of (i := 437) (by decide +kernel) (by decide +kernel)
theorem sm_J9_min_7cf53 : Cond.static yJ9_min_7cf53 ∈ GT := GT_of (i := 438) (by decide +kernel) (by decide +kernel)
theorem cd_J9_min_7cf53 : Cond.code yJ9_min_7cf53 cJ9_min_7cf53 2 (some .int) ∈ GT := GT_of (i := 439) (by decide +kernel) (by decide +kernel)
theorem ml_J1_95 : Cond.methodLink "java/lang/StringLatin1" 95 yJ1_indexOfChar_4cfef ∈ GT := GT_of (i := 440) (by decide +kernel) (by decide +kernel)
theorem sm_J1_indexOfChar_4cfef : Cond.static yJ1_indexOfChar_4cfef ∈ GT := GT_of (i := 441) (by decide +kernel) (by decide +kernel)
theorem cd_J1_indexOfChar_4cfef : Cond.code yJ1_indexOfChar_4cfef cJ1_indexOfChar_4cfef 6 (some .int) ∈ GT := GT_of (i := 442) (by decide +kernel) (by decide +kernel)
theorem ml_J0_640 : Cond.methodLink "java/lang/String" 640 yJ2_indexOf_4cfef ∈ GT := GT_of (i := 443) (by decide +kernel) (by decide +kernel)
theorem sm_J2_indexOf_4cfef : Cond.static yJ2_indexOf_4cfef ∈ GT := GT_of (i := 444) (by decide +kernel) (by decide +kernel)
theorem cd_J2_indexOf_4cfef : Cond.code yJ2_indexOf_4cfef cJ2_indexOf_4cfef 4 (some .int) ∈ GT := GT_of (i := 445) (by decide +kernel) (by decide +kernel)
theorem ml_J2_224 : Cond.methodLink "java/lang/StringUTF16" 224 yJ9_max_7cf53 ∈ GT := GT_of (i := 446) (by decide +kernel) (by decide +kernel)
theorem ml_J2_183 : Cond.methodLink "java/lang/StringUTF16" 183 yJ9_min_7cf53 ∈ GT := GT_of (i := 447) (by decide +kernel) (by decide +kernel)
theorem kc_J2_227 : Cond.constant "java/lang/StringUTF16" 227 (65536) ∈ GT := GT_of (i := 448) (by decide +kernel) (by decide +kernel)
theorem ml_J2_228 : Cond.methodLink "java/lang/StringUTF16" 228 yJ2_indexOfChar_4cfef ∈ GT := GT_of (i := 449) (by decide +kernel) (by decide +kernel)
theorem sm_J2_indexOfChar_4cfef : Cond.static yJ2_indexOfChar_4cfef ∈ GT := GT_of (i := 450) (by decide +kernel) (by decide +kernel)
theorem cd_J2_indexOfChar_4cfef : Cond.code yJ2_indexOfChar_4cfef cJ2_indexOfChar_4cfef 4 (some .int) ∈ GT := GT_of (i := 451) (by decide +kernel) (by decide +kernel)
theorem ml_J2_96 : Cond.methodLink "java/lang/StringUTF16" 96 yJ2_checkBoundsBeginEnd_d044e ∈ GT := GT_of (i := 452) (by decide +kernel) (by decide +kernel)
theorem sm_J2_checkBoundsBeginEnd_d044e : Cond.static yJ2_checkBoundsBeginEnd_d044e ∈ GT := GT_of (i := 453) (by decide +kernel) (by decide +kernel)
theorem cd_J2_checkBoundsBeginEnd_d044e : Cond.code yJ2_checkBoundsBeginEnd_d044e cJ2_checkBoundsBeginEnd_d044e 3 none ∈ GT := GT_of (i := 454) (by decide +kernel) (by decide +kernel)
theorem ml_J2_48 : Cond.methodLink "java/lang/StringUTF16" 48 yJ2_length_9d52b ∈ GT := GT_of (i := 455) (by decide +kernel) (by decide +kernel)
theorem sm_J2_length_9d52b : Cond.static yJ2_length_9d52b ∈ GT := GT_of (i := 456) (by decide +kernel) (by decide +kernel)
theorem cd_J2_length_9d52b : Cond.code yJ2_length_9d52b cJ2_length_9d52b 1 (some .int) ∈ GT := GT_of (i := 457) (by decide +kernel) (by decide +kernel)
theorem ml_J2_241 : Cond.methodLink "java/lang/StringUTF16" 241 yJ0_checkBoundsBeginEnd_23922 ∈ GT := GT_of (i := 458) (by decide +kernel) (by decide +kernel)
theorem sm_J0_checkBoundsBeginEnd_23922 : Cond.static yJ0_checkBoundsBeginEnd_23922 ∈ GT := GT_of (i := 459) (by decide +kernel) (by decide +kernel)
theorem cd_J0_checkBoundsBeginEnd_23922 : Cond.code yJ0_checkBoundsBeginEnd_23922 cJ0_checkBoundsBeginEnd_23922 3 none ∈ GT := GT_of (i := 460) (by decide +kernel) (by decide +kernel)
theorem fl_J0_1053 : Cond.fieldLink "java/lang/String" 1053 "jdk/internal/util/Preconditions" "SIOOBE_FORMATTER" "Ljava/util/function/BiFunction;" ∈ GT := GT_of (i := 461) (by decide +kernel) (by decide +kernel)
theorem ml_J0_1062 : Cond.methodLink "java/lang/String" 1062 yJ3_checkFromToIndex_8c36e ∈ GT := GT_of (i := 463) (by decide +kernel) (by decide +kernel)
theorem sm_J3_checkFromToIndex_8c36e : Cond.static yJ3_checkFromToIndex_8c36e ∈ GT := GT_of (i := 464) (by decide +kernel) (by decide +kernel)
theorem cd_J3_checkFromToIndex_8c36e : Cond.code yJ3_checkFromToIndex_8c36e cJ3_checkFromToIndex_8c36e 4 (some .int) ∈ GT := GT_of (i := 465) (by decide +kernel) (by decide +kernel)
theorem ml_J2_244 : Cond.methodLink "java/lang/StringUTF16" 244 yJ2_indexOfCharUnsafe_4cfef ∈ GT := GT_of (i := 466) (by decide +kernel) (by decide +kernel)
theorem sm_J2_indexOfCharUnsafe_4cfef : Cond.static yJ2_indexOfCharUnsafe_4cfef ∈ GT := GT_of (i := 467) (by decide +kernel) (by decide +kernel)
theorem cd_J2_indexOfCharUnsafe_4cfef : Cond.code yJ2_indexOfCharUnsafe_4cfef cJ2_indexOfCharUnsafe_4cfef 5 (some .int) ∈ GT := GT_of (i := 468) (by decide +kernel) (by decide +kernel)
theorem ml_J2_71 : Cond.methodLink "java/lang/StringUTF16" 71 yJ2_getChar_3b067 ∈ GT := GT_of (i := 469) (by decide +kernel) (by decide +kernel)
theorem sm_J2_getChar_3b067 : Cond.static yJ2_getChar_3b067 ∈ GT := GT_of (i := 470) (by decide +kernel) (by decide +kernel)
theorem cd_J2_getChar_3b067 : Cond.code yJ2_getChar_3b067 cJ2_getChar_3b067 2 (some .char) ∈ GT := GT_of (i := 471) (by decide +kernel) (by decide +kernel)
theorem fl_J2_44 : Cond.fieldLink "java/lang/StringUTF16" 44 "java/lang/StringUTF16" "$assertionsDisabled" "Z" ∈ GT := GT_of (i := 472) (by decide +kernel) (by decide +kernel)
theorem fl_J2_59 : Cond.fieldLink "java/lang/StringUTF16" 59 "java/lang/StringUTF16" "HI_BYTE_SHIFT" "I" ∈ GT := GT_of (i := 474) (by decide +kernel) (by decide +kernel)
theorem fl_J2_63 : Cond.fieldLink "java/lang/StringUTF16" 63 "java/lang/StringUTF16" "LO_BYTE_SHIFT" "I" ∈ GT := GT_of (i := 476) (by decide +kernel) (by decide +kernel)
theorem ml_J2_232 : Cond.methodLink "java/lang/StringUTF16" 232 yJ2_indexOfSupplementary_4cfef ∈ GT := GT_of (i := 478) (by decide +kernel) (by decide +kernel)
theorem sm_J2_indexOfSupplementary_4cfef : Cond.static yJ2_indexOfSupplementary_4cfef ∈ GT := GT_of (i := 479) (by decide +kernel) (by decide +kernel)
theorem cd_J2_indexOfSupplementary_4cfef : Cond.code yJ2_indexOfSupplementary_4cfef cJ2_indexOfSupplementary_4cfef 7 (some .int) ∈ GT := GT_of (i := 480) (by decide +kernel) (by decide +kernel)
theorem ml_J2_164 : Cond.methodLink "java/lang/StringUTF16" 164 yJ11_isValidCodePoint_9a6ad ∈ GT := GT_of (i := 481) (by decide +kernel) (by decide +kernel)
theorem sm_J11_isValidCodePoint_9a6ad : Cond.static yJ11_isValidCodePoint_9a6ad ∈ GT := GT_of (i := 482) (by decide +kernel) (by decide +kernel)
theorem cd_J11_isValidCodePoint_9a6ad : Cond.code yJ11_isValidCodePoint_9a6ad cJ11_isValidCodePoint_9a6ad 2 (some .boolean) ∈ GT := GT_of (i := 483) (by decide +kernel) (by decide +kernel)
theorem ml_J2_157 : Cond.methodLink "java/lang/StringUTF16" 157 yJ11_highSurrogate_5068e ∈ GT := GT_of (i := 484) (by decide +kernel) (by decide +kernel)
theorem sm_J11_highSurrogate_5068e : Cond.static yJ11_highSurrogate_5068e ∈ GT := GT_of (i := 485) (by decide +kernel) (by decide +kernel)
theorem cd_J11_highSurrogate_5068e : Cond.code yJ11_highSurrogate_5068e cJ11_highSurrogate_5068e 1 (some .char) ∈ GT := GT_of (i := 486) (by decide +kernel) (by decide +kernel)
theorem kc_J11_110 : Cond.constant "java/lang/Character" 110 (55232) ∈ GT := GT_of (i := 487) (by decide +kernel) (by decide +kernel)
theorem ml_J2_161 : Cond.methodLink "java/lang/StringUTF16" 161 yJ11_lowSurrogate_5068e ∈ GT := GT_of (i := 488) (by decide +kernel) (by decide +kernel)
theorem sm_J11_lowSurrogate_5068e : Cond.static yJ11_lowSurrogate_5068e ∈ GT := GT_of (i := 489) (by decide +kernel) (by decide +kernel)
theorem cd_J11_lowSurrogate_5068e : Cond.code yJ11_lowSurrogate_5068e cJ11_lowSurrogate_5068e 1 (some .char) ∈ GT := GT_of (i := 490) (by decide +kernel) (by decide +kernel)
theorem kc_J11_76 : Cond.constant "java/lang/Character" 76 (56320) ∈ GT := GT_of (i := 491) (by decide +kernel) (by decide +kernel)
theorem ml_X3_72 : Cond.methodLink "BagBottom$Text" 72 yX3_readNumber ∈ GT := GT_of (i := 492) (by decide +kernel) (by decide +kernel)
theorem im_X3_readNumber : Cond.instanceMethod yX3_readNumber ∈ GT := GT_of (i := 494) (by decide +kernel) (by decide +kernel)
theorem cd_X3_readNumber : Cond.code yX3_readNumber cX3_readNumber 3 none ∈ GT := GT_of (i := 495) (by decide +kernel) (by decide +kernel)
theorem ml_X3_67 : Cond.methodLink "BagBottom$Text" 67 yX1_add ∈ GT := GT_of (i := 496) (by decide +kernel) (by decide +kernel)
theorem ml_X3_55 : Cond.methodLink "BagBottom$Text" 55 yX3_signsOf ∈ GT := GT_of (i := 498) (by decide +kernel) (by decide +kernel)
theorem sm_X3_signsOf : Cond.static yX3_signsOf ∈ GT := GT_of (i := 499) (by decide +kernel) (by decide +kernel)
theorem cd_X3_signsOf : Cond.code yX3_signsOf cX3_signsOf 1 (some (.object "java/lang/String")) ∈ GT := GT_of (i := 500) (by decide +kernel) (by decide +kernel)
theorem ml_X3_47 : Cond.methodLink "BagBottom$Text" 47 yX1_copy ∈ GT := GT_of (i := 506) (by decide +kernel) (by decide +kernel)
theorem im_X1_copy : Cond.instanceMethod yX1_copy ∈ GT := GT_of (i := 507) (by decide +kernel) (by decide +kernel)
theorem se_X1_copy : Cond.selects "BagBottom$Row" yX1_copy yX1_copy ∈ GT := GT_of (i := 508) (by decide +kernel) (by decide +kernel)
theorem cd_X1_copy : Cond.code yX1_copy cX1_copy 3 none ∈ GT := GT_of (i := 509) (by decide +kernel) (by decide +kernel)
theorem ml_X1_43 : Cond.methodLink "BagBottom$Row" 43 yJ9_min_7cf53 ∈ GT := GT_of (i := 510) (by decide +kernel) (by decide +kernel)
theorem ml_L_63 : Cond.methodLink "BagBottomLaw" 63 yX7_untell ∈ GT := GT_of (i := 511) (by decide +kernel) (by decide +kernel)
theorem im_X7_untell : Cond.instanceMethod yX7_untell ∈ GT := GT_of (i := 512) (by decide +kernel) (by decide +kernel)
theorem se_X7_untell : Cond.selects "BagBottom" yX7_untell yX7_untell ∈ GT := GT_of (i := 513) (by decide +kernel) (by decide +kernel)
theorem cd_X7_untell : Cond.code yX7_untell cX7_untell 3 (some .int) ∈ GT := GT_of (i := 514) (by decide +kernel) (by decide +kernel)
theorem ml_X7_154 : Cond.methodLink "BagBottom" 154 yX3_isThere ∈ GT := GT_of (i := 515) (by decide +kernel) (by decide +kernel)
theorem im_X3_isThere : Cond.instanceMethod yX3_isThere ∈ GT := GT_of (i := 516) (by decide +kernel) (by decide +kernel)
theorem se_X3_isThere : Cond.selects "BagBottom$Text" yX3_isThere yX3_isThere ∈ GT := GT_of (i := 517) (by decide +kernel) (by decide +kernel)
theorem cd_X3_isThere : Cond.code yX3_isThere cX3_isThere 1 (some .boolean) ∈ GT := GT_of (i := 518) (by decide +kernel) (by decide +kernel)
theorem ml_L_67 : Cond.methodLink "BagBottomLaw" 67 yX7_law ∈ GT := GT_of (i := 519) (by decide +kernel) (by decide +kernel)
theorem im_X7_law : Cond.instanceMethod yX7_law ∈ GT := GT_of (i := 520) (by decide +kernel) (by decide +kernel)
theorem se_X7_law : Cond.selects "BagBottom" yX7_law yX7_law ∈ GT := GT_of (i := 521) (by decide +kernel) (by decide +kernel)
theorem cd_X7_law : Cond.code yX7_law cX7_law 5 (some .int) ∈ GT := GT_of (i := 522) (by decide +kernel) (by decide +kernel)
theorem ml_X7_161 : Cond.methodLink "BagBottom" 161 yX0_gives ∈ GT := GT_of (i := 523) (by decide +kernel) (by decide +kernel)
theorem im_X0_gives : Cond.instanceMethod yX0_gives ∈ GT := GT_of (i := 524) (by decide +kernel) (by decide +kernel)
theorem se_X0_gives : Cond.selects "BagBottom$Bag" yX0_gives yX0_gives ∈ GT := GT_of (i := 525) (by decide +kernel) (by decide +kernel)
theorem cd_X0_gives : Cond.code yX0_gives cX0_gives 7 (some .int) ∈ GT := GT_of (i := 526) (by decide +kernel) (by decide +kernel)
theorem ml_X0_86 : Cond.methodLink "BagBottom$Bag" 86 yX3_isThere ∈ GT := GT_of (i := 527) (by decide +kernel) (by decide +kernel)
theorem ml_X0_90 : Cond.methodLink "BagBottom$Bag" 90 yX3_value ∈ GT := GT_of (i := 528) (by decide +kernel) (by decide +kernel)
theorem im_X3_value : Cond.instanceMethod yX3_value ∈ GT := GT_of (i := 529) (by decide +kernel) (by decide +kernel)
theorem se_X3_value : Cond.selects "BagBottom$Text" yX3_value yX3_value ∈ GT := GT_of (i := 530) (by decide +kernel) (by decide +kernel)
theorem cd_X3_value : Cond.code yX3_value cX3_value 7 (some .int) ∈ GT := GT_of (i := 531) (by decide +kernel) (by decide +kernel)
theorem ml_X3_99 : Cond.methodLink "BagBottom$Text" 99 yX3_joined ∈ GT := GT_of (i := 532) (by decide +kernel) (by decide +kernel)
theorem sm_X3_joined : Cond.static yX3_joined ∈ GT := GT_of (i := 533) (by decide +kernel) (by decide +kernel)
theorem cd_X3_joined : Cond.code yX3_joined cX3_joined 3 (some .int) ∈ GT := GT_of (i := 534) (by decide +kernel) (by decide +kernel)
theorem ml_X0_94 : Cond.methodLink "BagBottom$Bag" 94 yJ9_min_7cf53 ∈ GT := GT_of (i := 535) (by decide +kernel) (by decide +kernel)
theorem ml_X0_100 : Cond.methodLink "BagBottom$Bag" 100 yJ9_max_7cf53 ∈ GT := GT_of (i := 536) (by decide +kernel) (by decide +kernel)
theorem ml_L_72 : Cond.methodLink "BagBottomLaw" 72 yX7_seconds ∈ GT := GT_of (i := 537) (by decide +kernel) (by decide +kernel)
theorem im_X7_seconds : Cond.instanceMethod yX7_seconds ∈ GT := GT_of (i := 538) (by decide +kernel) (by decide +kernel)
theorem se_X7_seconds : Cond.selects "BagBottom" yX7_seconds yX7_seconds ∈ GT := GT_of (i := 539) (by decide +kernel) (by decide +kernel)
theorem cd_X7_seconds : Cond.code yX7_seconds cX7_seconds 3 (some .int) ∈ GT := GT_of (i := 540) (by decide +kernel) (by decide +kernel)
theorem ml_X7_165 : Cond.methodLink "BagBottom" 165 yX7_isWay ∈ GT := GT_of (i := 541) (by decide +kernel) (by decide +kernel)
theorem sm_X7_isWay : Cond.static yX7_isWay ∈ GT := GT_of (i := 542) (by decide +kernel) (by decide +kernel)
theorem cd_X7_isWay : Cond.code yX7_isWay cX7_isWay 1 (some .boolean) ∈ GT := GT_of (i := 543) (by decide +kernel) (by decide +kernel)
theorem ml_X7_168 : Cond.methodLink "BagBottom" 168 yX0_time ∈ GT := GT_of (i := 544) (by decide +kernel) (by decide +kernel)
theorem im_X0_time : Cond.instanceMethod yX0_time ∈ GT := GT_of (i := 545) (by decide +kernel) (by decide +kernel)
theorem se_X0_time : Cond.selects "BagBottom$Bag" yX0_time yX0_time ∈ GT := GT_of (i := 546) (by decide +kernel) (by decide +kernel)
theorem cd_X0_time : Cond.code yX0_time cX0_time 7 (some .int) ∈ GT := GT_of (i := 547) (by decide +kernel) (by decide +kernel)
theorem ml_X0_107 : Cond.methodLink "BagBottom$Bag" 107 yX4_feels ∈ GT := GT_of (i := 548) (by decide +kernel) (by decide +kernel)
theorem ml_X0_103 : Cond.methodLink "BagBottom$Bag" 103 yX0_gives ∈ GT := GT_of (i := 549) (by decide +kernel) (by decide +kernel)
theorem ml_L_76 : Cond.methodLink "BagBottomLaw" 76 yX7_best ∈ GT := GT_of (i := 550) (by decide +kernel) (by decide +kernel)
theorem im_X7_best : Cond.instanceMethod yX7_best ∈ GT := GT_of (i := 551) (by decide +kernel) (by decide +kernel)
theorem se_X7_best : Cond.selects "BagBottom" yX7_best yX7_best ∈ GT := GT_of (i := 552) (by decide +kernel) (by decide +kernel)
theorem cd_X7_best : Cond.code yX7_best cX7_best 4 (some .int) ∈ GT := GT_of (i := 553) (by decide +kernel) (by decide +kernel)
theorem ml_X7_172 : Cond.methodLink "BagBottom" 172 yX0_bestWay ∈ GT := GT_of (i := 554) (by decide +kernel) (by decide +kernel)
theorem im_X0_bestWay : Cond.instanceMethod yX0_bestWay ∈ GT := GT_of (i := 555) (by decide +kernel) (by decide +kernel)
theorem se_X0_bestWay : Cond.selects "BagBottom$Bag" yX0_bestWay yX0_bestWay ∈ GT := GT_of (i := 556) (by decide +kernel) (by decide +kernel)
theorem cd_X0_bestWay : Cond.code yX0_bestWay cX0_bestWay 6 (some .int) ∈ GT := GT_of (i := 557) (by decide +kernel) (by decide +kernel)
theorem ml_X0_111 : Cond.methodLink "BagBottom$Bag" 111 yX0_time ∈ GT := GT_of (i := 558) (by decide +kernel) (by decide +kernel)
theorem ml_L_80 : Cond.methodLink "BagBottomLaw" 80 yX7_takes ∈ GT := GT_of (i := 559) (by decide +kernel) (by decide +kernel)
theorem im_X7_takes : Cond.instanceMethod yX7_takes ∈ GT := GT_of (i := 560) (by decide +kernel) (by decide +kernel)
theorem se_X7_takes : Cond.selects "BagBottom" yX7_takes yX7_takes ∈ GT := GT_of (i := 561) (by decide +kernel) (by decide +kernel)
theorem cd_X7_takes : Cond.code yX7_takes cX7_takes 3 (some .int) ∈ GT := GT_of (i := 562) (by decide +kernel) (by decide +kernel)
theorem ml_X7_175 : Cond.methodLink "BagBottom" 175 yX0_take ∈ GT := GT_of (i := 563) (by decide +kernel) (by decide +kernel)
theorem im_X0_take : Cond.instanceMethod yX0_take ∈ GT := GT_of (i := 564) (by decide +kernel) (by decide +kernel)
theorem se_X0_take : Cond.selects "BagBottom$Bag" yX0_take yX0_take ∈ GT := GT_of (i := 565) (by decide +kernel) (by decide +kernel)
theorem cd_X0_take : Cond.code yX0_take cX0_take 4 (some .int) ∈ GT := GT_of (i := 566) (by decide +kernel) (by decide +kernel)
theorem kc_X0_114 : Cond.constant "BagBottom$Bag" 114 (99999) ∈ GT := GT_of (i := 567) (by decide +kernel) (by decide +kernel)
theorem ml_X0_118 : Cond.methodLink "BagBottom$Bag" 118 yX1_turnOverFrom ∈ GT := GT_of (i := 568) (by decide +kernel) (by decide +kernel)
theorem im_X1_turnOverFrom : Cond.instanceMethod yX1_turnOverFrom ∈ GT := GT_of (i := 569) (by decide +kernel) (by decide +kernel)
theorem se_X1_turnOverFrom : Cond.selects "BagBottom$Row" yX1_turnOverFrom yX1_turnOverFrom ∈ GT := GT_of (i := 570) (by decide +kernel) (by decide +kernel)
theorem cd_X1_turnOverFrom : Cond.code yX1_turnOverFrom cX1_turnOverFrom 4 none ∈ GT := GT_of (i := 571) (by decide +kernel) (by decide +kernel)
theorem ml_X1_35 : Cond.methodLink "BagBottom$Row" 35 yX1_exchange ∈ GT := GT_of (i := 572) (by decide +kernel) (by decide +kernel)
theorem im_X1_exchange : Cond.instanceMethod yX1_exchange ∈ GT := GT_of (i := 573) (by decide +kernel) (by decide +kernel)
theorem se_X1_exchange : Cond.selects "BagBottom$Row" yX1_exchange yX1_exchange ∈ GT := GT_of (i := 574) (by decide +kernel) (by decide +kernel)
theorem cd_X1_exchange : Cond.code yX1_exchange cX1_exchange 4 none ∈ GT := GT_of (i := 575) (by decide +kernel) (by decide +kernel)
theorem ml_L_84 : Cond.methodLink "BagBottomLaw" 84 yX7_walks ∈ GT := GT_of (i := 576) (by decide +kernel) (by decide +kernel)
theorem im_X7_walks : Cond.instanceMethod yX7_walks ∈ GT := GT_of (i := 577) (by decide +kernel) (by decide +kernel)
theorem se_X7_walks : Cond.selects "BagBottom" yX7_walks yX7_walks ∈ GT := GT_of (i := 578) (by decide +kernel) (by decide +kernel)
theorem cd_X7_walks : Cond.code yX7_walks cX7_walks 2 (some .int) ∈ GT := GT_of (i := 579) (by decide +kernel) (by decide +kernel)
theorem ml_X7_178 : Cond.methodLink "BagBottom" 178 yX0_walk ∈ GT := GT_of (i := 580) (by decide +kernel) (by decide +kernel)
theorem im_X0_walk : Cond.instanceMethod yX0_walk ∈ GT := GT_of (i := 581) (by decide +kernel) (by decide +kernel)
theorem se_X0_walk : Cond.selects "BagBottom$Bag" yX0_walk yX0_walk ∈ GT := GT_of (i := 582) (by decide +kernel) (by decide +kernel)
theorem cd_X0_walk : Cond.code yX0_walk cX0_walk 3 none ∈ GT := GT_of (i := 583) (by decide +kernel) (by decide +kernel)
theorem ml_X0_128 : Cond.methodLink "BagBottom$Bag" 128 yX0_learnSinks ∈ GT := GT_of (i := 584) (by decide +kernel) (by decide +kernel)
theorem im_X0_learnSinks : Cond.instanceMethod yX0_learnSinks ∈ GT := GT_of (i := 585) (by decide +kernel) (by decide +kernel)
theorem se_X0_learnSinks : Cond.selects "BagBottom$Bag" yX0_learnSinks yX0_learnSinks ∈ GT := GT_of (i := 586) (by decide +kernel) (by decide +kernel)
theorem cd_X0_learnSinks : Cond.code yX0_learnSinks cX0_learnSinks 3 none ∈ GT := GT_of (i := 587) (by decide +kernel) (by decide +kernel)
theorem ml_X0_121 : Cond.methodLink "BagBottom$Bag" 121 yX4_sinks ∈ GT := GT_of (i := 588) (by decide +kernel) (by decide +kernel)
theorem ml_X0_134 : Cond.methodLink "BagBottom$Bag" 134 yX0_shake ∈ GT := GT_of (i := 589) (by decide +kernel) (by decide +kernel)
theorem im_X0_shake : Cond.instanceMethod yX0_shake ∈ GT := GT_of (i := 590) (by decide +kernel) (by decide +kernel)
theorem se_X0_shake : Cond.selects "BagBottom$Bag" yX0_shake yX0_shake ∈ GT := GT_of (i := 591) (by decide +kernel) (by decide +kernel)
theorem cd_X0_shake : Cond.code yX0_shake cX0_shake 6 (some .boolean) ∈ GT := GT_of (i := 592) (by decide +kernel) (by decide +kernel)
theorem ml_X0_124 : Cond.methodLink "BagBottom$Bag" 124 yX1_exchange ∈ GT := GT_of (i := 593) (by decide +kernel) (by decide +kernel)
theorem ml_L_88 : Cond.methodLink "BagBottomLaw" 88 yX7_loose ∈ GT := GT_of (i := 594) (by decide +kernel) (by decide +kernel)
theorem im_X7_loose : Cond.instanceMethod yX7_loose ∈ GT := GT_of (i := 595) (by decide +kernel) (by decide +kernel)
theorem se_X7_loose : Cond.selects "BagBottom" yX7_loose yX7_loose ∈ GT := GT_of (i := 596) (by decide +kernel) (by decide +kernel)
theorem cd_X7_loose : Cond.code yX7_loose cX7_loose 3 (some .int) ∈ GT := GT_of (i := 597) (by decide +kernel) (by decide +kernel)
theorem ml_X7_181 : Cond.methodLink "BagBottom" 181 yX0_goByDraws ∈ GT := GT_of (i := 598) (by decide +kernel) (by decide +kernel)
theorem im_X0_goByDraws : Cond.instanceMethod yX0_goByDraws ∈ GT := GT_of (i := 599) (by decide +kernel) (by decide +kernel)
theorem se_X0_goByDraws : Cond.selects "BagBottom$Bag" yX0_goByDraws yX0_goByDraws ∈ GT := GT_of (i := 600) (by decide +kernel) (by decide +kernel)
theorem cd_X0_goByDraws : Cond.code yX0_goByDraws cX0_goByDraws 2 none ∈ GT := GT_of (i := 601) (by decide +kernel) (by decide +kernel)
theorem ml_X0_139 : Cond.methodLink "BagBottom$Bag" 139 yX0_draw ∈ GT := GT_of (i := 602) (by decide +kernel) (by decide +kernel)
theorem im_X0_draw : Cond.instanceMethod yX0_draw ∈ GT := GT_of (i := 604) (by decide +kernel) (by decide +kernel)
theorem cd_X0_draw : Cond.code yX0_draw cX0_draw 1 (some .int) ∈ GT := GT_of (i := 605) (by decide +kernel) (by decide +kernel)
theorem kc_X0_138 : Cond.constant "BagBottom$Bag" 138 (1103515245) ∈ GT := GT_of (i := 606) (by decide +kernel) (by decide +kernel)
theorem ml_X0_142 : Cond.methodLink "BagBottom$Bag" 142 yX0_whereIs ∈ GT := GT_of (i := 607) (by decide +kernel) (by decide +kernel)
theorem ml_X0_145 : Cond.methodLink "BagBottom$Bag" 145 yX0_bestWay ∈ GT := GT_of (i := 608) (by decide +kernel) (by decide +kernel)
theorem ml_X0_148 : Cond.methodLink "BagBottom$Bag" 148 yX0_take ∈ GT := GT_of (i := 609) (by decide +kernel) (by decide +kernel)
theorem ml_X0_151 : Cond.methodLink "BagBottom$Bag" 151 yX0_walk ∈ GT := GT_of (i := 610) (by decide +kernel) (by decide +kernel)
theorem ml_L_92 : Cond.methodLink "BagBottomLaw" 92 yX7_seed ∈ GT := GT_of (i := 611) (by decide +kernel) (by decide +kernel)
theorem im_X7_seed : Cond.instanceMethod yX7_seed ∈ GT := GT_of (i := 612) (by decide +kernel) (by decide +kernel)
theorem se_X7_seed : Cond.selects "BagBottom" yX7_seed yX7_seed ∈ GT := GT_of (i := 613) (by decide +kernel) (by decide +kernel)
theorem cd_X7_seed : Cond.code yX7_seed cX7_seed 3 (some .int) ∈ GT := GT_of (i := 614) (by decide +kernel) (by decide +kernel)
theorem ml_L_96 : Cond.methodLink "BagBottomLaw" 96 yX7_then ∈ GT := GT_of (i := 615) (by decide +kernel) (by decide +kernel)
theorem im_X7_then : Cond.instanceMethod yX7_then ∈ GT := GT_of (i := 616) (by decide +kernel) (by decide +kernel)
theorem se_X7_then : Cond.selects "BagBottom" yX7_then yX7_then ∈ GT := GT_of (i := 617) (by decide +kernel) (by decide +kernel)
theorem cd_X7_then : Cond.code yX7_then cX7_then 3 (some .int) ∈ GT := GT_of (i := 618) (by decide +kernel) (by decide +kernel)
theorem ml_X7_190 : Cond.methodLink "BagBottom" 190 yX5_whereThen ∈ GT := GT_of (i := 619) (by decide +kernel) (by decide +kernel)
theorem im_X5_whereThen : Cond.instanceMethod yX5_whereThen ∈ GT := GT_of (i := 620) (by decide +kernel) (by decide +kernel)
theorem se_X5_whereThen : Cond.selects "BagBottom$Thought" yX5_whereThen yX5_whereThen ∈ GT := GT_of (i := 621) (by decide +kernel) (by decide +kernel)
theorem cd_X5_whereThen : Cond.code yX5_whereThen cX5_whereThen 5 (some .int) ∈ GT := GT_of (i := 622) (by decide +kernel) (by decide +kernel)
theorem ml_X5_33 : Cond.methodLink "BagBottom$Thought" 33 yX0_learnSinks ∈ GT := GT_of (i := 623) (by decide +kernel) (by decide +kernel)
theorem ml_X5_41 : Cond.methodLink "BagBottom$Thought" 41 yX1_copy ∈ GT := GT_of (i := 624) (by decide +kernel) (by decide +kernel)
theorem ml_X5_49 : Cond.methodLink "BagBottom$Thought" 49 yX0_shake ∈ GT := GT_of (i := 625) (by decide +kernel) (by decide +kernel)
theorem ml_X5_53 : Cond.methodLink "BagBottom$Thought" 53 yX1_placeOf ∈ GT := GT_of (i := 626) (by decide +kernel) (by decide +kernel)
theorem ml_X5_57 : Cond.methodLink "BagBottom$Thought" 57 yX0_whereIs ∈ GT := GT_of (i := 627) (by decide +kernel) (by decide +kernel)
theorem ml_L_100 : Cond.methodLink "BagBottomLaw" 100 yX7_settles ∈ GT := GT_of (i := 628) (by decide +kernel) (by decide +kernel)
theorem im_X7_settles : Cond.instanceMethod yX7_settles ∈ GT := GT_of (i := 629) (by decide +kernel) (by decide +kernel)
theorem se_X7_settles : Cond.selects "BagBottom" yX7_settles yX7_settles ∈ GT := GT_of (i := 630) (by decide +kernel) (by decide +kernel)
theorem cd_X7_settles : Cond.code yX7_settles cX7_settles 2 (some .int) ∈ GT := GT_of (i := 631) (by decide +kernel) (by decide +kernel)
theorem ml_X7_194 : Cond.methodLink "BagBottom" 194 yX5_stepsToSettle ∈ GT := GT_of (i := 632) (by decide +kernel) (by decide +kernel)
theorem im_X5_stepsToSettle : Cond.instanceMethod yX5_stepsToSettle ∈ GT := GT_of (i := 633) (by decide +kernel) (by decide +kernel)
theorem se_X5_stepsToSettle : Cond.selects "BagBottom$Thought" yX5_stepsToSettle yX5_stepsToSettle ∈ GT := GT_of (i := 634) (by decide +kernel) (by decide +kernel)
theorem cd_X5_stepsToSettle : Cond.code yX5_stepsToSettle cX5_stepsToSettle 3 (some .int) ∈ GT := GT_of (i := 635) (by decide +kernel) (by decide +kernel)
theorem kc_X7_198 : Cond.constant "BagBottom" 198 (-1000000002) ∈ GT := GT_of (i := 636) (by decide +kernel) (by decide +kernel)
theorem ml_L_105 : Cond.methodLink "BagBottomLaw" 105 yX7_pack ∈ GT := GT_of (i := 637) (by decide +kernel) (by decide +kernel)
theorem im_X7_pack : Cond.instanceMethod yX7_pack ∈ GT := GT_of (i := 638) (by decide +kernel) (by decide +kernel)
theorem se_X7_pack : Cond.selects "BagBottom" yX7_pack yX7_pack ∈ GT := GT_of (i := 639) (by decide +kernel) (by decide +kernel)
theorem cd_X7_pack : Cond.code yX7_pack cX7_pack 4 (some .int) ∈ GT := GT_of (i := 640) (by decide +kernel) (by decide +kernel)
theorem ml_X7_199 : Cond.methodLink "BagBottom" 199 yX5_packFor ∈ GT := GT_of (i := 641) (by decide +kernel) (by decide +kernel)
theorem im_X5_packFor : Cond.instanceMethod yX5_packFor ∈ GT := GT_of (i := 642) (by decide +kernel) (by decide +kernel)
theorem se_X5_packFor : Cond.selects "BagBottom$Thought" yX5_packFor yX5_packFor ∈ GT := GT_of (i := 643) (by decide +kernel) (by decide +kernel)
theorem cd_X5_packFor : Cond.code yX5_packFor cX5_packFor 6 (some .int) ∈ GT := GT_of (i := 644) (by decide +kernel) (by decide +kernel)
theorem ml_X5_67 : Cond.methodLink "BagBottom$Thought" 67 yX5_learnUses ∈ GT := GT_of (i := 645) (by decide +kernel) (by decide +kernel)
theorem im_X5_learnUses : Cond.instanceMethod yX5_learnUses ∈ GT := GT_of (i := 647) (by decide +kernel) (by decide +kernel)
theorem cd_X5_learnUses : Cond.code yX5_learnUses cX5_learnUses 5 none ∈ GT := GT_of (i := 648) (by decide +kernel) (by decide +kernel)
theorem ml_X5_93 : Cond.methodLink "BagBottom$Thought" 93 yX0_usedOf ∈ GT := GT_of (i := 649) (by decide +kernel) (by decide +kernel)
theorem im_X0_usedOf : Cond.instanceMethod yX0_usedOf ∈ GT := GT_of (i := 650) (by decide +kernel) (by decide +kernel)
theorem se_X0_usedOf : Cond.selects "BagBottom$Bag" yX0_usedOf yX0_usedOf ∈ GT := GT_of (i := 651) (by decide +kernel) (by decide +kernel)
theorem cd_X0_usedOf : Cond.code yX0_usedOf cX0_usedOf 2 (some .int) ∈ GT := GT_of (i := 652) (by decide +kernel) (by decide +kernel)
theorem ml_X5_96 : Cond.methodLink "BagBottom$Thought" 96 yX4_feels ∈ GT := GT_of (i := 653) (by decide +kernel) (by decide +kernel)
theorem ml_X5_105 : Cond.methodLink "BagBottom$Thought" 105 yX0_gives ∈ GT := GT_of (i := 654) (by decide +kernel) (by decide +kernel)
theorem ml_X5_74 : Cond.methodLink "BagBottom$Thought" 74 yX1_add ∈ GT := GT_of (i := 655) (by decide +kernel) (by decide +kernel)
theorem kc_X5_77 : Cond.constant "BagBottom$Thought" 77 (2147483647) ∈ GT := GT_of (i := 656) (by decide +kernel) (by decide +kernel)
theorem ml_X5_78 : Cond.methodLink "BagBottom$Thought" 78 yX5_costOfStart ∈ GT := GT_of (i := 657) (by decide +kernel) (by decide +kernel)
theorem im_X5_costOfStart : Cond.instanceMethod yX5_costOfStart ∈ GT := GT_of (i := 659) (by decide +kernel) (by decide +kernel)
theorem cd_X5_costOfStart : Cond.code yX5_costOfStart cX5_costOfStart 7 (some .int) ∈ GT := GT_of (i := 660) (by decide +kernel) (by decide +kernel)
theorem ml_X5_82 : Cond.methodLink "BagBottom$Thought" 82 yX1_goToNext ∈ GT := GT_of (i := 661) (by decide +kernel) (by decide +kernel)
theorem im_X1_goToNext : Cond.instanceMethod yX1_goToNext ∈ GT := GT_of (i := 662) (by decide +kernel) (by decide +kernel)
theorem se_X1_goToNext : Cond.selects "BagBottom$Row" yX1_goToNext yX1_goToNext ∈ GT := GT_of (i := 663) (by decide +kernel) (by decide +kernel)
theorem cd_X1_goToNext : Cond.code yX1_goToNext cX1_goToNext 3 (some .boolean) ∈ GT := GT_of (i := 664) (by decide +kernel) (by decide +kernel)
theorem ml_X1_39 : Cond.methodLink "BagBottom$Row" 39 yX1_turnOverFrom ∈ GT := GT_of (i := 665) (by decide +kernel) (by decide +kernel)
theorem ml_L_109 : Cond.methodLink "BagBottomLaw" 109 yX7_out ∈ GT := GT_of (i := 666) (by decide +kernel) (by decide +kernel)
theorem im_X7_out : Cond.instanceMethod yX7_out ∈ GT := GT_of (i := 667) (by decide +kernel) (by decide +kernel)
theorem se_X7_out : Cond.selects "BagBottom" yX7_out yX7_out ∈ GT := GT_of (i := 668) (by decide +kernel) (by decide +kernel)
theorem cd_X7_out : Cond.code yX7_out cX7_out 5 (some .int) ∈ GT := GT_of (i := 669) (by decide +kernel) (by decide +kernel)
theorem ml_X7_206 : Cond.methodLink "BagBottom" 206 yX7_isTimeAsked ∈ GT := GT_of (i := 670) (by decide +kernel) (by decide +kernel)
theorem sm_X7_isTimeAsked : Cond.static yX7_isTimeAsked ∈ GT := GT_of (i := 671) (by decide +kernel) (by decide +kernel)
theorem cd_X7_isTimeAsked : Cond.code yX7_isTimeAsked cX7_isTimeAsked 1 (some .boolean) ∈ GT := GT_of (i := 672) (by decide +kernel) (by decide +kernel)
theorem ml_X7_209 : Cond.methodLink "BagBottom" 209 yX5_setLeftOut ∈ GT := GT_of (i := 673) (by decide +kernel) (by decide +kernel)
theorem im_X5_setLeftOut : Cond.instanceMethod yX5_setLeftOut ∈ GT := GT_of (i := 674) (by decide +kernel) (by decide +kernel)
theorem se_X5_setLeftOut : Cond.selects "BagBottom$Thought" yX5_setLeftOut yX5_setLeftOut ∈ GT := GT_of (i := 675) (by decide +kernel) (by decide +kernel)
theorem cd_X5_setLeftOut : Cond.code yX5_setLeftOut cX5_setLeftOut 9 (some .int) ∈ GT := GT_of (i := 676) (by decide +kernel) (by decide +kernel)
theorem ml_X5_109 : Cond.methodLink "BagBottom$Thought" 109 yJ6_bitCount_0f7a4 ∈ GT := GT_of (i := 677) (by decide +kernel) (by decide +kernel)
theorem sm_J6_bitCount_0f7a4 : Cond.static yJ6_bitCount_0f7a4 ∈ GT := GT_of (i := 678) (by decide +kernel) (by decide +kernel)
theorem cd_J6_bitCount_0f7a4 : Cond.code yJ6_bitCount_0f7a4 cJ6_bitCount_0f7a4 1 (some .int) ∈ GT := GT_of (i := 679) (by decide +kernel) (by decide +kernel)
theorem kc_J6_265 : Cond.constant "java/lang/Integer" 265 (1431655765) ∈ GT := GT_of (i := 680) (by decide +kernel) (by decide +kernel)
theorem kc_J6_266 : Cond.constant "java/lang/Integer" 266 (858993459) ∈ GT := GT_of (i := 681) (by decide +kernel) (by decide +kernel)
theorem kc_J6_267 : Cond.constant "java/lang/Integer" 267 (252645135) ∈ GT := GT_of (i := 682) (by decide +kernel) (by decide +kernel)
theorem ml_X5_114 : Cond.methodLink "BagBottom$Thought" 114 yX5_timeWithout ∈ GT := GT_of (i := 683) (by decide +kernel) (by decide +kernel)
theorem im_X5_timeWithout : Cond.instanceMethod yX5_timeWithout ∈ GT := GT_of (i := 685) (by decide +kernel) (by decide +kernel)
theorem cd_X5_timeWithout : Cond.code yX5_timeWithout cX5_timeWithout 8 (some .int) ∈ GT := GT_of (i := 686) (by decide +kernel) (by decide +kernel)
theorem ml_X7_212 : Cond.methodLink "BagBottom" 212 yJ6_bitCount_0f7a4 ∈ GT := GT_of (i := 687) (by decide +kernel) (by decide +kernel)
theorem ml_L_113 : Cond.methodLink "BagBottomLaw" 113 yX7_odds ∈ GT := GT_of (i := 688) (by decide +kernel) (by decide +kernel)
theorem im_X7_odds : Cond.instanceMethod yX7_odds ∈ GT := GT_of (i := 689) (by decide +kernel) (by decide +kernel)
theorem se_X7_odds : Cond.selects "BagBottom" yX7_odds yX7_odds ∈ GT := GT_of (i := 690) (by decide +kernel) (by decide +kernel)
theorem cd_X7_odds : Cond.code yX7_odds cX7_odds 6 (some .int) ∈ GT := GT_of (i := 691) (by decide +kernel) (by decide +kernel)
theorem kc_X7_217 : Cond.constant "BagBottom" 217 (2147483647) ∈ GT := GT_of (i := 692) (by decide +kernel) (by decide +kernel)
theorem ml_X7_218 : Cond.methodLink "BagBottom" 218 yX5_usedWithin ∈ GT := GT_of (i := 693) (by decide +kernel) (by decide +kernel)
theorem im_X5_usedWithin : Cond.instanceMethod yX5_usedWithin ∈ GT := GT_of (i := 694) (by decide +kernel) (by decide +kernel)
theorem se_X5_usedWithin : Cond.selects "BagBottom$Thought" yX5_usedWithin yX5_usedWithin ∈ GT := GT_of (i := 695) (by decide +kernel) (by decide +kernel)
theorem cd_X5_usedWithin : Cond.code yX5_usedWithin cX5_usedWithin 5 (some .int) ∈ GT := GT_of (i := 696) (by decide +kernel) (by decide +kernel)
theorem ml_X5_118 : Cond.methodLink "BagBottom$Thought" 118 yX0_bestWay ∈ GT := GT_of (i := 697) (by decide +kernel) (by decide +kernel)
theorem ml_X5_121 : Cond.methodLink "BagBottom$Thought" 121 yX0_time ∈ GT := GT_of (i := 698) (by decide +kernel) (by decide +kernel)
theorem ml_X7_221 : Cond.methodLink "BagBottom" 221 yX7_commonDivisor ∈ GT := GT_of (i := 699) (by decide +kernel) (by decide +kernel)
theorem sm_X7_commonDivisor : Cond.static yX7_commonDivisor ∈ GT := GT_of (i := 700) (by decide +kernel) (by decide +kernel)
theorem cd_X7_commonDivisor : Cond.code yX7_commonDivisor cX7_commonDivisor 6 (some .int) ∈ GT := GT_of (i := 701) (by decide +kernel) (by decide +kernel)
theorem ml_L_117 : Cond.methodLink "BagBottomLaw" 117 yX7_fits ∈ GT := GT_of (i := 702) (by decide +kernel) (by decide +kernel)
theorem im_X7_fits : Cond.instanceMethod yX7_fits ∈ GT := GT_of (i := 703) (by decide +kernel) (by decide +kernel)
theorem se_X7_fits : Cond.selects "BagBottom" yX7_fits yX7_fits ∈ GT := GT_of (i := 704) (by decide +kernel) (by decide +kernel)
theorem cd_X7_fits : Cond.code yX7_fits cX7_fits 3 (some .int) ∈ GT := GT_of (i := 705) (by decide +kernel) (by decide +kernel)
theorem ml_X7_224 : Cond.methodLink "BagBottom" 224 yX7_isSheet ∈ GT := GT_of (i := 706) (by decide +kernel) (by decide +kernel)
theorem sm_X7_isSheet : Cond.static yX7_isSheet ∈ GT := GT_of (i := 707) (by decide +kernel) (by decide +kernel)
theorem cd_X7_isSheet : Cond.code yX7_isSheet cX7_isSheet 1 (some .boolean) ∈ GT := GT_of (i := 708) (by decide +kernel) (by decide +kernel)
theorem ml_X7_227 : Cond.methodLink "BagBottom" 227 yX2_isMissing ∈ GT := GT_of (i := 709) (by decide +kernel) (by decide +kernel)
theorem im_X2_isMissing : Cond.instanceMethod yX2_isMissing ∈ GT := GT_of (i := 710) (by decide +kernel) (by decide +kernel)
theorem se_X2_isMissing : Cond.selects "BagBottom$Sheet" yX2_isMissing yX2_isMissing ∈ GT := GT_of (i := 711) (by decide +kernel) (by decide +kernel)
theorem cd_X2_isMissing : Cond.code yX2_isMissing cX2_isMissing 1 (some .boolean) ∈ GT := GT_of (i := 712) (by decide +kernel) (by decide +kernel)
theorem ml_X7_233 : Cond.methodLink "BagBottom" 233 yX5_stepsToBe ∈ GT := GT_of (i := 713) (by decide +kernel) (by decide +kernel)
theorem im_X5_stepsToBe : Cond.instanceMethod yX5_stepsToBe ∈ GT := GT_of (i := 714) (by decide +kernel) (by decide +kernel)
theorem se_X5_stepsToBe : Cond.selects "BagBottom$Thought" yX5_stepsToBe yX5_stepsToBe ∈ GT := GT_of (i := 715) (by decide +kernel) (by decide +kernel)
theorem cd_X5_stepsToBe : Cond.code yX5_stepsToBe cX5_stepsToBe 4 (some .int) ∈ GT := GT_of (i := 716) (by decide +kernel) (by decide +kernel)
theorem ml_X5_63 : Cond.methodLink "BagBottom$Thought" 63 yX1_alikeWith ∈ GT := GT_of (i := 717) (by decide +kernel) (by decide +kernel)
theorem im_X1_alikeWith : Cond.instanceMethod yX1_alikeWith ∈ GT := GT_of (i := 718) (by decide +kernel) (by decide +kernel)
theorem se_X1_alikeWith : Cond.selects "BagBottom$Row" yX1_alikeWith yX1_alikeWith ∈ GT := GT_of (i := 719) (by decide +kernel) (by decide +kernel)
theorem cd_X1_alikeWith : Cond.code yX1_alikeWith cX1_alikeWith 3 (some .int) ∈ GT := GT_of (i := 720) (by decide +kernel) (by decide +kernel)
theorem ml_L_121 : Cond.methodLink "BagBottomLaw" 121 yX7_voice ∈ GT := GT_of (i := 721) (by decide +kernel) (by decide +kernel)
theorem im_X7_voice : Cond.instanceMethod yX7_voice ∈ GT := GT_of (i := 722) (by decide +kernel) (by decide +kernel)
theorem se_X7_voice : Cond.selects "BagBottom" yX7_voice yX7_voice ∈ GT := GT_of (i := 723) (by decide +kernel) (by decide +kernel)
theorem cd_X7_voice : Cond.code yX7_voice cX7_voice 5 (some .int) ∈ GT := GT_of (i := 724) (by decide +kernel) (by decide +kernel)
theorem ml_X7_237 : Cond.methodLink "BagBottom" 237 yX6_answer ∈ GT := GT_of (i := 725) (by decide +kernel) (by decide +kernel)
theorem im_X6_answer : Cond.instanceMethod yX6_answer ∈ GT := GT_of (i := 726) (by decide +kernel) (by decide +kernel)
theorem se_X6_answer : Cond.selects "BagBottom$Voices" yX6_answer yX6_answer ∈ GT := GT_of (i := 727) (by decide +kernel) (by decide +kernel)
theorem cd_X6_answer : Cond.code yX6_answer cX6_answer 5 (some .int) ∈ GT := GT_of (i := 728) (by decide +kernel) (by decide +kernel)
theorem ml_X6_41 : Cond.methodLink "BagBottom$Voices" 41 yX6_speak ∈ GT := GT_of (i := 729) (by decide +kernel) (by decide +kernel)
theorem im_X6_speak : Cond.instanceMethod yX6_speak ∈ GT := GT_of (i := 731) (by decide +kernel) (by decide +kernel)
theorem cd_X6_speak : Cond.code yX6_speak cX6_speak 8 (some .int) ∈ GT := GT_of (i := 732) (by decide +kernel) (by decide +kernel)
theorem ml_X6_52 : Cond.methodLink "BagBottom$Voices" 52 yX6_bodyFrom ∈ GT := GT_of (i := 733) (by decide +kernel) (by decide +kernel)
theorem sm_X6_bodyFrom : Cond.static yX6_bodyFrom ∈ GT := GT_of (i := 734) (by decide +kernel) (by decide +kernel)
theorem cd_X6_bodyFrom : Cond.code yX6_bodyFrom cX6_bodyFrom 5 (some .int) ∈ GT := GT_of (i := 735) (by decide +kernel) (by decide +kernel)
theorem fl_X6_45 : Cond.fieldLink "BagBottom$Voices" 45 "BagBottom$Voices" "BODIES" "[I" ∈ GT := GT_of (i := 736) (by decide +kernel) (by decide +kernel)
theorem fn_X6_49 : Cond.fieldLinkNest "BagBottom$Voices" 49 "BagBottom" "KIND_ABOVE" "[I" "BagBottom" ∈ lw_tbl := LT_of (i := 738) (by decide +kernel)
theorem ml_X6_56 : Cond.methodLink "BagBottom$Voices" 56 yX1_add ∈ GT := GT_of (i := 739) (by decide +kernel) (by decide +kernel)
theorem ml_X6_59 : Cond.methodLink "BagBottom$Voices" 59 yX6_partedBy ∈ GT := GT_of (i := 740) (by decide +kernel) (by decide +kernel)
theorem im_X6_partedBy : Cond.instanceMethod yX6_partedBy ∈ GT := GT_of (i := 742) (by decide +kernel) (by decide +kernel)
theorem cd_X6_partedBy : Cond.code yX6_partedBy cX6_partedBy 3 (some .int) ∈ GT := GT_of (i := 743) (by decide +kernel) (by decide +kernel)
theorem kc_X7_245 : Cond.constant "BagBottom" 245 (-1000000006) ∈ GT := GT_of (i := 744) (by decide +kernel) (by decide +kernel)
theorem ml_L_125 : Cond.methodLink "BagBottomLaw" 125 yX7_body ∈ GT := GT_of (i := 745) (by decide +kernel) (by decide +kernel)
theorem im_X7_body : Cond.instanceMethod yX7_body ∈ GT := GT_of (i := 746) (by decide +kernel) (by decide +kernel)
theorem se_X7_body : Cond.selects "BagBottom" yX7_body yX7_body ∈ GT := GT_of (i := 747) (by decide +kernel) (by decide +kernel)
theorem cd_X7_body : Cond.code yX7_body cX7_body 2 (some .int) ∈ GT := GT_of (i := 748) (by decide +kernel) (by decide +kernel)
theorem ml_L_129 : Cond.methodLink "BagBottomLaw" 129 yX7_sheet ∈ GT := GT_of (i := 749) (by decide +kernel) (by decide +kernel)
theorem im_X7_sheet : Cond.instanceMethod yX7_sheet ∈ GT := GT_of (i := 750) (by decide +kernel) (by decide +kernel)
theorem se_X7_sheet : Cond.selects "BagBottom" yX7_sheet yX7_sheet ∈ GT := GT_of (i := 751) (by decide +kernel) (by decide +kernel)
theorem cd_X7_sheet : Cond.code yX7_sheet cX7_sheet 4 (some .int) ∈ GT := GT_of (i := 752) (by decide +kernel) (by decide +kernel)
theorem ml_X7_249 : Cond.methodLink "BagBottom" 249 yX2_begin ∈ GT := GT_of (i := 753) (by decide +kernel) (by decide +kernel)
theorem im_X2_begin : Cond.instanceMethod yX2_begin ∈ GT := GT_of (i := 754) (by decide +kernel) (by decide +kernel)
theorem se_X2_begin : Cond.selects "BagBottom$Sheet" yX2_begin yX2_begin ∈ GT := GT_of (i := 755) (by decide +kernel) (by decide +kernel)
theorem cd_X2_begin : Cond.code yX2_begin cX2_begin 4 none ∈ GT := GT_of (i := 756) (by decide +kernel) (by decide +kernel)
theorem ml_X2_27 : Cond.methodLink "BagBottom$Sheet" 27 yX1_add ∈ GT := GT_of (i := 757) (by decide +kernel) (by decide +kernel)
theorem ml_L_133 : Cond.methodLink "BagBottomLaw" 133 yX7_put ∈ GT := GT_of (i := 758) (by decide +kernel) (by decide +kernel)
theorem im_X7_put : Cond.instanceMethod yX7_put ∈ GT := GT_of (i := 759) (by decide +kernel) (by decide +kernel)
theorem se_X7_put : Cond.selects "BagBottom" yX7_put yX7_put ∈ GT := GT_of (i := 760) (by decide +kernel) (by decide +kernel)
theorem cd_X7_put : Cond.code yX7_put cX7_put 4 (some .int) ∈ GT := GT_of (i := 761) (by decide +kernel) (by decide +kernel)
theorem ml_X7_253 : Cond.methodLink "BagBottom" 253 yX2_write ∈ GT := GT_of (i := 762) (by decide +kernel) (by decide +kernel)
theorem im_X2_write : Cond.instanceMethod yX2_write ∈ GT := GT_of (i := 763) (by decide +kernel) (by decide +kernel)
theorem se_X2_write : Cond.selects "BagBottom$Sheet" yX2_write yX2_write ∈ GT := GT_of (i := 764) (by decide +kernel) (by decide +kernel)
theorem cd_X2_write : Cond.code yX2_write cX2_write 3 none ∈ GT := GT_of (i := 765) (by decide +kernel) (by decide +kernel)
theorem ml_X2_30 : Cond.methodLink "BagBottom$Sheet" 30 yX1_has ∈ GT := GT_of (i := 766) (by decide +kernel) (by decide +kernel)
theorem ml_L_137 : Cond.methodLink "BagBottomLaw" 137 yX7_move ∈ GT := GT_of (i := 767) (by decide +kernel) (by decide +kernel)
theorem im_X7_move : Cond.instanceMethod yX7_move ∈ GT := GT_of (i := 768) (by decide +kernel) (by decide +kernel)
theorem se_X7_move : Cond.selects "BagBottom" yX7_move yX7_move ∈ GT := GT_of (i := 769) (by decide +kernel) (by decide +kernel)
theorem cd_X7_move : Cond.code yX7_move cX7_move 8 (some .int) ∈ GT := GT_of (i := 770) (by decide +kernel) (by decide +kernel)
theorem ml_X7_259 : Cond.methodLink "BagBottom" 259 yX1_hasRun ∈ GT := GT_of (i := 771) (by decide +kernel) (by decide +kernel)
theorem im_X1_hasRun : Cond.instanceMethod yX1_hasRun ∈ GT := GT_of (i := 772) (by decide +kernel) (by decide +kernel)
theorem se_X1_hasRun : Cond.selects "BagBottom$Row" yX1_hasRun yX1_hasRun ∈ GT := GT_of (i := 773) (by decide +kernel) (by decide +kernel)
theorem cd_X1_hasRun : Cond.code yX1_hasRun cX1_hasRun 3 (some .boolean) ∈ GT := GT_of (i := 774) (by decide +kernel) (by decide +kernel)
theorem ml_X7_263 : Cond.methodLink "BagBottom" 263 arraycopyName ∈ GT := GT_of (i := 775) (by decide +kernel) (by decide +kernel)
theorem ml_L_142 : Cond.methodLink "BagBottomLaw" 142 yX7_weights ∈ GT := GT_of (i := 776) (by decide +kernel) (by decide +kernel)
theorem im_X7_weights : Cond.instanceMethod yX7_weights ∈ GT := GT_of (i := 777) (by decide +kernel) (by decide +kernel)
theorem se_X7_weights : Cond.selects "BagBottom" yX7_weights yX7_weights ∈ GT := GT_of (i := 778) (by decide +kernel) (by decide +kernel)
theorem cd_X7_weights : Cond.code yX7_weights cX7_weights 2 (some .int) ∈ GT := GT_of (i := 779) (by decide +kernel) (by decide +kernel)
theorem ml_X7_269 : Cond.methodLink "BagBottom" 269 yX0_takeWeights ∈ GT := GT_of (i := 780) (by decide +kernel) (by decide +kernel)
theorem im_X0_takeWeights : Cond.instanceMethod yX0_takeWeights ∈ GT := GT_of (i := 781) (by decide +kernel) (by decide +kernel)
theorem se_X0_takeWeights : Cond.selects "BagBottom$Bag" yX0_takeWeights yX0_takeWeights ∈ GT := GT_of (i := 782) (by decide +kernel) (by decide +kernel)
theorem cd_X0_takeWeights : Cond.code yX0_takeWeights cX0_takeWeights 3 (some .int) ∈ GT := GT_of (i := 783) (by decide +kernel) (by decide +kernel)
theorem mn_X0_82 : Cond.methodLinkNest "BagBottom$Bag" 82 yX7_isWeight "BagBottom" ∈ lw_tbl := LT_of (i := 784) (by decide +kernel)
theorem ml_L_146 : Cond.methodLink "BagBottomLaw" 146 yX7_judge ∈ GT := GT_of (i := 785) (by decide +kernel) (by decide +kernel)
theorem im_X7_judge : Cond.instanceMethod yX7_judge ∈ GT := GT_of (i := 786) (by decide +kernel) (by decide +kernel)
theorem se_X7_judge : Cond.selects "BagBottom" yX7_judge yX7_judge ∈ GT := GT_of (i := 787) (by decide +kernel) (by decide +kernel)
theorem cd_X7_judge : Cond.code yX7_judge cX7_judge 2 (some .int) ∈ GT := GT_of (i := 788) (by decide +kernel) (by decide +kernel)
theorem ml_X7_273 : Cond.methodLink "BagBottom" 273 yX1_alikeWith ∈ GT := GT_of (i := 789) (by decide +kernel) (by decide +kernel)
theorem ml_L_150 : Cond.methodLink "BagBottomLaw" 150 yX7_image ∈ GT := GT_of (i := 790) (by decide +kernel) (by decide +kernel)
theorem im_X7_image : Cond.instanceMethod yX7_image ∈ GT := GT_of (i := 791) (by decide +kernel) (by decide +kernel)
theorem se_X7_image : Cond.selects "BagBottom" yX7_image yX7_image ∈ GT := GT_of (i := 792) (by decide +kernel) (by decide +kernel)
theorem cd_X7_image : Cond.code yX7_image cX7_image 1 (some .int) ∈ GT := GT_of (i := 793) (by decide +kernel) (by decide +kernel)
theorem ml_X7_276 : Cond.methodLink "BagBottom" 276 yX0_copy ∈ GT := GT_of (i := 794) (by decide +kernel) (by decide +kernel)
theorem im_X0_copy : Cond.instanceMethod yX0_copy ∈ GT := GT_of (i := 795) (by decide +kernel) (by decide +kernel)
theorem se_X0_copy : Cond.selects "BagBottom$Bag" yX0_copy yX0_copy ∈ GT := GT_of (i := 796) (by decide +kernel) (by decide +kernel)
theorem cd_X0_copy : Cond.code yX0_copy cX0_copy 3 none ∈ GT := GT_of (i := 797) (by decide +kernel) (by decide +kernel)
theorem ml_X0_154 : Cond.methodLink "BagBottom$Bag" 154 yX4_copy ∈ GT := GT_of (i := 798) (by decide +kernel) (by decide +kernel)
theorem im_X4_copy : Cond.instanceMethod yX4_copy ∈ GT := GT_of (i := 799) (by decide +kernel) (by decide +kernel)
theorem se_X4_copy : Cond.selects "BagBottom$Thing" yX4_copy yX4_copy ∈ GT := GT_of (i := 800) (by decide +kernel) (by decide +kernel)
theorem cd_X4_copy : Cond.code yX4_copy cX4_copy 2 none ∈ GT := GT_of (i := 801) (by decide +kernel) (by decide +kernel)
theorem ml_X0_158 : Cond.methodLink "BagBottom$Bag" 158 yX1_copy ∈ GT := GT_of (i := 802) (by decide +kernel) (by decide +kernel)
theorem ml_X0_161 : Cond.methodLink "BagBottom$Bag" 161 yX3_copy ∈ GT := GT_of (i := 803) (by decide +kernel) (by decide +kernel)
theorem im_X3_copy : Cond.instanceMethod yX3_copy ∈ GT := GT_of (i := 804) (by decide +kernel) (by decide +kernel)
theorem se_X3_copy : Cond.selects "BagBottom$Text" yX3_copy yX3_copy ∈ GT := GT_of (i := 805) (by decide +kernel) (by decide +kernel)
theorem cd_X3_copy : Cond.code yX3_copy cX3_copy 2 none ∈ GT := GT_of (i := 806) (by decide +kernel) (by decide +kernel)
theorem ml_L_154 : Cond.methodLink "BagBottomLaw" 154 yX7_restore ∈ GT := GT_of (i := 807) (by decide +kernel) (by decide +kernel)
theorem im_X7_restore : Cond.instanceMethod yX7_restore ∈ GT := GT_of (i := 808) (by decide +kernel) (by decide +kernel)
theorem se_X7_restore : Cond.selects "BagBottom" yX7_restore yX7_restore ∈ GT := GT_of (i := 809) (by decide +kernel) (by decide +kernel)
theorem cd_X7_restore : Cond.code yX7_restore cX7_restore 1 (some .int) ∈ GT := GT_of (i := 810) (by decide +kernel) (by decide +kernel)
theorem ml_L_158 : Cond.methodLink "BagBottomLaw" 158 yX7_tell ∈ GT := GT_of (i := 811) (by decide +kernel) (by decide +kernel)
theorem im_X7_tell : Cond.instanceMethod yX7_tell ∈ GT := GT_of (i := 812) (by decide +kernel) (by decide +kernel)
theorem se_X7_tell : Cond.selects "BagBottom" yX7_tell yX7_tell ∈ GT := GT_of (i := 813) (by decide +kernel) (by decide +kernel)
theorem cd_X7_tell : Cond.code yX7_tell cX7_tell 2 (some .int) ∈ GT := GT_of (i := 814) (by decide +kernel) (by decide +kernel)
theorem ml_L_162 : Cond.methodLink "BagBottomLaw" 162 yX7_check ∈ GT := GT_of (i := 815) (by decide +kernel) (by decide +kernel)
theorem im_X7_check : Cond.instanceMethod yX7_check ∈ GT := GT_of (i := 816) (by decide +kernel) (by decide +kernel)
theorem se_X7_check : Cond.selects "BagBottom" yX7_check yX7_check ∈ GT := GT_of (i := 817) (by decide +kernel) (by decide +kernel)
theorem cd_X7_check : Cond.code yX7_check cX7_check 3 (some .int) ∈ GT := GT_of (i := 818) (by decide +kernel) (by decide +kernel)
theorem ml_L_166 : Cond.methodLink "BagBottomLaw" 166 yX7_count ∈ GT := GT_of (i := 819) (by decide +kernel) (by decide +kernel)
theorem im_X7_count : Cond.instanceMethod yX7_count ∈ GT := GT_of (i := 820) (by decide +kernel) (by decide +kernel)
theorem se_X7_count : Cond.selects "BagBottom" yX7_count yX7_count ∈ GT := GT_of (i := 821) (by decide +kernel) (by decide +kernel)
theorem cd_X7_count : Cond.code yX7_count cX7_count 2 (some .int) ∈ GT := GT_of (i := 822) (by decide +kernel) (by decide +kernel)
theorem ml_L_170 : Cond.methodLink "BagBottomLaw" 170 yX7_told ∈ GT := GT_of (i := 823) (by decide +kernel) (by decide +kernel)
theorem im_X7_told : Cond.instanceMethod yX7_told ∈ GT := GT_of (i := 824) (by decide +kernel) (by decide +kernel)
theorem se_X7_told : Cond.selects "BagBottom" yX7_told yX7_told ∈ GT := GT_of (i := 825) (by decide +kernel) (by decide +kernel)
theorem cd_X7_told : Cond.code yX7_told cX7_told 2 (some .int) ∈ GT := GT_of (i := 826) (by decide +kernel) (by decide +kernel)
theorem cl_L_10 : Cond.classLink "BagBottomLaw" 10 "BagBottomModel" ∈ GT := GT_of (i := 827) (by decide +kernel) (by decide +kernel)
theorem new_X8 : Cond.instantiable "BagBottomModel" 23 ∈ GT := GT_of (i := 828) (by decide +kernel) (by decide +kernel)
theorem ml_L_12 : Cond.methodLink "BagBottomLaw" 12 yX8_init ∈ GT := GT_of (i := 829) (by decide +kernel) (by decide +kernel)
theorem im_X8_init : Cond.instanceMethod yX8_init ∈ GT := GT_of (i := 830) (by decide +kernel) (by decide +kernel)
theorem cd_X8_init : Cond.code yX8_init cX8_init 1 none ∈ GT := GT_of (i := 831) (by decide +kernel) (by decide +kernel)
theorem ml_X8_3 : Cond.methodLink "BagBottomModel" 3 objectInit ∈ GT := GT_of (i := 832) (by decide +kernel) (by decide +kernel)
theorem fl_X8_9 : Cond.fieldLink "BagBottomModel" 9 "BagBottomModel" "row" "[I" ∈ GT := GT_of (i := 833) (by decide +kernel) (by decide +kernel)
theorem fl_X8_13 : Cond.fieldLink "BagBottomModel" 13 "BagBottomModel" "kept" "[I" ∈ GT := GT_of (i := 834) (by decide +kernel) (by decide +kernel)
theorem fl_X8_16 : Cond.fieldLink "BagBottomModel" 16 "BagBottomModel" "before" "[I" ∈ GT := GT_of (i := 835) (by decide +kernel) (by decide +kernel)
theorem fl_X8_276 : Cond.fieldLink "BagBottomModel" 276 "BagBottomModel" "images" "I" ∈ GT := GT_of (i := 836) (by decide +kernel) (by decide +kernel)
theorem fl_X8_19 : Cond.fieldLink "BagBottomModel" 19 "BagBottomModel" "errors" "[I" ∈ GT := GT_of (i := 837) (by decide +kernel) (by decide +kernel)
theorem fl_X8_22 : Cond.fieldLink "BagBottomModel" 22 "BagBottomModel" "bitsOf" "[I" ∈ GT := GT_of (i := 838) (by decide +kernel) (by decide +kernel)
theorem fl_X8_25 : Cond.fieldLink "BagBottomModel" 25 "BagBottomModel" "sizeOf" "[I" ∈ GT := GT_of (i := 839) (by decide +kernel) (by decide +kernel)
theorem fl_X8_28 : Cond.fieldLink "BagBottomModel" 28 "BagBottomModel" "cells" "[I" ∈ GT := GT_of (i := 840) (by decide +kernel) (by decide +kernel)
theorem fl_X8_31 : Cond.fieldLink "BagBottomModel" 31 "BagBottomModel" "act" "[I" ∈ GT := GT_of (i := 841) (by decide +kernel) (by decide +kernel)
theorem fl_X8_34 : Cond.fieldLink "BagBottomModel" 34 "BagBottomModel" "with" "[I" ∈ GT := GT_of (i := 842) (by decide +kernel) (by decide +kernel)
theorem fl_X8_37 : Cond.fieldLink "BagBottomModel" 37 "BagBottomModel" "facts" "[I" ∈ GT := GT_of (i := 843) (by decide +kernel) (by decide +kernel)
theorem fl_X8_40 : Cond.fieldLink "BagBottomModel" 40 "BagBottomModel" "pile" "[I" ∈ GT := GT_of (i := 844) (by decide +kernel) (by decide +kernel)
theorem fl_X8_109 : Cond.fieldLink "BagBottomModel" 109 "BagBottomModel" "laid" "I" ∈ GT := GT_of (i := 845) (by decide +kernel) (by decide +kernel)
theorem fl_X8_105 : Cond.fieldLink "BagBottomModel" 105 "BagBottomModel" "here" "I" ∈ GT := GT_of (i := 846) (by decide +kernel) (by decide +kernel)
theorem fl_X8_127 : Cond.fieldLink "BagBottomModel" 127 "BagBottomModel" "opened" "I" ∈ GT := GT_of (i := 847) (by decide +kernel) (by decide +kernel)
theorem fl_X8_119 : Cond.fieldLink "BagBottomModel" 119 "BagBottomModel" "bad" "Z" ∈ GT := GT_of (i := 848) (by decide +kernel) (by decide +kernel)
theorem fl_X8_112 : Cond.fieldLink "BagBottomModel" 112 "BagBottomModel" "using" "I" ∈ GT := GT_of (i := 849) (by decide +kernel) (by decide +kernel)
theorem fl_X8_43 : Cond.fieldLink "BagBottomModel" 43 "BagBottomModel" "packed" "[I" ∈ GT := GT_of (i := 850) (by decide +kernel) (by decide +kernel)
theorem fl_X8_210 : Cond.fieldLink "BagBottomModel" 210 "BagBottomModel" "leastPacked" "I" ∈ GT := GT_of (i := 851) (by decide +kernel) (by decide +kernel)
theorem fl_X8_46 : Cond.fieldLink "BagBottomModel" 46 "BagBottomModel" "taking" "[I" ∈ GT := GT_of (i := 852) (by decide +kernel) (by decide +kernel)
theorem fl_X8_49 : Cond.fieldLink "BagBottomModel" 49 "BagBottomModel" "trace" "[I" ∈ GT := GT_of (i := 853) (by decide +kernel) (by decide +kernel)
theorem fl_X8_229 : Cond.fieldLink "BagBottomModel" 229 "BagBottomModel" "traced" "I" ∈ GT := GT_of (i := 854) (by decide +kernel) (by decide +kernel)
theorem fl_X8_256 : Cond.fieldLink "BagBottomModel" 256 "BagBottomModel" "isParted" "Z" ∈ GT := GT_of (i := 855) (by decide +kernel) (by decide +kernel)
theorem ml_L_17 : Cond.methodLink "BagBottomLaw" 17 yX8_thing ∈ GT := GT_of (i := 903) (by decide +kernel) (by decide +kernel)
theorem im_X8_thing : Cond.instanceMethod yX8_thing ∈ GT := GT_of (i := 904) (by decide +kernel) (by decide +kernel)
theorem se_X8_thing : Cond.selects "BagBottomModel" yX8_thing yX8_thing ∈ GT := GT_of (i := 905) (by decide +kernel) (by decide +kernel)
theorem cd_X8_thing : Cond.code yX8_thing cX8_thing 5 (some .int) ∈ GT := GT_of (i := 906) (by decide +kernel) (by decide +kernel)
theorem ml_X8_73 : Cond.methodLink "BagBottomModel" 73 yX8_isKm ∈ GT := GT_of (i := 907) (by decide +kernel) (by decide +kernel)
theorem sm_X8_isKm : Cond.static yX8_isKm ∈ GT := GT_of (i := 908) (by decide +kernel) (by decide +kernel)
theorem cd_X8_isKm : Cond.code yX8_isKm cX8_isKm 1 (some .boolean) ∈ GT := GT_of (i := 909) (by decide +kernel) (by decide +kernel)
theorem ml_X8_57 : Cond.methodLink "BagBottomModel" 57 yX8_in ∈ GT := GT_of (i := 910) (by decide +kernel) (by decide +kernel)
theorem sm_X8_in : Cond.static yX8_in ∈ GT := GT_of (i := 911) (by decide +kernel) (by decide +kernel)
theorem cd_X8_in : Cond.code yX8_in cX8_in 3 (some .boolean) ∈ GT := GT_of (i := 912) (by decide +kernel) (by decide +kernel)
theorem kc_X8_77 : Cond.constant "BagBottomModel" 77 (-1000000001) ∈ GT := GT_of (i := 913) (by decide +kernel) (by decide +kernel)
theorem ml_X8_78 : Cond.methodLink "BagBottomModel" 78 yX8_error ∈ GT := GT_of (i := 914) (by decide +kernel) (by decide +kernel)
theorem im_X8_error : Cond.instanceMethod yX8_error ∈ GT := GT_of (i := 916) (by decide +kernel) (by decide +kernel)
theorem cd_X8_error : Cond.code yX8_error cX8_error 2 (some .int) ∈ GT := GT_of (i := 917) (by decide +kernel) (by decide +kernel)
theorem kc_X8_52 : Cond.constant "BagBottomModel" 52 (-1000000000) ∈ GT := GT_of (i := 918) (by decide +kernel) (by decide +kernel)
theorem kc_X8_81 : Cond.constant "BagBottomModel" 81 (-1000000004) ∈ GT := GT_of (i := 919) (by decide +kernel) (by decide +kernel)
theorem ml_X8_82 : Cond.methodLink "BagBottomModel" 82 yX8_goesOnTop ∈ GT := GT_of (i := 920) (by decide +kernel) (by decide +kernel)
theorem im_X8_goesOnTop : Cond.instanceMethod yX8_goesOnTop ∈ GT := GT_of (i := 922) (by decide +kernel) (by decide +kernel)
theorem cd_X8_goesOnTop : Cond.code yX8_goesOnTop cX8_goesOnTop 3 none ∈ GT := GT_of (i := 923) (by decide +kernel) (by decide +kernel)
theorem ml_L_22 : Cond.methodLink "BagBottomLaw" 22 yX8_thingIs ∈ GT := GT_of (i := 924) (by decide +kernel) (by decide +kernel)
theorem im_X8_thingIs : Cond.instanceMethod yX8_thingIs ∈ GT := GT_of (i := 925) (by decide +kernel) (by decide +kernel)
theorem se_X8_thingIs : Cond.selects "BagBottomModel" yX8_thingIs yX8_thingIs ∈ GT := GT_of (i := 926) (by decide +kernel) (by decide +kernel)
theorem cd_X8_thingIs : Cond.code yX8_thingIs cX8_thingIs 3 (some .int) ∈ GT := GT_of (i := 927) (by decide +kernel) (by decide +kernel)
theorem ml_X8_86 : Cond.methodLink "BagBottomModel" 86 yX8_isThing ∈ GT := GT_of (i := 928) (by decide +kernel) (by decide +kernel)
theorem im_X8_isThing : Cond.instanceMethod yX8_isThing ∈ GT := GT_of (i := 930) (by decide +kernel) (by decide +kernel)
theorem cd_X8_isThing : Cond.code yX8_isThing cX8_isThing 2 (some .boolean) ∈ GT := GT_of (i := 931) (by decide +kernel) (by decide +kernel)
theorem ml_X8_61 : Cond.methodLink "BagBottomModel" 61 yX8_of ∈ GT := GT_of (i := 932) (by decide +kernel) (by decide +kernel)
theorem im_X8_of : Cond.instanceMethod yX8_of ∈ GT := GT_of (i := 934) (by decide +kernel) (by decide +kernel)
theorem cd_X8_of : Cond.code yX8_of cX8_of 3 (some .int) ∈ GT := GT_of (i := 935) (by decide +kernel) (by decide +kernel)
theorem ml_X8_89 : Cond.methodLink "BagBottomModel" 89 yX8_whereIs ∈ GT := GT_of (i := 936) (by decide +kernel) (by decide +kernel)
theorem im_X8_whereIs : Cond.instanceMethod yX8_whereIs ∈ GT := GT_of (i := 938) (by decide +kernel) (by decide +kernel)
theorem cd_X8_whereIs : Cond.code yX8_whereIs cX8_whereIs 3 (some .int) ∈ GT := GT_of (i := 939) (by decide +kernel) (by decide +kernel)
theorem ml_X8_65 : Cond.methodLink "BagBottomModel" 65 yX8_sinksOf ∈ GT := GT_of (i := 940) (by decide +kernel) (by decide +kernel)
theorem im_X8_sinksOf : Cond.instanceMethod yX8_sinksOf ∈ GT := GT_of (i := 942) (by decide +kernel) (by decide +kernel)
theorem cd_X8_sinksOf : Cond.code yX8_sinksOf cX8_sinksOf 3 (some .int) ∈ GT := GT_of (i := 943) (by decide +kernel) (by decide +kernel)
theorem ml_X8_92 : Cond.methodLink "BagBottomModel" 92 yX8_feelsOf ∈ GT := GT_of (i := 944) (by decide +kernel) (by decide +kernel)
theorem im_X8_feelsOf : Cond.instanceMethod yX8_feelsOf ∈ GT := GT_of (i := 946) (by decide +kernel) (by decide +kernel)
theorem cd_X8_feelsOf : Cond.code yX8_feelsOf cX8_feelsOf 4 (some .int) ∈ GT := GT_of (i := 947) (by decide +kernel) (by decide +kernel)
theorem ml_L_26 : Cond.methodLink "BagBottomLaw" 26 yX8_become ∈ GT := GT_of (i := 948) (by decide +kernel) (by decide +kernel)
theorem im_X8_become : Cond.instanceMethod yX8_become ∈ GT := GT_of (i := 949) (by decide +kernel) (by decide +kernel)
theorem se_X8_become : Cond.selects "BagBottomModel" yX8_become yX8_become ∈ GT := GT_of (i := 950) (by decide +kernel) (by decide +kernel)
theorem cd_X8_become : Cond.code yX8_become cX8_become 3 (some .int) ∈ GT := GT_of (i := 951) (by decide +kernel) (by decide +kernel)
theorem ml_X8_95 : Cond.methodLink "BagBottomModel" 95 yX8_becomes ∈ GT := GT_of (i := 952) (by decide +kernel) (by decide +kernel)
theorem im_X8_becomes : Cond.instanceMethod yX8_becomes ∈ GT := GT_of (i := 954) (by decide +kernel) (by decide +kernel)
theorem cd_X8_becomes : Cond.code yX8_becomes cX8_becomes 4 (some .int) ∈ GT := GT_of (i := 955) (by decide +kernel) (by decide +kernel)
theorem ml_L_30 : Cond.methodLink "BagBottomLaw" 30 yX8_as ∈ GT := GT_of (i := 956) (by decide +kernel) (by decide +kernel)
theorem im_X8_as : Cond.instanceMethod yX8_as ∈ GT := GT_of (i := 957) (by decide +kernel) (by decide +kernel)
theorem se_X8_as : Cond.selects "BagBottomModel" yX8_as yX8_as ∈ GT := GT_of (i := 958) (by decide +kernel) (by decide +kernel)
theorem cd_X8_as : Cond.code yX8_as cX8_as 5 (some .int) ∈ GT := GT_of (i := 959) (by decide +kernel) (by decide +kernel)
theorem kc_X8_98 : Cond.constant "BagBottomModel" 98 (-1000000005) ∈ GT := GT_of (i := 960) (by decide +kernel) (by decide +kernel)
theorem ml_L_34 : Cond.methodLink "BagBottomLaw" 34 yX8_weigh ∈ GT := GT_of (i := 961) (by decide +kernel) (by decide +kernel)
theorem im_X8_weigh : Cond.instanceMethod yX8_weigh ∈ GT := GT_of (i := 962) (by decide +kernel) (by decide +kernel)
theorem se_X8_weigh : Cond.selects "BagBottomModel" yX8_weigh yX8_weigh ∈ GT := GT_of (i := 963) (by decide +kernel) (by decide +kernel)
theorem cd_X8_weigh : Cond.code yX8_weigh cX8_weigh 3 (some .int) ∈ GT := GT_of (i := 964) (by decide +kernel) (by decide +kernel)
theorem ml_L_39 : Cond.methodLink "BagBottomLaw" 39 yX8_at ∈ GT := GT_of (i := 965) (by decide +kernel) (by decide +kernel)
theorem im_X8_at : Cond.instanceMethod yX8_at ∈ GT := GT_of (i := 966) (by decide +kernel) (by decide +kernel)
theorem se_X8_at : Cond.selects "BagBottomModel" yX8_at yX8_at ∈ GT := GT_of (i := 967) (by decide +kernel) (by decide +kernel)
theorem cd_X8_at : Cond.code yX8_at cX8_at 2 (some .int) ∈ GT := GT_of (i := 968) (by decide +kernel) (by decide +kernel)
theorem ml_L_43 : Cond.methodLink "BagBottomLaw" 43 yX8_leave ∈ GT := GT_of (i := 969) (by decide +kernel) (by decide +kernel)
theorem im_X8_leave : Cond.instanceMethod yX8_leave ∈ GT := GT_of (i := 970) (by decide +kernel) (by decide +kernel)
theorem se_X8_leave : Cond.selects "BagBottomModel" yX8_leave yX8_leave ∈ GT := GT_of (i := 971) (by decide +kernel) (by decide +kernel)
theorem cd_X8_leave : Cond.code yX8_leave cX8_leave 3 (some .int) ∈ GT := GT_of (i := 972) (by decide +kernel) (by decide +kernel)
theorem kc_X8_99 : Cond.constant "BagBottomModel" 99 (-1000000003) ∈ GT := GT_of (i := 973) (by decide +kernel) (by decide +kernel)
theorem ml_X8_100 : Cond.methodLink "BagBottomModel" 100 yX8_goesFrom ∈ GT := GT_of (i := 974) (by decide +kernel) (by decide +kernel)
theorem im_X8_goesFrom : Cond.instanceMethod yX8_goesFrom ∈ GT := GT_of (i := 976) (by decide +kernel) (by decide +kernel)
theorem cd_X8_goesFrom : Cond.code yX8_goesFrom cX8_goesFrom 3 none ∈ GT := GT_of (i := 977) (by decide +kernel) (by decide +kernel)
theorem ml_L_47 : Cond.methodLink "BagBottomLaw" 47 yX8_stow ∈ GT := GT_of (i := 978) (by decide +kernel) (by decide +kernel)
theorem im_X8_stow : Cond.instanceMethod yX8_stow ∈ GT := GT_of (i := 979) (by decide +kernel) (by decide +kernel)
theorem se_X8_stow : Cond.selects "BagBottomModel" yX8_stow yX8_stow ∈ GT := GT_of (i := 980) (by decide +kernel) (by decide +kernel)
theorem cd_X8_stow : Cond.code yX8_stow cX8_stow 2 (some .int) ∈ GT := GT_of (i := 981) (by decide +kernel) (by decide +kernel)
theorem ml_L_51 : Cond.methodLink "BagBottomLaw" 51 yX8_zip ∈ GT := GT_of (i := 982) (by decide +kernel) (by decide +kernel)
theorem im_X8_zip : Cond.instanceMethod yX8_zip ∈ GT := GT_of (i := 983) (by decide +kernel) (by decide +kernel)
theorem se_X8_zip : Cond.selects "BagBottomModel" yX8_zip yX8_zip ∈ GT := GT_of (i := 984) (by decide +kernel) (by decide +kernel)
theorem cd_X8_zip : Cond.code yX8_zip cX8_zip 3 (some .int) ∈ GT := GT_of (i := 985) (by decide +kernel) (by decide +kernel)
theorem ml_L_58 : Cond.methodLink "BagBottomLaw" 58 yX8_feed ∈ GT := GT_of (i := 986) (by decide +kernel) (by decide +kernel)
theorem im_X8_feed : Cond.instanceMethod yX8_feed ∈ GT := GT_of (i := 987) (by decide +kernel) (by decide +kernel)
theorem se_X8_feed : Cond.selects "BagBottomModel" yX8_feed yX8_feed ∈ GT := GT_of (i := 988) (by decide +kernel) (by decide +kernel)
theorem cd_X8_feed : Cond.code yX8_feed cX8_feed 5 (some .int) ∈ GT := GT_of (i := 989) (by decide +kernel) (by decide +kernel)
theorem kl_X8_103 : Cond.constantLong "BagBottomModel" 103 (255) ∈ GT := GT_of (i := 990) (by decide +kernel) (by decide +kernel)
theorem ml_L_62 : Cond.methodLink "BagBottomLaw" 62 yX8_text ∈ GT := GT_of (i := 991) (by decide +kernel) (by decide +kernel)
theorem im_X8_text : Cond.instanceMethod yX8_text ∈ GT := GT_of (i := 992) (by decide +kernel) (by decide +kernel)
theorem se_X8_text : Cond.selects "BagBottomModel" yX8_text yX8_text ∈ GT := GT_of (i := 993) (by decide +kernel) (by decide +kernel)
theorem cd_X8_text : Cond.code yX8_text cX8_text 4 (some .int) ∈ GT := GT_of (i := 994) (by decide +kernel) (by decide +kernel)
theorem ml_X8_133 : Cond.methodLink "BagBottomModel" 133 yX8_any ∈ GT := GT_of (i := 995) (by decide +kernel) (by decide +kernel)
theorem im_X8_any : Cond.instanceMethod yX8_any ∈ GT := GT_of (i := 997) (by decide +kernel) (by decide +kernel)
theorem cd_X8_any : Cond.code yX8_any cX8_any 1 none ∈ GT := GT_of (i := 998) (by decide +kernel) (by decide +kernel)
theorem ml_X8_154 : Cond.methodLink "BagBottomModel" 154 yX8_all ∈ GT := GT_of (i := 999) (by decide +kernel) (by decide +kernel)
theorem im_X8_all : Cond.instanceMethod yX8_all ∈ GT := GT_of (i := 1001) (by decide +kernel) (by decide +kernel)
theorem cd_X8_all : Cond.code yX8_all cX8_all 1 none ∈ GT := GT_of (i := 1002) (by decide +kernel) (by decide +kernel)
theorem ml_X8_151 : Cond.methodLink "BagBottomModel" 151 yX8_compares ∈ GT := GT_of (i := 1003) (by decide +kernel) (by decide +kernel)
theorem im_X8_compares : Cond.instanceMethod yX8_compares ∈ GT := GT_of (i := 1005) (by decide +kernel) (by decide +kernel)
theorem cd_X8_compares : Cond.code yX8_compares cX8_compares 2 none ∈ GT := GT_of (i := 1006) (by decide +kernel) (by decide +kernel)
theorem ml_X8_148 : Cond.methodLink "BagBottomModel" 148 yX8_sum ∈ GT := GT_of (i := 1007) (by decide +kernel) (by decide +kernel)
theorem im_X8_sum : Cond.instanceMethod yX8_sum ∈ GT := GT_of (i := 1009) (by decide +kernel) (by decide +kernel)
theorem cd_X8_sum : Cond.code yX8_sum cX8_sum 2 none ∈ GT := GT_of (i := 1010) (by decide +kernel) (by decide +kernel)
theorem ml_X8_145 : Cond.methodLink "BagBottomModel" 145 yX8_times ∈ GT := GT_of (i := 1011) (by decide +kernel) (by decide +kernel)
theorem im_X8_times : Cond.instanceMethod yX8_times ∈ GT := GT_of (i := 1013) (by decide +kernel) (by decide +kernel)
theorem cd_X8_times : Cond.code yX8_times cX8_times 2 none ∈ GT := GT_of (i := 1014) (by decide +kernel) (by decide +kernel)
theorem ml_X8_130 : Cond.methodLink "BagBottomModel" 130 yX8_one ∈ GT := GT_of (i := 1015) (by decide +kernel) (by decide +kernel)
theorem im_X8_one : Cond.instanceMethod yX8_one ∈ GT := GT_of (i := 1017) (by decide +kernel) (by decide +kernel)
theorem cd_X8_one : Cond.code yX8_one cX8_one 3 none ∈ GT := GT_of (i := 1018) (by decide +kernel) (by decide +kernel)
theorem ml_X8_115 : Cond.methodLink "BagBottomModel" 115 yX8_look ∈ GT := GT_of (i := 1019) (by decide +kernel) (by decide +kernel)
theorem im_X8_look : Cond.instanceMethod yX8_look ∈ GT := GT_of (i := 1021) (by decide +kernel) (by decide +kernel)
theorem cd_X8_look : Cond.code yX8_look cX8_look 1 (some .int) ∈ GT := GT_of (i := 1022) (by decide +kernel) (by decide +kernel)
theorem ml_X8_136 : Cond.methodLink "BagBottomModel" 136 yX8_nameOf ∈ GT := GT_of (i := 1023) (by decide +kernel) (by decide +kernel)
theorem im_X8_nameOf : Cond.instanceMethod yX8_nameOf ∈ GT := GT_of (i := 1025) (by decide +kernel) (by decide +kernel)
theorem cd_X8_nameOf : Cond.code yX8_nameOf cX8_nameOf 2 (some .int) ∈ GT := GT_of (i := 1026) (by decide +kernel) (by decide +kernel)
theorem ml_X8_123 : Cond.methodLink "BagBottomModel" 123 yX8_step ∈ GT := GT_of (i := 1027) (by decide +kernel) (by decide +kernel)
theorem im_X8_step : Cond.instanceMethod yX8_step ∈ GT := GT_of (i := 1029) (by decide +kernel) (by decide +kernel)
theorem cd_X8_step : Cond.code yX8_step cX8_step 3 none ∈ GT := GT_of (i := 1030) (by decide +kernel) (by decide +kernel)
theorem ml_X8_139 : Cond.methodLink "BagBottomModel" 139 yX8_opens ∈ GT := GT_of (i := 1031) (by decide +kernel) (by decide +kernel)
theorem im_X8_opens : Cond.instanceMethod yX8_opens ∈ GT := GT_of (i := 1033) (by decide +kernel) (by decide +kernel)
theorem cd_X8_opens : Cond.code yX8_opens cX8_opens 2 none ∈ GT := GT_of (i := 1034) (by decide +kernel) (by decide +kernel)
theorem ml_X8_142 : Cond.methodLink "BagBottomModel" 142 yX8_number ∈ GT := GT_of (i := 1035) (by decide +kernel) (by decide +kernel)
theorem im_X8_number : Cond.instanceMethod yX8_number ∈ GT := GT_of (i := 1037) (by decide +kernel) (by decide +kernel)
theorem cd_X8_number : Cond.code yX8_number cX8_number 3 none ∈ GT := GT_of (i := 1038) (by decide +kernel) (by decide +kernel)
theorem ml_L_66 : Cond.methodLink "BagBottomLaw" 66 yX8_untell ∈ GT := GT_of (i := 1039) (by decide +kernel) (by decide +kernel)
theorem im_X8_untell : Cond.instanceMethod yX8_untell ∈ GT := GT_of (i := 1040) (by decide +kernel) (by decide +kernel)
theorem se_X8_untell : Cond.selects "BagBottomModel" yX8_untell yX8_untell ∈ GT := GT_of (i := 1041) (by decide +kernel) (by decide +kernel)
theorem cd_X8_untell : Cond.code yX8_untell cX8_untell 2 (some .int) ∈ GT := GT_of (i := 1042) (by decide +kernel) (by decide +kernel)
theorem ml_L_71 : Cond.methodLink "BagBottomLaw" 71 yX8_law ∈ GT := GT_of (i := 1043) (by decide +kernel) (by decide +kernel)
theorem im_X8_law : Cond.instanceMethod yX8_law ∈ GT := GT_of (i := 1044) (by decide +kernel) (by decide +kernel)
theorem se_X8_law : Cond.selects "BagBottomModel" yX8_law yX8_law ∈ GT := GT_of (i := 1045) (by decide +kernel) (by decide +kernel)
theorem cd_X8_law : Cond.code yX8_law cX8_law 5 (some .int) ∈ GT := GT_of (i := 1046) (by decide +kernel) (by decide +kernel)
theorem ml_X8_167 : Cond.methodLink "BagBottomModel" 167 yX8_gives ∈ GT := GT_of (i := 1047) (by decide +kernel) (by decide +kernel)
theorem im_X8_gives : Cond.instanceMethod yX8_gives ∈ GT := GT_of (i := 1049) (by decide +kernel) (by decide +kernel)
theorem cd_X8_gives : Cond.code yX8_gives cX8_gives 7 (some .int) ∈ GT := GT_of (i := 1050) (by decide +kernel) (by decide +kernel)
theorem ml_X8_161 : Cond.methodLink "BagBottomModel" 161 yX8_works ∈ GT := GT_of (i := 1051) (by decide +kernel) (by decide +kernel)
theorem im_X8_works : Cond.instanceMethod yX8_works ∈ GT := GT_of (i := 1053) (by decide +kernel) (by decide +kernel)
theorem cd_X8_works : Cond.code yX8_works cX8_works 5 (some .int) ∈ GT := GT_of (i := 1054) (by decide +kernel) (by decide +kernel)
theorem ml_X8_157 : Cond.methodLink "BagBottomModel" 157 yX8_twoOf ∈ GT := GT_of (i := 1055) (by decide +kernel) (by decide +kernel)
theorem sm_X8_twoOf : Cond.static yX8_twoOf ∈ GT := GT_of (i := 1056) (by decide +kernel) (by decide +kernel)
theorem cd_X8_twoOf : Cond.code yX8_twoOf cX8_twoOf 3 (some .int) ∈ GT := GT_of (i := 1057) (by decide +kernel) (by decide +kernel)
theorem ml_X8_164 : Cond.methodLink "BagBottomModel" 164 yX8_held ∈ GT := GT_of (i := 1058) (by decide +kernel) (by decide +kernel)
theorem sm_X8_held : Cond.static yX8_held ∈ GT := GT_of (i := 1059) (by decide +kernel) (by decide +kernel)
theorem cd_X8_held : Cond.code yX8_held cX8_held 3 (some .int) ∈ GT := GT_of (i := 1060) (by decide +kernel) (by decide +kernel)
theorem ml_L_75 : Cond.methodLink "BagBottomLaw" 75 yX8_seconds ∈ GT := GT_of (i := 1061) (by decide +kernel) (by decide +kernel)
theorem im_X8_seconds : Cond.instanceMethod yX8_seconds ∈ GT := GT_of (i := 1062) (by decide +kernel) (by decide +kernel)
theorem se_X8_seconds : Cond.selects "BagBottomModel" yX8_seconds yX8_seconds ∈ GT := GT_of (i := 1063) (by decide +kernel) (by decide +kernel)
theorem cd_X8_seconds : Cond.code yX8_seconds cX8_seconds 3 (some .int) ∈ GT := GT_of (i := 1064) (by decide +kernel) (by decide +kernel)
theorem ml_X8_174 : Cond.methodLink "BagBottomModel" 174 yX8_timeOf ∈ GT := GT_of (i := 1065) (by decide +kernel) (by decide +kernel)
theorem im_X8_timeOf : Cond.instanceMethod yX8_timeOf ∈ GT := GT_of (i := 1067) (by decide +kernel) (by decide +kernel)
theorem cd_X8_timeOf : Cond.code yX8_timeOf cX8_timeOf 4 (some .int) ∈ GT := GT_of (i := 1068) (by decide +kernel) (by decide +kernel)
theorem ml_X8_171 : Cond.methodLink "BagBottomModel" 171 yX8_feelingTo ∈ GT := GT_of (i := 1069) (by decide +kernel) (by decide +kernel)
theorem im_X8_feelingTo : Cond.instanceMethod yX8_feelingTo ∈ GT := GT_of (i := 1071) (by decide +kernel) (by decide +kernel)
theorem cd_X8_feelingTo : Cond.code yX8_feelingTo cX8_feelingTo 5 (some .int) ∈ GT := GT_of (i := 1072) (by decide +kernel) (by decide +kernel)
theorem ml_L_79 : Cond.methodLink "BagBottomLaw" 79 yX8_best ∈ GT := GT_of (i := 1073) (by decide +kernel) (by decide +kernel)
theorem im_X8_best : Cond.instanceMethod yX8_best ∈ GT := GT_of (i := 1074) (by decide +kernel) (by decide +kernel)
theorem se_X8_best : Cond.selects "BagBottomModel" yX8_best yX8_best ∈ GT := GT_of (i := 1075) (by decide +kernel) (by decide +kernel)
theorem cd_X8_best : Cond.code yX8_best cX8_best 4 (some .int) ∈ GT := GT_of (i := 1076) (by decide +kernel) (by decide +kernel)
theorem ml_X8_177 : Cond.methodLink "BagBottomModel" 177 yX8_bestWay ∈ GT := GT_of (i := 1077) (by decide +kernel) (by decide +kernel)
theorem im_X8_bestWay : Cond.instanceMethod yX8_bestWay ∈ GT := GT_of (i := 1079) (by decide +kernel) (by decide +kernel)
theorem cd_X8_bestWay : Cond.code yX8_bestWay cX8_bestWay 4 (some .int) ∈ GT := GT_of (i := 1080) (by decide +kernel) (by decide +kernel)
theorem ml_L_83 : Cond.methodLink "BagBottomLaw" 83 yX8_takes ∈ GT := GT_of (i := 1081) (by decide +kernel) (by decide +kernel)
theorem im_X8_takes : Cond.instanceMethod yX8_takes ∈ GT := GT_of (i := 1082) (by decide +kernel) (by decide +kernel)
theorem se_X8_takes : Cond.selects "BagBottomModel" yX8_takes yX8_takes ∈ GT := GT_of (i := 1083) (by decide +kernel) (by decide +kernel)
theorem cd_X8_takes : Cond.code yX8_takes cX8_takes 3 (some .int) ∈ GT := GT_of (i := 1084) (by decide +kernel) (by decide +kernel)
theorem ml_X8_184 : Cond.methodLink "BagBottomModel" 184 yX8_taken ∈ GT := GT_of (i := 1085) (by decide +kernel) (by decide +kernel)
theorem im_X8_taken : Cond.instanceMethod yX8_taken ∈ GT := GT_of (i := 1087) (by decide +kernel) (by decide +kernel)
theorem cd_X8_taken : Cond.code yX8_taken cX8_taken 4 (some .int) ∈ GT := GT_of (i := 1088) (by decide +kernel) (by decide +kernel)
theorem kc_X8_180 : Cond.constant "BagBottomModel" 180 (99999) ∈ GT := GT_of (i := 1089) (by decide +kernel) (by decide +kernel)
theorem ml_X8_181 : Cond.methodLink "BagBottomModel" 181 yX8_turnsOver ∈ GT := GT_of (i := 1090) (by decide +kernel) (by decide +kernel)
theorem im_X8_turnsOver : Cond.instanceMethod yX8_turnsOver ∈ GT := GT_of (i := 1092) (by decide +kernel) (by decide +kernel)
theorem cd_X8_turnsOver : Cond.code yX8_turnsOver cX8_turnsOver 4 none ∈ GT := GT_of (i := 1093) (by decide +kernel) (by decide +kernel)
theorem ml_L_87 : Cond.methodLink "BagBottomLaw" 87 yX8_walks ∈ GT := GT_of (i := 1094) (by decide +kernel) (by decide +kernel)
theorem im_X8_walks : Cond.instanceMethod yX8_walks ∈ GT := GT_of (i := 1095) (by decide +kernel) (by decide +kernel)
theorem se_X8_walks : Cond.selects "BagBottomModel" yX8_walks yX8_walks ∈ GT := GT_of (i := 1096) (by decide +kernel) (by decide +kernel)
theorem cd_X8_walks : Cond.code yX8_walks cX8_walks 2 (some .int) ∈ GT := GT_of (i := 1097) (by decide +kernel) (by decide +kernel)
theorem ml_X8_187 : Cond.methodLink "BagBottomModel" 187 yX8_steps ∈ GT := GT_of (i := 1098) (by decide +kernel) (by decide +kernel)
theorem im_X8_steps : Cond.instanceMethod yX8_steps ∈ GT := GT_of (i := 1100) (by decide +kernel) (by decide +kernel)
theorem cd_X8_steps : Cond.code yX8_steps cX8_steps 4 none ∈ GT := GT_of (i := 1101) (by decide +kernel) (by decide +kernel)
theorem ml_X8_69 : Cond.methodLink "BagBottomModel" 69 yX8_aStep ∈ GT := GT_of (i := 1102) (by decide +kernel) (by decide +kernel)
theorem im_X8_aStep : Cond.instanceMethod yX8_aStep ∈ GT := GT_of (i := 1104) (by decide +kernel) (by decide +kernel)
theorem cd_X8_aStep : Cond.code yX8_aStep cX8_aStep 5 (some .boolean) ∈ GT := GT_of (i := 1105) (by decide +kernel) (by decide +kernel)
theorem ml_L_91 : Cond.methodLink "BagBottomLaw" 91 yX8_loose ∈ GT := GT_of (i := 1106) (by decide +kernel) (by decide +kernel)
theorem im_X8_loose : Cond.instanceMethod yX8_loose ∈ GT := GT_of (i := 1107) (by decide +kernel) (by decide +kernel)
theorem se_X8_loose : Cond.selects "BagBottomModel" yX8_loose yX8_loose ∈ GT := GT_of (i := 1108) (by decide +kernel) (by decide +kernel)
theorem cd_X8_loose : Cond.code yX8_loose cX8_loose 3 (some .int) ∈ GT := GT_of (i := 1109) (by decide +kernel) (by decide +kernel)
theorem ml_X8_194 : Cond.methodLink "BagBottomModel" 194 yX8_drawn ∈ GT := GT_of (i := 1110) (by decide +kernel) (by decide +kernel)
theorem im_X8_drawn : Cond.instanceMethod yX8_drawn ∈ GT := GT_of (i := 1112) (by decide +kernel) (by decide +kernel)
theorem cd_X8_drawn : Cond.code yX8_drawn cX8_drawn 3 none ∈ GT := GT_of (i := 1113) (by decide +kernel) (by decide +kernel)
theorem ml_X8_191 : Cond.methodLink "BagBottomModel" 191 yX8_draw ∈ GT := GT_of (i := 1114) (by decide +kernel) (by decide +kernel)
theorem im_X8_draw : Cond.instanceMethod yX8_draw ∈ GT := GT_of (i := 1116) (by decide +kernel) (by decide +kernel)
theorem cd_X8_draw : Cond.code yX8_draw cX8_draw 1 (some .int) ∈ GT := GT_of (i := 1117) (by decide +kernel) (by decide +kernel)
theorem kc_X8_190 : Cond.constant "BagBottomModel" 190 (1103515245) ∈ GT := GT_of (i := 1118) (by decide +kernel) (by decide +kernel)
theorem ml_L_95 : Cond.methodLink "BagBottomLaw" 95 yX8_seed ∈ GT := GT_of (i := 1119) (by decide +kernel) (by decide +kernel)
theorem im_X8_seed : Cond.instanceMethod yX8_seed ∈ GT := GT_of (i := 1120) (by decide +kernel) (by decide +kernel)
theorem se_X8_seed : Cond.selects "BagBottomModel" yX8_seed yX8_seed ∈ GT := GT_of (i := 1121) (by decide +kernel) (by decide +kernel)
theorem cd_X8_seed : Cond.code yX8_seed cX8_seed 2 (some .int) ∈ GT := GT_of (i := 1122) (by decide +kernel) (by decide +kernel)
theorem ml_L_99 : Cond.methodLink "BagBottomLaw" 99 yX8_then ∈ GT := GT_of (i := 1123) (by decide +kernel) (by decide +kernel)
theorem im_X8_then : Cond.instanceMethod yX8_then ∈ GT := GT_of (i := 1124) (by decide +kernel) (by decide +kernel)
theorem se_X8_then : Cond.selects "BagBottomModel" yX8_then yX8_then ∈ GT := GT_of (i := 1125) (by decide +kernel) (by decide +kernel)
theorem cd_X8_then : Cond.code yX8_then cX8_then 4 (some .int) ∈ GT := GT_of (i := 1126) (by decide +kernel) (by decide +kernel)
theorem ml_X8_197 : Cond.methodLink "BagBottomModel" 197 yX8_thinks ∈ GT := GT_of (i := 1127) (by decide +kernel) (by decide +kernel)
theorem im_X8_thinks : Cond.instanceMethod yX8_thinks ∈ GT := GT_of (i := 1129) (by decide +kernel) (by decide +kernel)
theorem cd_X8_thinks : Cond.code yX8_thinks cX8_thinks 1 none ∈ GT := GT_of (i := 1130) (by decide +kernel) (by decide +kernel)
theorem ml_X8_53 : Cond.methodLink "BagBottomModel" 53 yX8_copyAll ∈ GT := GT_of (i := 1131) (by decide +kernel) (by decide +kernel)
theorem sm_X8_copyAll : Cond.static yX8_copyAll ∈ GT := GT_of (i := 1132) (by decide +kernel) (by decide +kernel)
theorem cd_X8_copyAll : Cond.code yX8_copyAll cX8_copyAll 3 none ∈ GT := GT_of (i := 1133) (by decide +kernel) (by decide +kernel)
theorem ml_X8_200 : Cond.methodLink "BagBottomModel" 200 yX8_putsBack ∈ GT := GT_of (i := 1134) (by decide +kernel) (by decide +kernel)
theorem im_X8_putsBack : Cond.instanceMethod yX8_putsBack ∈ GT := GT_of (i := 1136) (by decide +kernel) (by decide +kernel)
theorem cd_X8_putsBack : Cond.code yX8_putsBack cX8_putsBack 1 none ∈ GT := GT_of (i := 1137) (by decide +kernel) (by decide +kernel)
theorem ml_L_104 : Cond.methodLink "BagBottomLaw" 104 yX8_settles ∈ GT := GT_of (i := 1138) (by decide +kernel) (by decide +kernel)
theorem im_X8_settles : Cond.instanceMethod yX8_settles ∈ GT := GT_of (i := 1139) (by decide +kernel) (by decide +kernel)
theorem se_X8_settles : Cond.selects "BagBottomModel" yX8_settles yX8_settles ∈ GT := GT_of (i := 1140) (by decide +kernel) (by decide +kernel)
theorem cd_X8_settles : Cond.code yX8_settles cX8_settles 2 (some .int) ∈ GT := GT_of (i := 1141) (by decide +kernel) (by decide +kernel)
theorem kc_X8_203 : Cond.constant "BagBottomModel" 203 (-1000000002) ∈ GT := GT_of (i := 1142) (by decide +kernel) (by decide +kernel)
theorem ml_L_108 : Cond.methodLink "BagBottomLaw" 108 yX8_pack ∈ GT := GT_of (i := 1143) (by decide +kernel) (by decide +kernel)
theorem im_X8_pack : Cond.instanceMethod yX8_pack ∈ GT := GT_of (i := 1144) (by decide +kernel) (by decide +kernel)
theorem se_X8_pack : Cond.selects "BagBottomModel" yX8_pack yX8_pack ∈ GT := GT_of (i := 1145) (by decide +kernel) (by decide +kernel)
theorem cd_X8_pack : Cond.code yX8_pack cX8_pack 3 (some .int) ∈ GT := GT_of (i := 1146) (by decide +kernel) (by decide +kernel)
theorem ml_X8_217 : Cond.methodLink "BagBottomModel" 217 yX8_inside ∈ GT := GT_of (i := 1147) (by decide +kernel) (by decide +kernel)
theorem im_X8_inside : Cond.instanceMethod yX8_inside ∈ GT := GT_of (i := 1149) (by decide +kernel) (by decide +kernel)
theorem cd_X8_inside : Cond.code yX8_inside cX8_inside 3 (some .int) ∈ GT := GT_of (i := 1150) (by decide +kernel) (by decide +kernel)
theorem ml_X8_213 : Cond.methodLink "BagBottomModel" 213 yX8_packs ∈ GT := GT_of (i := 1151) (by decide +kernel) (by decide +kernel)
theorem im_X8_packs : Cond.instanceMethod yX8_packs ∈ GT := GT_of (i := 1153) (by decide +kernel) (by decide +kernel)
theorem cd_X8_packs : Cond.code yX8_packs cX8_packs 6 none ∈ GT := GT_of (i := 1154) (by decide +kernel) (by decide +kernel)
theorem ml_X8_207 : Cond.methodLink "BagBottomModel" 207 yX8_packing ∈ GT := GT_of (i := 1155) (by decide +kernel) (by decide +kernel)
theorem im_X8_packing : Cond.instanceMethod yX8_packing ∈ GT := GT_of (i := 1157) (by decide +kernel) (by decide +kernel)
theorem cd_X8_packing : Cond.code yX8_packing cX8_packing 5 (some .int) ∈ GT := GT_of (i := 1158) (by decide +kernel) (by decide +kernel)
theorem ml_X8_204 : Cond.methodLink "BagBottomModel" 204 yX8_usedOf ∈ GT := GT_of (i := 1159) (by decide +kernel) (by decide +kernel)
theorem im_X8_usedOf : Cond.instanceMethod yX8_usedOf ∈ GT := GT_of (i := 1161) (by decide +kernel) (by decide +kernel)
theorem cd_X8_usedOf : Cond.code yX8_usedOf cX8_usedOf 2 (some .int) ∈ GT := GT_of (i := 1162) (by decide +kernel) (by decide +kernel)
theorem ml_L_112 : Cond.methodLink "BagBottomLaw" 112 yX8_out ∈ GT := GT_of (i := 1163) (by decide +kernel) (by decide +kernel)
theorem im_X8_out : Cond.instanceMethod yX8_out ∈ GT := GT_of (i := 1164) (by decide +kernel) (by decide +kernel)
theorem se_X8_out : Cond.selects "BagBottomModel" yX8_out yX8_out ∈ GT := GT_of (i := 1165) (by decide +kernel) (by decide +kernel)
theorem cd_X8_out : Cond.code yX8_out cX8_out 8 (some .int) ∈ GT := GT_of (i := 1166) (by decide +kernel) (by decide +kernel)
theorem ml_X8_220 : Cond.methodLink "BagBottomModel" 220 yX8_bits ∈ GT := GT_of (i := 1167) (by decide +kernel) (by decide +kernel)
theorem sm_X8_bits : Cond.static yX8_bits ∈ GT := GT_of (i := 1168) (by decide +kernel) (by decide +kernel)
theorem cd_X8_bits : Cond.code yX8_bits cX8_bits 3 (some .int) ∈ GT := GT_of (i := 1169) (by decide +kernel) (by decide +kernel)
theorem ml_L_116 : Cond.methodLink "BagBottomLaw" 116 yX8_odds ∈ GT := GT_of (i := 1170) (by decide +kernel) (by decide +kernel)
theorem im_X8_odds : Cond.instanceMethod yX8_odds ∈ GT := GT_of (i := 1171) (by decide +kernel) (by decide +kernel)
theorem se_X8_odds : Cond.selects "BagBottomModel" yX8_odds yX8_odds ∈ GT := GT_of (i := 1172) (by decide +kernel) (by decide +kernel)
theorem cd_X8_odds : Cond.code yX8_odds cX8_odds 8 (some .int) ∈ GT := GT_of (i := 1173) (by decide +kernel) (by decide +kernel)
theorem ml_L_120 : Cond.methodLink "BagBottomLaw" 120 yX8_fits ∈ GT := GT_of (i := 1174) (by decide +kernel) (by decide +kernel)
theorem im_X8_fits : Cond.instanceMethod yX8_fits ∈ GT := GT_of (i := 1175) (by decide +kernel) (by decide +kernel)
theorem se_X8_fits : Cond.selects "BagBottomModel" yX8_fits yX8_fits ∈ GT := GT_of (i := 1176) (by decide +kernel) (by decide +kernel)
theorem cd_X8_fits : Cond.code yX8_fits cX8_fits 4 (some .int) ∈ GT := GT_of (i := 1177) (by decide +kernel) (by decide +kernel)
theorem ml_X8_223 : Cond.methodLink "BagBottomModel" 223 yX8_notThere ∈ GT := GT_of (i := 1178) (by decide +kernel) (by decide +kernel)
theorem im_X8_notThere : Cond.instanceMethod yX8_notThere ∈ GT := GT_of (i := 1180) (by decide +kernel) (by decide +kernel)
theorem cd_X8_notThere : Cond.code yX8_notThere cX8_notThere 2 (some .int) ∈ GT := GT_of (i := 1181) (by decide +kernel) (by decide +kernel)
theorem ml_X8_269 : Cond.methodLink "BagBottomModel" 269 yX8_isSheet ∈ GT := GT_of (i := 1182) (by decide +kernel) (by decide +kernel)
theorem sm_X8_isSheet : Cond.static yX8_isSheet ∈ GT := GT_of (i := 1183) (by decide +kernel) (by decide +kernel)
theorem cd_X8_isSheet : Cond.code yX8_isSheet cX8_isSheet 1 (some .boolean) ∈ GT := GT_of (i := 1184) (by decide +kernel) (by decide +kernel)
theorem ml_X8_226 : Cond.methodLink "BagBottomModel" 226 yX8_rightOf ∈ GT := GT_of (i := 1185) (by decide +kernel) (by decide +kernel)
theorem im_X8_rightOf : Cond.instanceMethod yX8_rightOf ∈ GT := GT_of (i := 1187) (by decide +kernel) (by decide +kernel)
theorem cd_X8_rightOf : Cond.code yX8_rightOf cX8_rightOf 3 (some .int) ∈ GT := GT_of (i := 1188) (by decide +kernel) (by decide +kernel)
theorem ml_L_124 : Cond.methodLink "BagBottomLaw" 124 yX8_voice ∈ GT := GT_of (i := 1189) (by decide +kernel) (by decide +kernel)
theorem im_X8_voice : Cond.instanceMethod yX8_voice ∈ GT := GT_of (i := 1190) (by decide +kernel) (by decide +kernel)
theorem se_X8_voice : Cond.selects "BagBottomModel" yX8_voice yX8_voice ∈ GT := GT_of (i := 1191) (by decide +kernel) (by decide +kernel)
theorem cd_X8_voice : Cond.code yX8_voice cX8_voice 5 (some .int) ∈ GT := GT_of (i := 1192) (by decide +kernel) (by decide +kernel)
theorem ml_X8_241 : Cond.methodLink "BagBottomModel" 241 yX8_rattles ∈ GT := GT_of (i := 1193) (by decide +kernel) (by decide +kernel)
theorem im_X8_rattles : Cond.instanceMethod yX8_rattles ∈ GT := GT_of (i := 1195) (by decide +kernel) (by decide +kernel)
theorem cd_X8_rattles : Cond.code yX8_rattles cX8_rattles 3 (some .int) ∈ GT := GT_of (i := 1196) (by decide +kernel) (by decide +kernel)
theorem ml_X8_238 : Cond.methodLink "BagBottomModel" 238 yX8_keysRattles ∈ GT := GT_of (i := 1197) (by decide +kernel) (by decide +kernel)
theorem im_X8_keysRattles : Cond.instanceMethod yX8_keysRattles ∈ GT := GT_of (i := 1199) (by decide +kernel) (by decide +kernel)
theorem cd_X8_keysRattles : Cond.code yX8_keysRattles cX8_keysRattles 3 (some .int) ∈ GT := GT_of (i := 1200) (by decide +kernel) (by decide +kernel)
theorem ml_X8_232 : Cond.methodLink "BagBottomModel" 232 yX8_begins ∈ GT := GT_of (i := 1201) (by decide +kernel) (by decide +kernel)
theorem im_X8_begins : Cond.instanceMethod yX8_begins ∈ GT := GT_of (i := 1203) (by decide +kernel) (by decide +kernel)
theorem cd_X8_begins : Cond.code yX8_begins cX8_begins 2 none ∈ GT := GT_of (i := 1204) (by decide +kernel) (by decide +kernel)
theorem ml_X8_235 : Cond.methodLink "BagBottomModel" 235 yX8_plainRattles ∈ GT := GT_of (i := 1205) (by decide +kernel) (by decide +kernel)
theorem im_X8_plainRattles : Cond.instanceMethod yX8_plainRattles ∈ GT := GT_of (i := 1207) (by decide +kernel) (by decide +kernel)
theorem cd_X8_plainRattles : Cond.code yX8_plainRattles cX8_plainRattles 3 (some .int) ∈ GT := GT_of (i := 1208) (by decide +kernel) (by decide +kernel)
theorem ml_X8_250 : Cond.methodLink "BagBottomModel" 250 yX8_rustles ∈ GT := GT_of (i := 1209) (by decide +kernel) (by decide +kernel)
theorem im_X8_rustles : Cond.instanceMethod yX8_rustles ∈ GT := GT_of (i := 1211) (by decide +kernel) (by decide +kernel)
theorem cd_X8_rustles : Cond.code yX8_rustles cX8_rustles 3 (some .int) ∈ GT := GT_of (i := 1212) (by decide +kernel) (by decide +kernel)
theorem ml_X8_247 : Cond.methodLink "BagBottomModel" 247 yX8_paperRustles ∈ GT := GT_of (i := 1213) (by decide +kernel) (by decide +kernel)
theorem im_X8_paperRustles : Cond.instanceMethod yX8_paperRustles ∈ GT := GT_of (i := 1215) (by decide +kernel) (by decide +kernel)
theorem cd_X8_paperRustles : Cond.code yX8_paperRustles cX8_paperRustles 3 (some .int) ∈ GT := GT_of (i := 1216) (by decide +kernel) (by decide +kernel)
theorem ml_X8_244 : Cond.methodLink "BagBottomModel" 244 yX8_plainRustles ∈ GT := GT_of (i := 1217) (by decide +kernel) (by decide +kernel)
theorem im_X8_plainRustles : Cond.instanceMethod yX8_plainRustles ∈ GT := GT_of (i := 1219) (by decide +kernel) (by decide +kernel)
theorem cd_X8_plainRustles : Cond.code yX8_plainRustles cX8_plainRustles 3 (some .int) ∈ GT := GT_of (i := 1220) (by decide +kernel) (by decide +kernel)
theorem ml_X8_262 : Cond.methodLink "BagBottomModel" 262 yX8_rings ∈ GT := GT_of (i := 1221) (by decide +kernel) (by decide +kernel)
theorem im_X8_rings : Cond.instanceMethod yX8_rings ∈ GT := GT_of (i := 1223) (by decide +kernel) (by decide +kernel)
theorem cd_X8_rings : Cond.code yX8_rings cX8_rings 3 (some .int) ∈ GT := GT_of (i := 1224) (by decide +kernel) (by decide +kernel)
theorem ml_X8_253 : Cond.methodLink "BagBottomModel" 253 yX8_plainRings ∈ GT := GT_of (i := 1225) (by decide +kernel) (by decide +kernel)
theorem im_X8_plainRings : Cond.instanceMethod yX8_plainRings ∈ GT := GT_of (i := 1227) (by decide +kernel) (by decide +kernel)
theorem cd_X8_plainRings : Cond.code yX8_plainRings cX8_plainRings 3 (some .int) ∈ GT := GT_of (i := 1228) (by decide +kernel) (by decide +kernel)
theorem ml_X8_265 : Cond.methodLink "BagBottomModel" 265 yX8_parts ∈ GT := GT_of (i := 1229) (by decide +kernel) (by decide +kernel)
theorem im_X8_parts : Cond.instanceMethod yX8_parts ∈ GT := GT_of (i := 1231) (by decide +kernel) (by decide +kernel)
theorem cd_X8_parts : Cond.code yX8_parts cX8_parts 4 (some .int) ∈ GT := GT_of (i := 1232) (by decide +kernel) (by decide +kernel)
theorem ml_X8_259 : Cond.methodLink "BagBottomModel" 259 yX8_plainParts ∈ GT := GT_of (i := 1233) (by decide +kernel) (by decide +kernel)
theorem im_X8_plainParts : Cond.instanceMethod yX8_plainParts ∈ GT := GT_of (i := 1235) (by decide +kernel) (by decide +kernel)
theorem cd_X8_plainParts : Cond.code yX8_plainParts cX8_plainParts 4 (some .int) ∈ GT := GT_of (i := 1236) (by decide +kernel) (by decide +kernel)
theorem kc_X8_268 : Cond.constant "BagBottomModel" 268 (-1000000006) ∈ GT := GT_of (i := 1237) (by decide +kernel) (by decide +kernel)
theorem ml_L_128 : Cond.methodLink "BagBottomLaw" 128 yX8_body ∈ GT := GT_of (i := 1238) (by decide +kernel) (by decide +kernel)
theorem im_X8_body : Cond.instanceMethod yX8_body ∈ GT := GT_of (i := 1239) (by decide +kernel) (by decide +kernel)
theorem se_X8_body : Cond.selects "BagBottomModel" yX8_body yX8_body ∈ GT := GT_of (i := 1240) (by decide +kernel) (by decide +kernel)
theorem cd_X8_body : Cond.code yX8_body cX8_body 2 (some .int) ∈ GT := GT_of (i := 1241) (by decide +kernel) (by decide +kernel)
theorem ml_L_132 : Cond.methodLink "BagBottomLaw" 132 yX8_sheet ∈ GT := GT_of (i := 1242) (by decide +kernel) (by decide +kernel)
theorem im_X8_sheet : Cond.instanceMethod yX8_sheet ∈ GT := GT_of (i := 1243) (by decide +kernel) (by decide +kernel)
theorem se_X8_sheet : Cond.selects "BagBottomModel" yX8_sheet yX8_sheet ∈ GT := GT_of (i := 1244) (by decide +kernel) (by decide +kernel)
theorem cd_X8_sheet : Cond.code yX8_sheet cX8_sheet 5 (some .int) ∈ GT := GT_of (i := 1245) (by decide +kernel) (by decide +kernel)
theorem ml_L_136 : Cond.methodLink "BagBottomLaw" 136 yX8_put ∈ GT := GT_of (i := 1246) (by decide +kernel) (by decide +kernel)
theorem im_X8_put : Cond.instanceMethod yX8_put ∈ GT := GT_of (i := 1247) (by decide +kernel) (by decide +kernel)
theorem se_X8_put : Cond.selects "BagBottomModel" yX8_put yX8_put ∈ GT := GT_of (i := 1248) (by decide +kernel) (by decide +kernel)
theorem cd_X8_put : Cond.code yX8_put cX8_put 5 (some .int) ∈ GT := GT_of (i := 1249) (by decide +kernel) (by decide +kernel)
theorem ml_L_141 : Cond.methodLink "BagBottomLaw" 141 yX8_move ∈ GT := GT_of (i := 1250) (by decide +kernel) (by decide +kernel)
theorem im_X8_move : Cond.instanceMethod yX8_move ∈ GT := GT_of (i := 1251) (by decide +kernel) (by decide +kernel)
theorem se_X8_move : Cond.selects "BagBottomModel" yX8_move yX8_move ∈ GT := GT_of (i := 1252) (by decide +kernel) (by decide +kernel)
theorem cd_X8_move : Cond.code yX8_move cX8_move 9 (some .int) ∈ GT := GT_of (i := 1253) (by decide +kernel) (by decide +kernel)
theorem ml_X8_272 : Cond.methodLink "BagBottomModel" 272 yX8_notMoved ∈ GT := GT_of (i := 1254) (by decide +kernel) (by decide +kernel)
theorem im_X8_notMoved : Cond.instanceMethod yX8_notMoved ∈ GT := GT_of (i := 1256) (by decide +kernel) (by decide +kernel)
theorem cd_X8_notMoved : Cond.code yX8_notMoved cX8_notMoved 7 (some .int) ∈ GT := GT_of (i := 1257) (by decide +kernel) (by decide +kernel)
theorem ml_L_145 : Cond.methodLink "BagBottomLaw" 145 yX8_weights ∈ GT := GT_of (i := 1258) (by decide +kernel) (by decide +kernel)
theorem im_X8_weights : Cond.instanceMethod yX8_weights ∈ GT := GT_of (i := 1259) (by decide +kernel) (by decide +kernel)
theorem se_X8_weights : Cond.selects "BagBottomModel" yX8_weights yX8_weights ∈ GT := GT_of (i := 1260) (by decide +kernel) (by decide +kernel)
theorem cd_X8_weights : Cond.code yX8_weights cX8_weights 4 (some .int) ∈ GT := GT_of (i := 1261) (by decide +kernel) (by decide +kernel)
theorem ml_L_149 : Cond.methodLink "BagBottomLaw" 149 yX8_judge ∈ GT := GT_of (i := 1262) (by decide +kernel) (by decide +kernel)
theorem im_X8_judge : Cond.instanceMethod yX8_judge ∈ GT := GT_of (i := 1263) (by decide +kernel) (by decide +kernel)
theorem se_X8_judge : Cond.selects "BagBottomModel" yX8_judge yX8_judge ∈ GT := GT_of (i := 1264) (by decide +kernel) (by decide +kernel)
theorem cd_X8_judge : Cond.code yX8_judge cX8_judge 3 (some .int) ∈ GT := GT_of (i := 1265) (by decide +kernel) (by decide +kernel)
theorem ml_L_153 : Cond.methodLink "BagBottomLaw" 153 yX8_image ∈ GT := GT_of (i := 1266) (by decide +kernel) (by decide +kernel)
theorem im_X8_image : Cond.instanceMethod yX8_image ∈ GT := GT_of (i := 1267) (by decide +kernel) (by decide +kernel)
theorem se_X8_image : Cond.selects "BagBottomModel" yX8_image yX8_image ∈ GT := GT_of (i := 1268) (by decide +kernel) (by decide +kernel)
theorem cd_X8_image : Cond.code yX8_image cX8_image 1 (some .int) ∈ GT := GT_of (i := 1269) (by decide +kernel) (by decide +kernel)
theorem ml_L_157 : Cond.methodLink "BagBottomLaw" 157 yX8_restore ∈ GT := GT_of (i := 1270) (by decide +kernel) (by decide +kernel)
theorem im_X8_restore : Cond.instanceMethod yX8_restore ∈ GT := GT_of (i := 1271) (by decide +kernel) (by decide +kernel)
theorem se_X8_restore : Cond.selects "BagBottomModel" yX8_restore yX8_restore ∈ GT := GT_of (i := 1272) (by decide +kernel) (by decide +kernel)
theorem cd_X8_restore : Cond.code yX8_restore cX8_restore 1 (some .int) ∈ GT := GT_of (i := 1273) (by decide +kernel) (by decide +kernel)
theorem ml_L_161 : Cond.methodLink "BagBottomLaw" 161 yX8_tell ∈ GT := GT_of (i := 1274) (by decide +kernel) (by decide +kernel)
theorem im_X8_tell : Cond.instanceMethod yX8_tell ∈ GT := GT_of (i := 1275) (by decide +kernel) (by decide +kernel)
theorem se_X8_tell : Cond.selects "BagBottomModel" yX8_tell yX8_tell ∈ GT := GT_of (i := 1276) (by decide +kernel) (by decide +kernel)
theorem cd_X8_tell : Cond.code yX8_tell cX8_tell 2 (some .int) ∈ GT := GT_of (i := 1277) (by decide +kernel) (by decide +kernel)
theorem ml_L_165 : Cond.methodLink "BagBottomLaw" 165 yX8_check ∈ GT := GT_of (i := 1278) (by decide +kernel) (by decide +kernel)
theorem im_X8_check : Cond.instanceMethod yX8_check ∈ GT := GT_of (i := 1279) (by decide +kernel) (by decide +kernel)
theorem se_X8_check : Cond.selects "BagBottomModel" yX8_check yX8_check ∈ GT := GT_of (i := 1280) (by decide +kernel) (by decide +kernel)
theorem cd_X8_check : Cond.code yX8_check cX8_check 3 (some .int) ∈ GT := GT_of (i := 1281) (by decide +kernel) (by decide +kernel)
theorem ml_L_169 : Cond.methodLink "BagBottomLaw" 169 yX8_count ∈ GT := GT_of (i := 1282) (by decide +kernel) (by decide +kernel)
theorem im_X8_count : Cond.instanceMethod yX8_count ∈ GT := GT_of (i := 1283) (by decide +kernel) (by decide +kernel)
theorem se_X8_count : Cond.selects "BagBottomModel" yX8_count yX8_count ∈ GT := GT_of (i := 1284) (by decide +kernel) (by decide +kernel)
theorem cd_X8_count : Cond.code yX8_count cX8_count 2 (some .int) ∈ GT := GT_of (i := 1285) (by decide +kernel) (by decide +kernel)
theorem ml_L_173 : Cond.methodLink "BagBottomLaw" 173 yX8_told ∈ GT := GT_of (i := 1286) (by decide +kernel) (by decide +kernel)
theorem im_X8_told : Cond.instanceMethod yX8_told ∈ GT := GT_of (i := 1287) (by decide +kernel) (by decide +kernel)
theorem se_X8_told : Cond.selects "BagBottomModel" yX8_told yX8_told ∈ GT := GT_of (i := 1288) (by decide +kernel) (by decide +kernel)
theorem cd_X8_told : Cond.code yX8_told cX8_told 2 (some .int) ∈ GT := GT_of (i := 1289) (by decide +kernel) (by decide +kernel)
theorem kl_L_52 : Cond.constantLong "BagBottomLaw" 52 (4294967295) ∈ GT := GT_of (i := 1290) (by decide +kernel) (by decide +kernel)
theorem fl_J0_15 : Cond.fieldLink "java/lang/String" 15 "java/lang/String" "coder" "B" ∈ GT := GT_of (i := 1291) (by decide +kernel) (by decide +kernel)
theorem fl_J0_9 : Cond.fieldLink "java/lang/String" 9 "java/lang/String" "value" "[B" ∈ GT := GT_of (i := 1292) (by decide +kernel) (by decide +kernel)
theorem se_X7_failed : Cond.selects "BagBottom" yX7_failed yX7_failed ∈ GT := by decide +kernel
theorem se_X3_reads : Cond.selects "BagBottom$Text" yX3_reads yX3_reads ∈ GT := by decide +kernel
theorem se_X3_readsSingle : Cond.selects "BagBottom$Text" yX3_readsSingle yX3_readsSingle ∈ GT := by decide +kernel
theorem se_X3_standsIn : Cond.selects "BagBottom$Text" yX3_standsIn yX3_standsIn ∈ GT := by decide +kernel
theorem se_X3_here : Cond.selects "BagBottom$Text" yX3_here yX3_here ∈ GT := by decide +kernel
theorem se_X3_readNumber : Cond.selects "BagBottom$Text" yX3_readNumber yX3_readNumber ∈ GT := by decide +kernel
theorem se_X0_draw : Cond.selects "BagBottom$Bag" yX0_draw yX0_draw ∈ GT := by decide +kernel
theorem se_X5_learnUses : Cond.selects "BagBottom$Thought" yX5_learnUses yX5_learnUses ∈ GT := by decide +kernel
theorem se_X5_costOfStart : Cond.selects "BagBottom$Thought" yX5_costOfStart yX5_costOfStart ∈ GT := by decide +kernel
theorem se_X5_timeWithout : Cond.selects "BagBottom$Thought" yX5_timeWithout yX5_timeWithout ∈ GT := by decide +kernel
theorem se_X6_speak : Cond.selects "BagBottom$Voices" yX6_speak yX6_speak ∈ GT := by decide +kernel
theorem se_X6_partedBy : Cond.selects "BagBottom$Voices" yX6_partedBy yX6_partedBy ∈ GT := by decide +kernel
theorem se_X8_error : Cond.selects "BagBottomModel" yX8_error yX8_error ∈ GT := by decide +kernel
theorem se_X8_goesOnTop : Cond.selects "BagBottomModel" yX8_goesOnTop yX8_goesOnTop ∈ GT := by decide +kernel
theorem se_X8_isThing : Cond.selects "BagBottomModel" yX8_isThing yX8_isThing ∈ GT := by decide +kernel
theorem se_X8_of : Cond.selects "BagBottomModel" yX8_of yX8_of ∈ GT := by decide +kernel
theorem se_X8_whereIs : Cond.selects "BagBottomModel" yX8_whereIs yX8_whereIs ∈ GT := by decide +kernel
theorem se_X8_sinksOf : Cond.selects "BagBottomModel" yX8_sinksOf yX8_sinksOf ∈ GT := by decide +kernel
theorem se_X8_feelsOf : Cond.selects "BagBottomModel" yX8_feelsOf yX8_feelsOf ∈ GT := by decide +kernel
theorem se_X8_becomes : Cond.selects "BagBottomModel" yX8_becomes yX8_becomes ∈ GT := by decide +kernel
theorem se_X8_goesFrom : Cond.selects "BagBottomModel" yX8_goesFrom yX8_goesFrom ∈ GT := by decide +kernel
theorem se_X8_any : Cond.selects "BagBottomModel" yX8_any yX8_any ∈ GT := by decide +kernel
theorem se_X8_all : Cond.selects "BagBottomModel" yX8_all yX8_all ∈ GT := by decide +kernel
theorem se_X8_compares : Cond.selects "BagBottomModel" yX8_compares yX8_compares ∈ GT := by decide +kernel
theorem se_X8_sum : Cond.selects "BagBottomModel" yX8_sum yX8_sum ∈ GT := by decide +kernel
theorem se_X8_times : Cond.selects "BagBottomModel" yX8_times yX8_times ∈ GT := by decide +kernel
theorem se_X8_one : Cond.selects "BagBottomModel" yX8_one yX8_one ∈ GT := by decide +kernel
theorem se_X8_look : Cond.selects "BagBottomModel" yX8_look yX8_look ∈ GT := by decide +kernel
theorem se_X8_nameOf : Cond.selects "BagBottomModel" yX8_nameOf yX8_nameOf ∈ GT := by decide +kernel
theorem se_X8_step : Cond.selects "BagBottomModel" yX8_step yX8_step ∈ GT := by decide +kernel
theorem se_X8_opens : Cond.selects "BagBottomModel" yX8_opens yX8_opens ∈ GT := by decide +kernel
theorem se_X8_number : Cond.selects "BagBottomModel" yX8_number yX8_number ∈ GT := by decide +kernel
theorem se_X8_gives : Cond.selects "BagBottomModel" yX8_gives yX8_gives ∈ GT := by decide +kernel
theorem se_X8_works : Cond.selects "BagBottomModel" yX8_works yX8_works ∈ GT := by decide +kernel
theorem se_X8_timeOf : Cond.selects "BagBottomModel" yX8_timeOf yX8_timeOf ∈ GT := by decide +kernel
theorem se_X8_feelingTo : Cond.selects "BagBottomModel" yX8_feelingTo yX8_feelingTo ∈ GT := by decide +kernel
theorem se_X8_bestWay : Cond.selects "BagBottomModel" yX8_bestWay yX8_bestWay ∈ GT := by decide +kernel
theorem se_X8_taken : Cond.selects "BagBottomModel" yX8_taken yX8_taken ∈ GT := by decide +kernel
theorem se_X8_turnsOver : Cond.selects "BagBottomModel" yX8_turnsOver yX8_turnsOver ∈ GT := by decide +kernel
theorem se_X8_steps : Cond.selects "BagBottomModel" yX8_steps yX8_steps ∈ GT := by decide +kernel
theorem se_X8_aStep : Cond.selects "BagBottomModel" yX8_aStep yX8_aStep ∈ GT := by decide +kernel
theorem se_X8_drawn : Cond.selects "BagBottomModel" yX8_drawn yX8_drawn ∈ GT := by decide +kernel
theorem se_X8_draw : Cond.selects "BagBottomModel" yX8_draw yX8_draw ∈ GT := by decide +kernel
theorem se_X8_thinks : Cond.selects "BagBottomModel" yX8_thinks yX8_thinks ∈ GT := by decide +kernel
theorem se_X8_putsBack : Cond.selects "BagBottomModel" yX8_putsBack yX8_putsBack ∈ GT := by decide +kernel
theorem se_X8_inside : Cond.selects "BagBottomModel" yX8_inside yX8_inside ∈ GT := by decide +kernel
theorem se_X8_packs : Cond.selects "BagBottomModel" yX8_packs yX8_packs ∈ GT := by decide +kernel
theorem se_X8_packing : Cond.selects "BagBottomModel" yX8_packing yX8_packing ∈ GT := by decide +kernel
theorem se_X8_usedOf : Cond.selects "BagBottomModel" yX8_usedOf yX8_usedOf ∈ GT := by decide +kernel
theorem se_X8_notThere : Cond.selects "BagBottomModel" yX8_notThere yX8_notThere ∈ GT := by decide +kernel
theorem se_X8_rightOf : Cond.selects "BagBottomModel" yX8_rightOf yX8_rightOf ∈ GT := by decide +kernel
theorem se_X8_rattles : Cond.selects "BagBottomModel" yX8_rattles yX8_rattles ∈ GT := by decide +kernel
theorem se_X8_keysRattles : Cond.selects "BagBottomModel" yX8_keysRattles yX8_keysRattles ∈ GT := by decide +kernel
theorem se_X8_begins : Cond.selects "BagBottomModel" yX8_begins yX8_begins ∈ GT := by decide +kernel
theorem se_X8_plainRattles : Cond.selects "BagBottomModel" yX8_plainRattles yX8_plainRattles ∈ GT := by decide +kernel
theorem se_X8_rustles : Cond.selects "BagBottomModel" yX8_rustles yX8_rustles ∈ GT := by decide +kernel
theorem se_X8_paperRustles : Cond.selects "BagBottomModel" yX8_paperRustles yX8_paperRustles ∈ GT := by decide +kernel
theorem se_X8_plainRustles : Cond.selects "BagBottomModel" yX8_plainRustles yX8_plainRustles ∈ GT := by decide +kernel
theorem se_X8_rings : Cond.selects "BagBottomModel" yX8_rings yX8_rings ∈ GT := by decide +kernel
theorem se_X8_plainRings : Cond.selects "BagBottomModel" yX8_plainRings yX8_plainRings ∈ GT := by decide +kernel
theorem se_X8_parts : Cond.selects "BagBottomModel" yX8_parts yX8_parts ∈ GT := by decide +kernel
theorem se_X8_plainParts : Cond.selects "BagBottomModel" yX8_plainParts yX8_plainParts ∈ GT := by decide +kernel
theorem se_X8_notMoved : Cond.selects "BagBottomModel" yX8_notMoved yX8_notMoved ∈ GT := by decide +kernel
theorem mi_J0_checkBoundsBeginEnd_23922 : MI yJ0_checkBoundsBeginEnd_23922 cJ0_checkBoundsBeginEnd_23922 3 none 3 "java/lang/String" := ⟨cd_J0_checkBoundsBeginEnd_23922, ini_J0, rfl, by decide +kernel⟩
theorem mi_J0_coder_7d493 : MI yJ0_coder_7d493 cJ0_coder_7d493 1 (some .byte) 0 "java/lang/String" := ⟨cd_J0_coder_7d493, ini_J0, rfl, by decide +kernel⟩
theorem mi_J0_indexOf_0f7a4 : MI yJ0_indexOf_0f7a4 cJ0_indexOf_0f7a4 2 (some .int) 1 "java/lang/String" := ⟨cd_J0_indexOf_0f7a4, ini_J0, rfl, by decide +kernel⟩
theorem mi_J0_indexOf_7cf53 : MI yJ0_indexOf_7cf53 cJ0_indexOf_7cf53 3 (some .int) 2 "java/lang/String" := ⟨cd_J0_indexOf_7cf53, ini_J0, rfl, by decide +kernel⟩
theorem mi_J0_isLatin1_aae02 : MI yJ0_isLatin1_aae02 cJ0_isLatin1_aae02 1 (some .boolean) 0 "java/lang/String" := ⟨cd_J0_isLatin1_aae02, ini_J0, rfl, by decide +kernel⟩
theorem mi_J0_length_8abf5 : MI yJ0_length_8abf5 cJ0_length_8abf5 1 (some .int) 0 "java/lang/String" := ⟨cd_J0_length_8abf5, ini_J0, rfl, by decide +kernel⟩
theorem mi_J11_highSurrogate_5068e : MI yJ11_highSurrogate_5068e cJ11_highSurrogate_5068e 1 (some .char) 1 "java/lang/Character" := ⟨cd_J11_highSurrogate_5068e, ini_J11, rfl, by decide +kernel⟩
theorem mi_J11_isValidCodePoint_9a6ad : MI yJ11_isValidCodePoint_9a6ad cJ11_isValidCodePoint_9a6ad 2 (some .boolean) 1 "java/lang/Character" := ⟨cd_J11_isValidCodePoint_9a6ad, ini_J11, rfl, by decide +kernel⟩
theorem mi_J11_lowSurrogate_5068e : MI yJ11_lowSurrogate_5068e cJ11_lowSurrogate_5068e 1 (some .char) 1 "java/lang/Character" := ⟨cd_J11_lowSurrogate_5068e, ini_J11, rfl, by decide +kernel⟩
theorem mi_J1_canEncode_9a6ad : MI yJ1_canEncode_9a6ad cJ1_canEncode_9a6ad 1 (some .boolean) 1 "java/lang/StringLatin1" := ⟨cd_J1_canEncode_9a6ad, ini_J1, rfl, by decide +kernel⟩
theorem mi_J1_indexOfChar_4cfef : MI yJ1_indexOfChar_4cfef cJ1_indexOfChar_4cfef 6 (some .int) 4 "java/lang/StringLatin1" := ⟨cd_J1_indexOfChar_4cfef, ini_J1, rfl, by decide +kernel⟩
theorem mi_J1_indexOf_4cfef : MI yJ1_indexOf_4cfef cJ1_indexOf_4cfef 4 (some .int) 4 "java/lang/StringLatin1" := ⟨cd_J1_indexOf_4cfef, ini_J1, rfl, by decide +kernel⟩
theorem mi_J2_checkBoundsBeginEnd_d044e : MI yJ2_checkBoundsBeginEnd_d044e cJ2_checkBoundsBeginEnd_d044e 3 none 3 "java/lang/StringUTF16" := ⟨cd_J2_checkBoundsBeginEnd_d044e, ini_J2, rfl, by decide +kernel⟩
theorem mi_J2_getChar_3b067 : MI yJ2_getChar_3b067 cJ2_getChar_3b067 2 (some .char) 2 "java/lang/StringUTF16" := ⟨cd_J2_getChar_3b067, ini_J2, rfl, by decide +kernel⟩
theorem mi_J2_indexOfCharUnsafe_4cfef : MI yJ2_indexOfCharUnsafe_4cfef cJ2_indexOfCharUnsafe_4cfef 5 (some .int) 4 "java/lang/StringUTF16" := ⟨cd_J2_indexOfCharUnsafe_4cfef, ini_J2, rfl, by decide +kernel⟩
theorem mi_J2_indexOfChar_4cfef : MI yJ2_indexOfChar_4cfef cJ2_indexOfChar_4cfef 4 (some .int) 4 "java/lang/StringUTF16" := ⟨cd_J2_indexOfChar_4cfef, ini_J2, rfl, by decide +kernel⟩
theorem mi_J2_indexOfSupplementary_4cfef : MI yJ2_indexOfSupplementary_4cfef cJ2_indexOfSupplementary_4cfef 7 (some .int) 4 "java/lang/StringUTF16" := ⟨cd_J2_indexOfSupplementary_4cfef, ini_J2, rfl, by decide +kernel⟩
theorem mi_J2_indexOf_4cfef : MI yJ2_indexOf_4cfef cJ2_indexOf_4cfef 4 (some .int) 4 "java/lang/StringUTF16" := ⟨cd_J2_indexOf_4cfef, ini_J2, rfl, by decide +kernel⟩
theorem mi_J2_length_9d52b : MI yJ2_length_9d52b cJ2_length_9d52b 1 (some .int) 1 "java/lang/StringUTF16" := ⟨cd_J2_length_9d52b, ini_J2, rfl, by decide +kernel⟩
theorem mi_J3_checkFromToIndex_8c36e : MI yJ3_checkFromToIndex_8c36e cJ3_checkFromToIndex_8c36e 4 (some .int) 4 "jdk/internal/util/Preconditions" := ⟨cd_J3_checkFromToIndex_8c36e, ini_J3, rfl, by decide +kernel⟩
theorem mi_J6_bitCount_0f7a4 : MI yJ6_bitCount_0f7a4 cJ6_bitCount_0f7a4 1 (some .int) 1 "java/lang/Integer" := ⟨cd_J6_bitCount_0f7a4, ini_J6, rfl, by decide +kernel⟩
theorem mi_J9_max_7cf53 : MI yJ9_max_7cf53 cJ9_max_7cf53 2 (some .int) 2 "java/lang/Math" := ⟨cd_J9_max_7cf53, ini_J9, rfl, by decide +kernel⟩
theorem mi_J9_min_7cf53 : MI yJ9_min_7cf53 cJ9_min_7cf53 2 (some .int) 2 "java/lang/Math" := ⟨cd_J9_min_7cf53, ini_J9, rfl, by decide +kernel⟩
theorem mi_X0_addThing : MI yX0_addThing cX0_addThing 6 (some .int) 3 "BagBottom$Bag" := ⟨cd_X0_addThing, ini_X0, rfl, by decide +kernel⟩
theorem mi_X0_bestWay : MI yX0_bestWay cX0_bestWay 6 (some .int) 1 "BagBottom$Bag" := ⟨cd_X0_bestWay, ini_X0, rfl, by decide +kernel⟩
theorem mi_X0_bringOut : MI yX0_bringOut cX0_bringOut 2 none 1 "BagBottom$Bag" := ⟨cd_X0_bringOut, ini_X0, rfl, by decide +kernel⟩
theorem mi_X0_changePocket : MI yX0_changePocket cX0_changePocket 3 (some .int) 1 "BagBottom$Bag" := ⟨cd_X0_changePocket, ini_X0, rfl, by decide +kernel⟩
theorem mi_X0_copy : MI yX0_copy cX0_copy 3 none 1 "BagBottom$Bag" := ⟨cd_X0_copy, ini_X0, rfl, by decide +kernel⟩
theorem mi_X0_draw : MI yX0_draw cX0_draw 1 (some .int) 0 "BagBottom$Bag" := ⟨cd_X0_draw, ini_X0, rfl, by decide +kernel⟩
theorem mi_X0_gives : MI yX0_gives cX0_gives 7 (some .int) 4 "BagBottom$Bag" := ⟨cd_X0_gives, ini_X0, rfl, by decide +kernel⟩
theorem mi_X0_goByDraws : MI yX0_goByDraws cX0_goByDraws 2 none 0 "BagBottom$Bag" := ⟨cd_X0_goByDraws, ini_X0, rfl, by decide +kernel⟩
theorem mi_X0_init : MI yX0_init cX0_init 2 none 0 "BagBottom$Bag" := ⟨cd_X0_init, ini_X0, rfl, by decide +kernel⟩
theorem mi_X0_knows : MI yX0_knows cX0_knows 2 (some .boolean) 1 "BagBottom$Bag" := ⟨cd_X0_knows, ini_X0, rfl, by decide +kernel⟩
theorem mi_X0_learnSinks : MI yX0_learnSinks cX0_learnSinks 3 none 0 "BagBottom$Bag" := ⟨cd_X0_learnSinks, ini_X0, rfl, by decide +kernel⟩
theorem mi_X0_shake : MI yX0_shake cX0_shake 6 (some .boolean) 2 "BagBottom$Bag" := ⟨cd_X0_shake, ini_X0, rfl, by decide +kernel⟩
theorem mi_X0_take : MI yX0_take cX0_take 4 (some .int) 2 "BagBottom$Bag" := ⟨cd_X0_take, ini_X0, rfl, by decide +kernel⟩
theorem mi_X0_takeWeights : MI yX0_takeWeights cX0_takeWeights 3 (some .int) 1 "BagBottom$Bag" := ⟨cd_X0_takeWeights, ini_X0, rfl, by decide +kernel⟩
theorem mi_X0_time : MI yX0_time cX0_time 7 (some .int) 2 "BagBottom$Bag" := ⟨cd_X0_time, ini_X0, rfl, by decide +kernel⟩
theorem mi_X0_usedOf : MI yX0_usedOf cX0_usedOf 2 (some .int) 1 "BagBottom$Bag" := ⟨cd_X0_usedOf, ini_X0, rfl, by decide +kernel⟩
theorem mi_X0_walk : MI yX0_walk cX0_walk 3 none 1 "BagBottom$Bag" := ⟨cd_X0_walk, ini_X0, rfl, by decide +kernel⟩
theorem mi_X0_whereIs : MI yX0_whereIs cX0_whereIs 3 (some .int) 1 "BagBottom$Bag" := ⟨cd_X0_whereIs, ini_X0, rfl, by decide +kernel⟩
theorem mi_X1_add : MI yX1_add cX1_add 2 none 1 "BagBottom$Row" := ⟨cd_X1_add, ini_X1, rfl, by decide +kernel⟩
theorem mi_X1_addOnTop : MI yX1_addOnTop cX1_addOnTop 2 none 1 "BagBottom$Row" := ⟨cd_X1_addOnTop, ini_X1, rfl, by decide +kernel⟩
theorem mi_X1_alikeWith : MI yX1_alikeWith cX1_alikeWith 3 (some .int) 1 "BagBottom$Row" := ⟨cd_X1_alikeWith, ini_X1, rfl, by decide +kernel⟩
theorem mi_X1_copy : MI yX1_copy cX1_copy 3 none 1 "BagBottom$Row" := ⟨cd_X1_copy, ini_X1, rfl, by decide +kernel⟩
theorem mi_X1_exchange : MI yX1_exchange cX1_exchange 4 none 2 "BagBottom$Row" := ⟨cd_X1_exchange, ini_X1, rfl, by decide +kernel⟩
theorem mi_X1_goToNext : MI yX1_goToNext cX1_goToNext 3 (some .boolean) 0 "BagBottom$Row" := ⟨cd_X1_goToNext, ini_X1, rfl, by decide +kernel⟩
theorem mi_X1_has : MI yX1_has cX1_has 2 (some .boolean) 1 "BagBottom$Row" := ⟨cd_X1_has, ini_X1, rfl, by decide +kernel⟩
theorem mi_X1_hasRun : MI yX1_hasRun cX1_hasRun 3 (some .boolean) 2 "BagBottom$Row" := ⟨cd_X1_hasRun, ini_X1, rfl, by decide +kernel⟩
theorem mi_X1_init : MI yX1_init cX1_init 2 none 1 "BagBottom$Row" := ⟨cd_X1_init, ini_X1, rfl, by decide +kernel⟩
theorem mi_X1_placeOf : MI yX1_placeOf cX1_placeOf 3 (some .int) 1 "BagBottom$Row" := ⟨cd_X1_placeOf, ini_X1, rfl, by decide +kernel⟩
theorem mi_X1_removeAt : MI yX1_removeAt cX1_removeAt 2 none 1 "BagBottom$Row" := ⟨cd_X1_removeAt, ini_X1, rfl, by decide +kernel⟩
theorem mi_X1_turnOverFrom : MI yX1_turnOverFrom cX1_turnOverFrom 4 none 1 "BagBottom$Row" := ⟨cd_X1_turnOverFrom, ini_X1, rfl, by decide +kernel⟩
theorem mi_X2_begin : MI yX2_begin cX2_begin 4 none 2 "BagBottom$Sheet" := ⟨cd_X2_begin, ini_X2, rfl, by decide +kernel⟩
theorem mi_X2_init : MI yX2_init cX2_init 1 none 0 "BagBottom$Sheet" := ⟨cd_X2_init, ini_X2, rfl, by decide +kernel⟩
theorem mi_X2_isMissing : MI yX2_isMissing cX2_isMissing 1 (some .boolean) 0 "BagBottom$Sheet" := ⟨cd_X2_isMissing, ini_X2, rfl, by decide +kernel⟩
theorem mi_X2_write : MI yX2_write cX2_write 3 none 2 "BagBottom$Sheet" := ⟨cd_X2_write, ini_X2, rfl, by decide +kernel⟩
theorem mi_X3_copy : MI yX3_copy cX3_copy 2 none 1 "BagBottom$Text" := ⟨cd_X3_copy, ini_X3, rfl, by decide +kernel⟩
theorem mi_X3_here : MI yX3_here cX3_here 1 (some .int) 0 "BagBottom$Text" := ⟨cd_X3_here, ini_X3, rfl, by decide +kernel⟩
theorem mi_X3_init : MI yX3_init cX3_init 1 none 0 "BagBottom$Text" := ⟨cd_X3_init, ini_X3, rfl, by decide +kernel⟩
theorem mi_X3_isThere : MI yX3_isThere cX3_isThere 1 (some .boolean) 0 "BagBottom$Text" := ⟨cd_X3_isThere, ini_X3, rfl, by decide +kernel⟩
theorem mi_X3_joined : MI yX3_joined cX3_joined 3 (some .int) 3 "BagBottom$Text" := ⟨cd_X3_joined, ini_X3, rfl, by decide +kernel⟩
theorem mi_X3_read : MI yX3_read cX3_read 3 (some .int) 2 "BagBottom$Text" := ⟨cd_X3_read, ini_X3, rfl, by decide +kernel⟩
theorem mi_X3_readNumber : MI yX3_readNumber cX3_readNumber 3 none 0 "BagBottom$Text" := ⟨cd_X3_readNumber, ini_X3, rfl, by decide +kernel⟩
theorem mi_X3_reads : MI yX3_reads cX3_reads 5 (some .boolean) 2 "BagBottom$Text" := ⟨cd_X3_reads, ini_X3, rfl, by decide +kernel⟩
theorem mi_X3_readsSingle : MI yX3_readsSingle cX3_readsSingle 4 (some .boolean) 1 "BagBottom$Text" := ⟨cd_X3_readsSingle, ini_X3, rfl, by decide +kernel⟩
theorem mi_X3_signsOf : MI yX3_signsOf cX3_signsOf 1 (some (.object "java/lang/String")) 1 "BagBottom$Text" := ⟨cd_X3_signsOf, ini_X3, rfl, by decide +kernel⟩
theorem mi_X3_standsIn : MI yX3_standsIn cX3_standsIn 3 (some .boolean) 1 "BagBottom$Text" := ⟨cd_X3_standsIn, ini_X3, rfl, by decide +kernel⟩
theorem mi_X3_value : MI yX3_value cX3_value 7 (some .int) 3 "BagBottom$Text" := ⟨cd_X3_value, ini_X3, rfl, by decide +kernel⟩
theorem mi_X4_copy : MI yX4_copy cX4_copy 2 none 1 "BagBottom$Thing" := ⟨cd_X4_copy, ini_X4, rfl, by decide +kernel⟩
theorem mi_X4_feels : MI yX4_feels cX4_feels 1 (some .int) 0 "BagBottom$Thing" := ⟨cd_X4_feels, ini_X4, rfl, by decide +kernel⟩
theorem mi_X4_init : MI yX4_init cX4_init 1 none 0 "BagBottom$Thing" := ⟨cd_X4_init, ini_X4, rfl, by decide +kernel⟩
theorem mi_X4_isOf : MI yX4_isOf cX4_isOf 4 (some .boolean) 1 "BagBottom$Thing" := ⟨cd_X4_isOf, ini_X4, rfl, by decide +kernel⟩
theorem mi_X4_sinks : MI yX4_sinks cX4_sinks 2 (some .int) 1 "BagBottom$Thing" := ⟨cd_X4_sinks, ini_X4, rfl, by decide +kernel⟩
theorem mi_X5_costOfStart : MI yX5_costOfStart cX5_costOfStart 7 (some .int) 2 "BagBottom$Thought" := ⟨cd_X5_costOfStart, ini_X5, rfl, by decide +kernel⟩
theorem mi_X5_init : MI yX5_init cX5_init 1 none 0 "BagBottom$Thought" := ⟨cd_X5_init, ini_X5, rfl, by decide +kernel⟩
theorem mi_X5_learnUses : MI yX5_learnUses cX5_learnUses 5 none 1 "BagBottom$Thought" := ⟨cd_X5_learnUses, ini_X5, rfl, by decide +kernel⟩
theorem mi_X5_packFor : MI yX5_packFor cX5_packFor 6 (some .int) 2 "BagBottom$Thought" := ⟨cd_X5_packFor, ini_X5, rfl, by decide +kernel⟩
theorem mi_X5_setLeftOut : MI yX5_setLeftOut cX5_setLeftOut 9 (some .int) 3 "BagBottom$Thought" := ⟨cd_X5_setLeftOut, ini_X5, rfl, by decide +kernel⟩
theorem mi_X5_stepsToBe : MI yX5_stepsToBe cX5_stepsToBe 4 (some .int) 2 "BagBottom$Thought" := ⟨cd_X5_stepsToBe, ini_X5, rfl, by decide +kernel⟩
theorem mi_X5_stepsToSettle : MI yX5_stepsToSettle cX5_stepsToSettle 3 (some .int) 1 "BagBottom$Thought" := ⟨cd_X5_stepsToSettle, ini_X5, rfl, by decide +kernel⟩
theorem mi_X5_timeWithout : MI yX5_timeWithout cX5_timeWithout 8 (some .int) 3 "BagBottom$Thought" := ⟨cd_X5_timeWithout, ini_X5, rfl, by decide +kernel⟩
theorem mi_X5_usedWithin : MI yX5_usedWithin cX5_usedWithin 5 (some .int) 2 "BagBottom$Thought" := ⟨cd_X5_usedWithin, ini_X5, rfl, by decide +kernel⟩
theorem mi_X5_whereThen : MI yX5_whereThen cX5_whereThen 5 (some .int) 3 "BagBottom$Thought" := ⟨cd_X5_whereThen, ini_X5, rfl, by decide +kernel⟩
theorem mi_X6_answer : MI yX6_answer cX6_answer 5 (some .int) 4 "BagBottom$Voices" := ⟨cd_X6_answer, ini_X6, rfl, by decide +kernel⟩
theorem mi_X6_bodyFrom : MI yX6_bodyFrom cX6_bodyFrom 5 (some .int) 2 "BagBottom$Voices" := ⟨cd_X6_bodyFrom, ini_X6, rfl, by decide +kernel⟩
theorem mi_X6_init : MI yX6_init cX6_init 1 none 0 "BagBottom$Voices" := ⟨cd_X6_init, ini_X6, rfl, by decide +kernel⟩
theorem mi_X6_partedBy : MI yX6_partedBy cX6_partedBy 3 (some .int) 2 "BagBottom$Voices" := ⟨cd_X6_partedBy, ini_X6, rfl, by decide +kernel⟩
theorem mi_X6_speak : MI yX6_speak cX6_speak 8 (some .int) 4 "BagBottom$Voices" := ⟨cd_X6_speak, ini_X6, rfl, by decide +kernel⟩
theorem mi_X7_as : MI yX7_as cX7_as 3 (some .int) 2 "BagBottom" := ⟨cd_X7_as, ini_X7, rfl, by decide +kernel⟩
theorem mi_X7_at : MI yX7_at cX7_at 2 (some .int) 1 "BagBottom" := ⟨cd_X7_at, ini_X7, rfl, by decide +kernel⟩
theorem mi_X7_become : MI yX7_become cX7_become 5 (some .int) 2 "BagBottom" := ⟨cd_X7_become, ini_X7, rfl, by decide +kernel⟩
theorem mi_X7_best : MI yX7_best cX7_best 4 (some .int) 2 "BagBottom" := ⟨cd_X7_best, ini_X7, rfl, by decide +kernel⟩
theorem mi_X7_body : MI yX7_body cX7_body 2 (some .int) 1 "BagBottom" := ⟨cd_X7_body, ini_X7, rfl, by decide +kernel⟩
theorem mi_X7_check : MI yX7_check cX7_check 3 (some .int) 0 "BagBottom" := ⟨cd_X7_check, ini_X7, rfl, by decide +kernel⟩
theorem mi_X7_commonDivisor : MI yX7_commonDivisor cX7_commonDivisor 6 (some .int) 2 "BagBottom" := ⟨cd_X7_commonDivisor, ini_X7, rfl, by decide +kernel⟩
theorem mi_X7_count : MI yX7_count cX7_count 2 (some .int) 1 "BagBottom" := ⟨cd_X7_count, ini_X7, rfl, by decide +kernel⟩
theorem mi_X7_failed : MI yX7_failed cX7_failed 3 (some .int) 1 "BagBottom" := ⟨cd_X7_failed, ini_X7, rfl, by decide +kernel⟩
theorem mi_X7_feed : MI yX7_feed cX7_feed 5 (some .int) 2 "BagBottom" := ⟨cd_X7_feed, ini_X7, rfl, by decide +kernel⟩
theorem mi_X7_fits : MI yX7_fits cX7_fits 3 (some .int) 1 "BagBottom" := ⟨cd_X7_fits, ini_X7, rfl, by decide +kernel⟩
theorem mi_X7_image : MI yX7_image cX7_image 1 (some .int) 0 "BagBottom" := ⟨cd_X7_image, ini_X7, rfl, by decide +kernel⟩
theorem mi_X7_init : MI yX7_init cX7_init 2 none 0 "BagBottom" := ⟨cd_X7_init, ini_X7, rfl, by decide +kernel⟩
theorem mi_X7_isKindAndM : MI yX7_isKindAndM cX7_isKindAndM 1 (some .boolean) 1 "BagBottom" := ⟨cd_X7_isKindAndM, ini_X7, rfl, by decide +kernel⟩
theorem mi_X7_isSheet : MI yX7_isSheet cX7_isSheet 1 (some .boolean) 1 "BagBottom" := ⟨cd_X7_isSheet, ini_X7, rfl, by decide +kernel⟩
theorem mi_X7_isTimeAsked : MI yX7_isTimeAsked cX7_isTimeAsked 1 (some .boolean) 1 "BagBottom" := ⟨cd_X7_isTimeAsked, ini_X7, rfl, by decide +kernel⟩
theorem mi_X7_isUse : MI yX7_isUse cX7_isUse 1 (some .boolean) 1 "BagBottom" := ⟨cd_X7_isUse, ini_X7, rfl, by decide +kernel⟩
theorem mi_X7_isWay : MI yX7_isWay cX7_isWay 1 (some .boolean) 1 "BagBottom" := ⟨cd_X7_isWay, ini_X7, rfl, by decide +kernel⟩
theorem mi_X7_isWeight : MI yX7_isWeight cX7_isWeight 1 (some .boolean) 1 "BagBottom" := ⟨cd_X7_isWeight, ini_X7, rfl, by decide +kernel⟩
theorem mi_X7_judge : MI yX7_judge cX7_judge 2 (some .int) 1 "BagBottom" := ⟨cd_X7_judge, ini_X7, rfl, by decide +kernel⟩
theorem mi_X7_law : MI yX7_law cX7_law 5 (some .int) 4 "BagBottom" := ⟨cd_X7_law, ini_X7, rfl, by decide +kernel⟩
theorem mi_X7_leave : MI yX7_leave cX7_leave 2 (some .int) 1 "BagBottom" := ⟨cd_X7_leave, ini_X7, rfl, by decide +kernel⟩
theorem mi_X7_loose : MI yX7_loose cX7_loose 3 (some .int) 1 "BagBottom" := ⟨cd_X7_loose, ini_X7, rfl, by decide +kernel⟩
theorem mi_X7_move : MI yX7_move cX7_move 8 (some .int) 5 "BagBottom" := ⟨cd_X7_move, ini_X7, rfl, by decide +kernel⟩
theorem mi_X7_odds : MI yX7_odds cX7_odds 6 (some .int) 2 "BagBottom" := ⟨cd_X7_odds, ini_X7, rfl, by decide +kernel⟩
theorem mi_X7_out : MI yX7_out cX7_out 5 (some .int) 3 "BagBottom" := ⟨cd_X7_out, ini_X7, rfl, by decide +kernel⟩
theorem mi_X7_pack : MI yX7_pack cX7_pack 4 (some .int) 2 "BagBottom" := ⟨cd_X7_pack, ini_X7, rfl, by decide +kernel⟩
theorem mi_X7_put : MI yX7_put cX7_put 4 (some .int) 3 "BagBottom" := ⟨cd_X7_put, ini_X7, rfl, by decide +kernel⟩
theorem mi_X7_restore : MI yX7_restore cX7_restore 1 (some .int) 0 "BagBottom" := ⟨cd_X7_restore, ini_X7, rfl, by decide +kernel⟩
theorem mi_X7_seconds : MI yX7_seconds cX7_seconds 3 (some .int) 2 "BagBottom" := ⟨cd_X7_seconds, ini_X7, rfl, by decide +kernel⟩
theorem mi_X7_seed : MI yX7_seed cX7_seed 3 (some .int) 1 "BagBottom" := ⟨cd_X7_seed, ini_X7, rfl, by decide +kernel⟩
theorem mi_X7_settles : MI yX7_settles cX7_settles 2 (some .int) 0 "BagBottom" := ⟨cd_X7_settles, ini_X7, rfl, by decide +kernel⟩
theorem mi_X7_sheet : MI yX7_sheet cX7_sheet 4 (some .int) 3 "BagBottom" := ⟨cd_X7_sheet, ini_X7, rfl, by decide +kernel⟩
theorem mi_X7_stow : MI yX7_stow cX7_stow 2 (some .int) 1 "BagBottom" := ⟨cd_X7_stow, ini_X7, rfl, by decide +kernel⟩
theorem mi_X7_takes : MI yX7_takes cX7_takes 3 (some .int) 2 "BagBottom" := ⟨cd_X7_takes, ini_X7, rfl, by decide +kernel⟩
theorem mi_X7_tell : MI yX7_tell cX7_tell 2 (some .int) 1 "BagBottom" := ⟨cd_X7_tell, ini_X7, rfl, by decide +kernel⟩
theorem mi_X7_text : MI yX7_text cX7_text 3 (some .int) 1 "BagBottom" := ⟨cd_X7_text, ini_X7, rfl, by decide +kernel⟩
theorem mi_X7_then : MI yX7_then cX7_then 3 (some .int) 2 "BagBottom" := ⟨cd_X7_then, ini_X7, rfl, by decide +kernel⟩
theorem mi_X7_thing : MI yX7_thing cX7_thing 4 (some .int) 3 "BagBottom" := ⟨cd_X7_thing, ini_X7, rfl, by decide +kernel⟩
theorem mi_X7_thingIs : MI yX7_thingIs cX7_thingIs 4 (some .int) 2 "BagBottom" := ⟨cd_X7_thingIs, ini_X7, rfl, by decide +kernel⟩
theorem mi_X7_told : MI yX7_told cX7_told 2 (some .int) 1 "BagBottom" := ⟨cd_X7_told, ini_X7, rfl, by decide +kernel⟩
theorem mi_X7_untell : MI yX7_untell cX7_untell 3 (some .int) 1 "BagBottom" := ⟨cd_X7_untell, ini_X7, rfl, by decide +kernel⟩
theorem mi_X7_voice : MI yX7_voice cX7_voice 5 (some .int) 3 "BagBottom" := ⟨cd_X7_voice, ini_X7, rfl, by decide +kernel⟩
theorem mi_X7_walks : MI yX7_walks cX7_walks 2 (some .int) 1 "BagBottom" := ⟨cd_X7_walks, ini_X7, rfl, by decide +kernel⟩
theorem mi_X7_weigh : MI yX7_weigh cX7_weigh 4 (some .int) 2 "BagBottom" := ⟨cd_X7_weigh, ini_X7, rfl, by decide +kernel⟩
theorem mi_X7_weights : MI yX7_weights cX7_weights 2 (some .int) 1 "BagBottom" := ⟨cd_X7_weights, ini_X7, rfl, by decide +kernel⟩
theorem mi_X7_zip : MI yX7_zip cX7_zip 2 (some .int) 1 "BagBottom" := ⟨cd_X7_zip, ini_X7, rfl, by decide +kernel⟩
theorem mi_X8_aStep : MI yX8_aStep cX8_aStep 5 (some .boolean) 0 "BagBottomModel" := ⟨cd_X8_aStep, ini_X8, rfl, by decide +kernel⟩
theorem mi_X8_all : MI yX8_all cX8_all 1 none 0 "BagBottomModel" := ⟨cd_X8_all, ini_X8, rfl, by decide +kernel⟩
theorem mi_X8_any : MI yX8_any cX8_any 1 none 0 "BagBottomModel" := ⟨cd_X8_any, ini_X8, rfl, by decide +kernel⟩
theorem mi_X8_as : MI yX8_as cX8_as 5 (some .int) 2 "BagBottomModel" := ⟨cd_X8_as, ini_X8, rfl, by decide +kernel⟩
theorem mi_X8_at : MI yX8_at cX8_at 2 (some .int) 1 "BagBottomModel" := ⟨cd_X8_at, ini_X8, rfl, by decide +kernel⟩
theorem mi_X8_become : MI yX8_become cX8_become 3 (some .int) 2 "BagBottomModel" := ⟨cd_X8_become, ini_X8, rfl, by decide +kernel⟩
theorem mi_X8_becomes : MI yX8_becomes cX8_becomes 4 (some .int) 2 "BagBottomModel" := ⟨cd_X8_becomes, ini_X8, rfl, by decide +kernel⟩
theorem mi_X8_begins : MI yX8_begins cX8_begins 2 none 1 "BagBottomModel" := ⟨cd_X8_begins, ini_X8, rfl, by decide +kernel⟩
theorem mi_X8_best : MI yX8_best cX8_best 4 (some .int) 2 "BagBottomModel" := ⟨cd_X8_best, ini_X8, rfl, by decide +kernel⟩
theorem mi_X8_bestWay : MI yX8_bestWay cX8_bestWay 4 (some .int) 1 "BagBottomModel" := ⟨cd_X8_bestWay, ini_X8, rfl, by decide +kernel⟩
theorem mi_X8_bits : MI yX8_bits cX8_bits 3 (some .int) 1 "BagBottomModel" := ⟨cd_X8_bits, ini_X8, rfl, by decide +kernel⟩
theorem mi_X8_body : MI yX8_body cX8_body 2 (some .int) 1 "BagBottomModel" := ⟨cd_X8_body, ini_X8, rfl, by decide +kernel⟩
theorem mi_X8_check : MI yX8_check cX8_check 3 (some .int) 0 "BagBottomModel" := ⟨cd_X8_check, ini_X8, rfl, by decide +kernel⟩
theorem mi_X8_compares : MI yX8_compares cX8_compares 2 none 0 "BagBottomModel" := ⟨cd_X8_compares, ini_X8, rfl, by decide +kernel⟩
theorem mi_X8_copyAll : MI yX8_copyAll cX8_copyAll 3 none 2 "BagBottomModel" := ⟨cd_X8_copyAll, ini_X8, rfl, by decide +kernel⟩
theorem mi_X8_count : MI yX8_count cX8_count 2 (some .int) 1 "BagBottomModel" := ⟨cd_X8_count, ini_X8, rfl, by decide +kernel⟩
theorem mi_X8_draw : MI yX8_draw cX8_draw 1 (some .int) 0 "BagBottomModel" := ⟨cd_X8_draw, ini_X8, rfl, by decide +kernel⟩
theorem mi_X8_drawn : MI yX8_drawn cX8_drawn 3 none 0 "BagBottomModel" := ⟨cd_X8_drawn, ini_X8, rfl, by decide +kernel⟩
theorem mi_X8_error : MI yX8_error cX8_error 2 (some .int) 1 "BagBottomModel" := ⟨cd_X8_error, ini_X8, rfl, by decide +kernel⟩
theorem mi_X8_feed : MI yX8_feed cX8_feed 5 (some .int) 2 "BagBottomModel" := ⟨cd_X8_feed, ini_X8, rfl, by decide +kernel⟩
theorem mi_X8_feelingTo : MI yX8_feelingTo cX8_feelingTo 5 (some .int) 1 "BagBottomModel" := ⟨cd_X8_feelingTo, ini_X8, rfl, by decide +kernel⟩
theorem mi_X8_feelsOf : MI yX8_feelsOf cX8_feelsOf 4 (some .int) 1 "BagBottomModel" := ⟨cd_X8_feelsOf, ini_X8, rfl, by decide +kernel⟩
theorem mi_X8_fits : MI yX8_fits cX8_fits 4 (some .int) 1 "BagBottomModel" := ⟨cd_X8_fits, ini_X8, rfl, by decide +kernel⟩
theorem mi_X8_gives : MI yX8_gives cX8_gives 7 (some .int) 4 "BagBottomModel" := ⟨cd_X8_gives, ini_X8, rfl, by decide +kernel⟩
theorem mi_X8_goesFrom : MI yX8_goesFrom cX8_goesFrom 3 none 1 "BagBottomModel" := ⟨cd_X8_goesFrom, ini_X8, rfl, by decide +kernel⟩
theorem mi_X8_goesOnTop : MI yX8_goesOnTop cX8_goesOnTop 3 none 1 "BagBottomModel" := ⟨cd_X8_goesOnTop, ini_X8, rfl, by decide +kernel⟩
theorem mi_X8_held : MI yX8_held cX8_held 3 (some .int) 3 "BagBottomModel" := ⟨cd_X8_held, ini_X8, rfl, by decide +kernel⟩
theorem mi_X8_image : MI yX8_image cX8_image 1 (some .int) 0 "BagBottomModel" := ⟨cd_X8_image, ini_X8, rfl, by decide +kernel⟩
theorem mi_X8_in : MI yX8_in cX8_in 3 (some .boolean) 3 "BagBottomModel" := ⟨cd_X8_in, ini_X8, rfl, by decide +kernel⟩
theorem mi_X8_init : MI yX8_init cX8_init 1 none 0 "BagBottomModel" := ⟨cd_X8_init, ini_X8, rfl, by decide +kernel⟩
theorem mi_X8_inside : MI yX8_inside cX8_inside 3 (some .int) 0 "BagBottomModel" := ⟨cd_X8_inside, ini_X8, rfl, by decide +kernel⟩
theorem mi_X8_isKm : MI yX8_isKm cX8_isKm 1 (some .boolean) 1 "BagBottomModel" := ⟨cd_X8_isKm, ini_X8, rfl, by decide +kernel⟩
theorem mi_X8_isSheet : MI yX8_isSheet cX8_isSheet 1 (some .boolean) 1 "BagBottomModel" := ⟨cd_X8_isSheet, ini_X8, rfl, by decide +kernel⟩
theorem mi_X8_isThing : MI yX8_isThing cX8_isThing 2 (some .boolean) 1 "BagBottomModel" := ⟨cd_X8_isThing, ini_X8, rfl, by decide +kernel⟩
theorem mi_X8_judge : MI yX8_judge cX8_judge 3 (some .int) 1 "BagBottomModel" := ⟨cd_X8_judge, ini_X8, rfl, by decide +kernel⟩
theorem mi_X8_keysRattles : MI yX8_keysRattles cX8_keysRattles 3 (some .int) 2 "BagBottomModel" := ⟨cd_X8_keysRattles, ini_X8, rfl, by decide +kernel⟩
theorem mi_X8_law : MI yX8_law cX8_law 5 (some .int) 4 "BagBottomModel" := ⟨cd_X8_law, ini_X8, rfl, by decide +kernel⟩
theorem mi_X8_leave : MI yX8_leave cX8_leave 3 (some .int) 1 "BagBottomModel" := ⟨cd_X8_leave, ini_X8, rfl, by decide +kernel⟩
theorem mi_X8_look : MI yX8_look cX8_look 1 (some .int) 0 "BagBottomModel" := ⟨cd_X8_look, ini_X8, rfl, by decide +kernel⟩
theorem mi_X8_loose : MI yX8_loose cX8_loose 3 (some .int) 1 "BagBottomModel" := ⟨cd_X8_loose, ini_X8, rfl, by decide +kernel⟩
theorem mi_X8_move : MI yX8_move cX8_move 9 (some .int) 5 "BagBottomModel" := ⟨cd_X8_move, ini_X8, rfl, by decide +kernel⟩
theorem mi_X8_nameOf : MI yX8_nameOf cX8_nameOf 2 (some .int) 1 "BagBottomModel" := ⟨cd_X8_nameOf, ini_X8, rfl, by decide +kernel⟩
theorem mi_X8_notMoved : MI yX8_notMoved cX8_notMoved 7 (some .int) 5 "BagBottomModel" := ⟨cd_X8_notMoved, ini_X8, rfl, by decide +kernel⟩
theorem mi_X8_notThere : MI yX8_notThere cX8_notThere 2 (some .int) 1 "BagBottomModel" := ⟨cd_X8_notThere, ini_X8, rfl, by decide +kernel⟩
theorem mi_X8_number : MI yX8_number cX8_number 3 none 0 "BagBottomModel" := ⟨cd_X8_number, ini_X8, rfl, by decide +kernel⟩
theorem mi_X8_odds : MI yX8_odds cX8_odds 8 (some .int) 2 "BagBottomModel" := ⟨cd_X8_odds, ini_X8, rfl, by decide +kernel⟩
theorem mi_X8_of : MI yX8_of cX8_of 3 (some .int) 2 "BagBottomModel" := ⟨cd_X8_of, ini_X8, rfl, by decide +kernel⟩
theorem mi_X8_one : MI yX8_one cX8_one 3 none 0 "BagBottomModel" := ⟨cd_X8_one, ini_X8, rfl, by decide +kernel⟩
theorem mi_X8_opens : MI yX8_opens cX8_opens 2 none 1 "BagBottomModel" := ⟨cd_X8_opens, ini_X8, rfl, by decide +kernel⟩
theorem mi_X8_out : MI yX8_out cX8_out 8 (some .int) 3 "BagBottomModel" := ⟨cd_X8_out, ini_X8, rfl, by decide +kernel⟩
theorem mi_X8_pack : MI yX8_pack cX8_pack 3 (some .int) 2 "BagBottomModel" := ⟨cd_X8_pack, ini_X8, rfl, by decide +kernel⟩
theorem mi_X8_packing : MI yX8_packing cX8_packing 5 (some .int) 1 "BagBottomModel" := ⟨cd_X8_packing, ini_X8, rfl, by decide +kernel⟩
theorem mi_X8_packs : MI yX8_packs cX8_packs 6 none 3 "BagBottomModel" := ⟨cd_X8_packs, ini_X8, rfl, by decide +kernel⟩
theorem mi_X8_paperRustles : MI yX8_paperRustles cX8_paperRustles 3 (some .int) 2 "BagBottomModel" := ⟨cd_X8_paperRustles, ini_X8, rfl, by decide +kernel⟩
theorem mi_X8_parts : MI yX8_parts cX8_parts 4 (some .int) 2 "BagBottomModel" := ⟨cd_X8_parts, ini_X8, rfl, by decide +kernel⟩
theorem mi_X8_plainParts : MI yX8_plainParts cX8_plainParts 4 (some .int) 2 "BagBottomModel" := ⟨cd_X8_plainParts, ini_X8, rfl, by decide +kernel⟩
theorem mi_X8_plainRattles : MI yX8_plainRattles cX8_plainRattles 3 (some .int) 2 "BagBottomModel" := ⟨cd_X8_plainRattles, ini_X8, rfl, by decide +kernel⟩
theorem mi_X8_plainRings : MI yX8_plainRings cX8_plainRings 3 (some .int) 2 "BagBottomModel" := ⟨cd_X8_plainRings, ini_X8, rfl, by decide +kernel⟩
theorem mi_X8_plainRustles : MI yX8_plainRustles cX8_plainRustles 3 (some .int) 2 "BagBottomModel" := ⟨cd_X8_plainRustles, ini_X8, rfl, by decide +kernel⟩
theorem mi_X8_put : MI yX8_put cX8_put 5 (some .int) 3 "BagBottomModel" := ⟨cd_X8_put, ini_X8, rfl, by decide +kernel⟩
theorem mi_X8_putsBack : MI yX8_putsBack cX8_putsBack 1 none 0 "BagBottomModel" := ⟨cd_X8_putsBack, ini_X8, rfl, by decide +kernel⟩
theorem mi_X8_rattles : MI yX8_rattles cX8_rattles 3 (some .int) 2 "BagBottomModel" := ⟨cd_X8_rattles, ini_X8, rfl, by decide +kernel⟩
theorem mi_X8_restore : MI yX8_restore cX8_restore 1 (some .int) 0 "BagBottomModel" := ⟨cd_X8_restore, ini_X8, rfl, by decide +kernel⟩
theorem mi_X8_rightOf : MI yX8_rightOf cX8_rightOf 3 (some .int) 1 "BagBottomModel" := ⟨cd_X8_rightOf, ini_X8, rfl, by decide +kernel⟩
theorem mi_X8_rings : MI yX8_rings cX8_rings 3 (some .int) 2 "BagBottomModel" := ⟨cd_X8_rings, ini_X8, rfl, by decide +kernel⟩
theorem mi_X8_rustles : MI yX8_rustles cX8_rustles 3 (some .int) 2 "BagBottomModel" := ⟨cd_X8_rustles, ini_X8, rfl, by decide +kernel⟩
theorem mi_X8_seconds : MI yX8_seconds cX8_seconds 3 (some .int) 2 "BagBottomModel" := ⟨cd_X8_seconds, ini_X8, rfl, by decide +kernel⟩
theorem mi_X8_seed : MI yX8_seed cX8_seed 2 (some .int) 1 "BagBottomModel" := ⟨cd_X8_seed, ini_X8, rfl, by decide +kernel⟩
theorem mi_X8_settles : MI yX8_settles cX8_settles 2 (some .int) 0 "BagBottomModel" := ⟨cd_X8_settles, ini_X8, rfl, by decide +kernel⟩
theorem mi_X8_sheet : MI yX8_sheet cX8_sheet 5 (some .int) 3 "BagBottomModel" := ⟨cd_X8_sheet, ini_X8, rfl, by decide +kernel⟩
theorem mi_X8_sinksOf : MI yX8_sinksOf cX8_sinksOf 3 (some .int) 1 "BagBottomModel" := ⟨cd_X8_sinksOf, ini_X8, rfl, by decide +kernel⟩
theorem mi_X8_step : MI yX8_step cX8_step 3 none 2 "BagBottomModel" := ⟨cd_X8_step, ini_X8, rfl, by decide +kernel⟩
theorem mi_X8_steps : MI yX8_steps cX8_steps 4 none 1 "BagBottomModel" := ⟨cd_X8_steps, ini_X8, rfl, by decide +kernel⟩
theorem mi_X8_stow : MI yX8_stow cX8_stow 2 (some .int) 1 "BagBottomModel" := ⟨cd_X8_stow, ini_X8, rfl, by decide +kernel⟩
theorem mi_X8_sum : MI yX8_sum cX8_sum 2 none 0 "BagBottomModel" := ⟨cd_X8_sum, ini_X8, rfl, by decide +kernel⟩
theorem mi_X8_taken : MI yX8_taken cX8_taken 4 (some .int) 2 "BagBottomModel" := ⟨cd_X8_taken, ini_X8, rfl, by decide +kernel⟩
theorem mi_X8_takes : MI yX8_takes cX8_takes 3 (some .int) 2 "BagBottomModel" := ⟨cd_X8_takes, ini_X8, rfl, by decide +kernel⟩
theorem mi_X8_tell : MI yX8_tell cX8_tell 2 (some .int) 1 "BagBottomModel" := ⟨cd_X8_tell, ini_X8, rfl, by decide +kernel⟩
theorem mi_X8_text : MI yX8_text cX8_text 4 (some .int) 1 "BagBottomModel" := ⟨cd_X8_text, ini_X8, rfl, by decide +kernel⟩
theorem mi_X8_then : MI yX8_then cX8_then 4 (some .int) 2 "BagBottomModel" := ⟨cd_X8_then, ini_X8, rfl, by decide +kernel⟩
theorem mi_X8_thing : MI yX8_thing cX8_thing 5 (some .int) 3 "BagBottomModel" := ⟨cd_X8_thing, ini_X8, rfl, by decide +kernel⟩
theorem mi_X8_thingIs : MI yX8_thingIs cX8_thingIs 3 (some .int) 2 "BagBottomModel" := ⟨cd_X8_thingIs, ini_X8, rfl, by decide +kernel⟩
theorem mi_X8_thinks : MI yX8_thinks cX8_thinks 1 none 0 "BagBottomModel" := ⟨cd_X8_thinks, ini_X8, rfl, by decide +kernel⟩
theorem mi_X8_timeOf : MI yX8_timeOf cX8_timeOf 4 (some .int) 2 "BagBottomModel" := ⟨cd_X8_timeOf, ini_X8, rfl, by decide +kernel⟩
theorem mi_X8_times : MI yX8_times cX8_times 2 none 0 "BagBottomModel" := ⟨cd_X8_times, ini_X8, rfl, by decide +kernel⟩
theorem mi_X8_told : MI yX8_told cX8_told 2 (some .int) 1 "BagBottomModel" := ⟨cd_X8_told, ini_X8, rfl, by decide +kernel⟩
theorem mi_X8_turnsOver : MI yX8_turnsOver cX8_turnsOver 4 none 0 "BagBottomModel" := ⟨cd_X8_turnsOver, ini_X8, rfl, by decide +kernel⟩
theorem mi_X8_twoOf : MI yX8_twoOf cX8_twoOf 3 (some .int) 3 "BagBottomModel" := ⟨cd_X8_twoOf, ini_X8, rfl, by decide +kernel⟩
theorem mi_X8_untell : MI yX8_untell cX8_untell 2 (some .int) 1 "BagBottomModel" := ⟨cd_X8_untell, ini_X8, rfl, by decide +kernel⟩
theorem mi_X8_usedOf : MI yX8_usedOf cX8_usedOf 2 (some .int) 1 "BagBottomModel" := ⟨cd_X8_usedOf, ini_X8, rfl, by decide +kernel⟩
theorem mi_X8_voice : MI yX8_voice cX8_voice 5 (some .int) 3 "BagBottomModel" := ⟨cd_X8_voice, ini_X8, rfl, by decide +kernel⟩
theorem mi_X8_walks : MI yX8_walks cX8_walks 2 (some .int) 1 "BagBottomModel" := ⟨cd_X8_walks, ini_X8, rfl, by decide +kernel⟩
theorem mi_X8_weigh : MI yX8_weigh cX8_weigh 3 (some .int) 2 "BagBottomModel" := ⟨cd_X8_weigh, ini_X8, rfl, by decide +kernel⟩
theorem mi_X8_weights : MI yX8_weights cX8_weights 4 (some .int) 1 "BagBottomModel" := ⟨cd_X8_weights, ini_X8, rfl, by decide +kernel⟩
theorem mi_X8_whereIs : MI yX8_whereIs cX8_whereIs 3 (some .int) 1 "BagBottomModel" := ⟨cd_X8_whereIs, ini_X8, rfl, by decide +kernel⟩
theorem mi_X8_works : MI yX8_works cX8_works 5 (some .int) 1 "BagBottomModel" := ⟨cd_X8_works, ini_X8, rfl, by decide +kernel⟩
theorem mi_X8_zip : MI yX8_zip cX8_zip 3 (some .int) 1 "BagBottomModel" := ⟨cd_X8_zip, ini_X8, rfl, by decide +kernel⟩
