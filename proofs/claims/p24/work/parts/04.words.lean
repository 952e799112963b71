/-! THE WORDS: all good words of the tables, each by its place -/
def W0 : List Cond := lw_tbl.filter goodWord
theorem W0_in : ∀ w ∈ W0, w ∈ lw_tbl := fun _ h => (List.mem_filter.mp h).1
theorem W0_good : ∀ w ∈ W0, goodWord w = true := fun _ h => (List.mem_filter.mp h).2
theorem W0_0 {i : Nat} {w : Cond} (h : (k2_sels lw_privs)[i]? = some w) (g : goodWord w = true) : w ∈ W0 := List.mem_filter.mpr ⟨List.mem_append_left _ (List.mem_of_getElem? h), g⟩
theorem W0_1 {i : Nat} {w : Cond} (h : tables_1_1[i]? = some w) (g : goodWord w = true) : w ∈ W0 := List.mem_filter.mpr ⟨List.mem_append_right _ (List.mem_append_left _ (List.mem_of_getElem? h)), g⟩
theorem W0_2 {i : Nat} {w : Cond} (h : tables_1_2[i]? = some w) (g : goodWord w = true) : w ∈ W0 := List.mem_filter.mpr ⟨List.mem_append_right _ (List.mem_append_right _ (List.mem_append_left _ (List.mem_of_getElem? h))), g⟩
theorem W0_3 {i : Nat} {w : Cond} (h : tables_1_3[i]? = some w) (g : goodWord w = true) : w ∈ W0 := List.mem_filter.mpr ⟨List.mem_append_right _ (List.mem_append_right _ (List.mem_append_right _ (List.mem_append_left _ (List.mem_of_getElem? h)))), g⟩
theorem W0_4 {i : Nat} {w : Cond} (h : tables_1_4[i]? = some w) (g : goodWord w = true) : w ∈ W0 := List.mem_filter.mpr ⟨List.mem_append_right _ (List.mem_append_right _ (List.mem_append_right _ (List.mem_append_right _ (List.mem_append_left _ (List.mem_of_getElem? h))))), g⟩
theorem W0_5 {i : Nat} {w : Cond} (h : tables_1_5[i]? = some w) (g : goodWord w = true) : w ∈ W0 := List.mem_filter.mpr ⟨List.mem_append_right _ (List.mem_append_right _ (List.mem_append_right _ (List.mem_append_right _ (List.mem_append_right _ (List.mem_append_left _ (List.mem_of_getElem? h)))))), g⟩
theorem W0_6 {i : Nat} {w : Cond} (h : tables_1_6[i]? = some w) (g : goodWord w = true) : w ∈ W0 := List.mem_filter.mpr ⟨List.mem_append_right _ (List.mem_append_right _ (List.mem_append_right _ (List.mem_append_right _ (List.mem_append_right _ (List.mem_append_right _ (List.mem_of_getElem? h)))))), g⟩
theorem tW_1_0 : (Cond.initialized "WidowWatchLaw") ∈ W0 := W0_1 (i := 0) rfl rfl
theorem tW_1_1 : (Cond.initialized "WidowWatch") ∈ W0 := W0_1 (i := 1) rfl rfl
theorem tW_1_2 : (Cond.initialized "WidowWatch$Book") ∈ W0 := W0_1 (i := 2) rfl rfl
theorem tW_1_3 : (Cond.initialized "WidowWatch$History") ∈ W0 := W0_1 (i := 3) rfl rfl
theorem tW_1_4 : (Cond.initialized "WidowWatch$Reader") ∈ W0 := W0_1 (i := 4) rfl rfl
theorem tW_1_5 : (Cond.initialized "WidowWatch$Lines") ∈ W0 := W0_1 (i := 5) rfl rfl
theorem tW_1_6 : (Cond.initialized "WidowWatch$Planner") ∈ W0 := W0_1 (i := 6) rfl rfl
theorem tW_1_7 : (Cond.initialized "WidowWatch$Plan") ∈ W0 := W0_1 (i := 7) rfl rfl
theorem tW_1_8 : (Cond.initialized "WidowWatchLaw$Random") ∈ W0 := W0_1 (i := 8) rfl rfl
theorem tW_1_9 : (Cond.initialized "WidowWatchLaw$Book") ∈ W0 := W0_1 (i := 9) rfl rfl
theorem tW_1_10 : (Cond.initialized "WidowWatchLaw$Plan") ∈ W0 := W0_1 (i := 10) rfl rfl
theorem tW_1_11 : (Cond.initialized "java/lang/Throwable") ∈ W0 := W0_1 (i := 11) rfl rfl
theorem tW_1_12 : (Cond.initialized "java/lang/Exception") ∈ W0 := W0_1 (i := 12) rfl rfl
theorem tW_1_13 : (Cond.initialized "java/lang/RuntimeException") ∈ W0 := W0_1 (i := 13) rfl rfl
theorem tW_1_14 : (Cond.initialized "java/lang/IllegalArgumentException") ∈ W0 := W0_1 (i := 14) rfl rfl
theorem tW_1_15 : (Cond.initialized "java/lang/IndexOutOfBoundsException") ∈ W0 := W0_1 (i := 15) rfl rfl
theorem tW_1_16 : (Cond.initialized "java/lang/Math") ∈ W0 := W0_1 (i := 16) rfl rfl
theorem tW_1_17 : (Cond.initialized "java/lang/IllegalStateException") ∈ W0 := W0_1 (i := 17) rfl rfl
theorem tW_1_18 : (Cond.initialized "java/lang/String") ∈ W0 := W0_1 (i := 18) rfl rfl
theorem tW_1_19 : (Cond.initialized "java/lang/StringLatin1") ∈ W0 := W0_1 (i := 19) rfl rfl
theorem tW_1_20 : (Cond.initialized "jdk/internal/util/Preconditions") ∈ W0 := W0_1 (i := 20) rfl rfl
theorem tW_1_21 : (Cond.initialized "java/lang/StringUTF16") ∈ W0 := W0_1 (i := 21) rfl rfl
theorem tW_1_22 : (Cond.initialized "WidowWatchLaw$Para") ∈ W0 := W0_1 (i := 22) rfl rfl
theorem tW_1_23 : (Cond.initialized "java/lang/AbstractStringBuilder") ∈ W0 := W0_1 (i := 23) rfl rfl
theorem tW_1_24 : (Cond.initialized "java/lang/StringBuilder") ∈ W0 := W0_1 (i := 24) rfl rfl
theorem tW_1_25 : (Cond.initialized "jdk/internal/util/ArraysSupport") ∈ W0 := W0_1 (i := 25) rfl rfl
theorem tW_1_26 : (Cond.initialized "java/util/Arrays") ∈ W0 := W0_1 (i := 26) rfl rfl
theorem tW_1_27 : (Cond.initialized "java/lang/System") ∈ W0 := W0_1 (i := 27) rfl rfl
theorem tW_1_28 : (Cond.initialized "java/lang/Number") ∈ W0 := W0_1 (i := 28) rfl rfl
theorem tW_1_29 : (Cond.initialized "java/lang/Integer") ∈ W0 := W0_1 (i := 29) rfl rfl
theorem tW_1_30 : (Cond.initialized "java/util/NoSuchElementException") ∈ W0 := W0_1 (i := 30) rfl rfl
theorem tW_1_31 : (Cond.classLink "WidowWatchLaw" (14) "WidowWatch") ∈ W0 := W0_1 (i := 31) rfl rfl
theorem tW_1_32 : (Cond.instantiable "WidowWatch" (13)) ∈ W0 := W0_1 (i := 32) rfl rfl
theorem tW_1_33 : (Cond.methodLink "WidowWatchLaw" (206) ⟨"WidowWatch", "<init>", "()V"⟩) ∈ W0 := W0_1 (i := 33) rfl rfl
theorem tW_1_34 : (Cond.instanceMethod ⟨"WidowWatch", "<init>", "()V"⟩) ∈ W0 := W0_1 (i := 34) rfl rfl
theorem tW_1_35 : (Cond.code ⟨"WidowWatch", "<init>", "()V"⟩ prog_1_method_1_code (1) (none : Option Jvm.ClassFile.FieldType)) ∈ W0 := W0_1 (i := 35) rfl rfl
theorem tW_1_36 : (Cond.methodLink "WidowWatch" (3) ⟨"java/lang/Object", "<init>", "()V"⟩) ∈ W0 := W0_1 (i := 36) rfl rfl
theorem tW_1_37 : (Cond.instanceMethod ⟨"java/lang/Object", "<init>", "()V"⟩) ∈ W0 := W0_1 (i := 37) rfl rfl
theorem tW_1_38 : (Cond.code ⟨"java/lang/Object", "<init>", "()V"⟩ object_method_1_code (1) (none : Option Jvm.ClassFile.FieldType)) ∈ W0 := W0_1 (i := 38) rfl rfl
theorem tW_1_39 : (Cond.classLink "WidowWatch" (20) "WidowWatch$Book") ∈ W0 := W0_1 (i := 39) rfl rfl
theorem tW_1_40 : (Cond.instantiable "WidowWatch$Book" (7)) ∈ W0 := W0_1 (i := 40) rfl rfl
theorem tW_1_41 : (Cond.methodLink "WidowWatch" (22) ⟨"WidowWatch$Book", "<init>", "()V"⟩) ∈ W0 := W0_1 (i := 41) rfl rfl
theorem tW_1_42 : (Cond.instanceMethod ⟨"WidowWatch$Book", "<init>", "()V"⟩) ∈ W0 := W0_1 (i := 42) rfl rfl
theorem tW_1_43 : (Cond.code ⟨"WidowWatch$Book", "<init>", "()V"⟩ prog_2_method_1_code (1) (none : Option Jvm.ClassFile.FieldType)) ∈ W0 := W0_1 (i := 43) rfl rfl
theorem tW_1_44 : (Cond.methodLink "WidowWatch$Book" (5) ⟨"java/lang/Object", "<init>", "()V"⟩) ∈ W0 := W0_1 (i := 44) rfl rfl
theorem tW_1_45 : (Cond.methodLink "WidowWatch$Book" (18) ⟨"WidowWatch$Book", "reset", "()V"⟩) ∈ W0 := W0_1 (i := 45) rfl rfl
theorem tW_1_46 : (Cond.instanceMethod ⟨"WidowWatch$Book", "reset", "()V"⟩) ∈ W0 := W0_1 (i := 46) rfl rfl
theorem tW_1_47 : (Cond.selects "WidowWatch$Book" ⟨"WidowWatch$Book", "reset", "()V"⟩ ⟨"WidowWatch$Book", "reset", "()V"⟩) ∈ W0 := W0_1 (i := 47) rfl rfl
theorem tW_1_48 : (Cond.code ⟨"WidowWatch$Book", "reset", "()V"⟩ prog_2_method_2_code (1) (none : Option Jvm.ClassFile.FieldType)) ∈ W0 := W0_1 (i := 48) rfl rfl
theorem tW_1_52 : (Cond.static ⟨"WidowWatch", "copyRow", "([I[I)V"⟩) ∈ W0 := W0_1 (i := 52) rfl rfl
theorem tW_1_53 : (Cond.code ⟨"WidowWatch", "copyRow", "([I[I)V"⟩ prog_1_method_35_code (3) (none : Option Jvm.ClassFile.FieldType)) ∈ W0 := W0_1 (i := 53) rfl rfl
theorem tW_1_54 : (Cond.fieldLink "WidowWatch$Book" (21) "WidowWatch$Book" "width" "I") ∈ W0 := W0_1 (i := 54) rfl rfl
theorem tW_1_55 : (Cond.fieldLink "WidowWatch$Reader" (69) "WidowWatch$Book" "width" "I") ∈ W0 := W0_1 (i := 55) rfl rfl
theorem tW_1_56 : (Cond.fieldLink "WidowWatch$Planner" (24) "WidowWatch$Book" "height" "I") ∈ W0 := W0_1 (i := 56) rfl rfl
theorem tW_1_57 : (Cond.fieldLink "WidowWatch$Book" (25) "WidowWatch$Book" "height" "I") ∈ W0 := W0_1 (i := 57) rfl rfl
theorem tW_1_58 : (Cond.fieldLink "WidowWatch$Reader" (72) "WidowWatch$Book" "height" "I") ∈ W0 := W0_1 (i := 58) rfl rfl
theorem tW_1_59 : (Cond.fieldLink "WidowWatch$Plan" (86) "WidowWatch$Book" "height" "I") ∈ W0 := W0_1 (i := 59) rfl rfl
theorem tW_1_60 : (Cond.fieldLink "WidowWatch$Book" (28) "WidowWatch$Book" "slack" "I") ∈ W0 := W0_1 (i := 60) rfl rfl
theorem tW_1_61 : (Cond.fieldLink "WidowWatch$Reader" (75) "WidowWatch$Book" "slack" "I") ∈ W0 := W0_1 (i := 61) rfl rfl
theorem tW_1_62 : (Cond.fieldLink "WidowWatch$Book" (31) "WidowWatch$Book" "limit" "I") ∈ W0 := W0_1 (i := 62) rfl rfl
theorem tW_1_63 : (Cond.fieldLink "WidowWatch$Reader" (103) "WidowWatch$Book" "limit" "I") ∈ W0 := W0_1 (i := 63) rfl rfl
theorem tW_1_64 : (Cond.fieldLink "WidowWatch$Planner" (30) "WidowWatch$Book" "paragraphs" "I") ∈ W0 := W0_1 (i := 64) rfl rfl
theorem tW_1_65 : (Cond.fieldLink "WidowWatch$Book" (34) "WidowWatch$Book" "paragraphs" "I") ∈ W0 := W0_1 (i := 65) rfl rfl
theorem tW_1_66 : (Cond.fieldLink "WidowWatch" (109) "WidowWatch$Book" "paragraphs" "I") ∈ W0 := W0_1 (i := 66) rfl rfl
theorem tW_1_67 : (Cond.fieldLink "WidowWatch$Lines" (22) "WidowWatch$Book" "paragraphs" "I") ∈ W0 := W0_1 (i := 67) rfl rfl
theorem tW_1_68 : (Cond.fieldLink "WidowWatch$Reader" (105) "WidowWatch$Book" "paragraphs" "I") ∈ W0 := W0_1 (i := 68) rfl rfl
theorem tW_1_69 : (Cond.fieldLink "WidowWatch$Book" (11) "WidowWatch$Book" "costs" "[I") ∈ W0 := W0_1 (i := 69) rfl rfl
theorem tW_1_70 : (Cond.fieldLink "WidowWatch$Book" (15) "WidowWatch$Book" "rows" "[I") ∈ W0 := W0_1 (i := 70) rfl rfl
theorem tW_1_71 : (Cond.lays "WidowWatch$Book" "WidowWatch$Book" "width" "I") ∈ W0 := W0_1 (i := 71) rfl rfl
theorem tW_1_73 : (Cond.lays "WidowWatch$Book" "WidowWatch$Book" "height" "I") ∈ W0 := W0_1 (i := 73) rfl rfl
theorem tW_1_75 : (Cond.lays "WidowWatch$Book" "WidowWatch$Book" "slack" "I") ∈ W0 := W0_1 (i := 75) rfl rfl
theorem tW_1_77 : (Cond.lays "WidowWatch$Book" "WidowWatch$Book" "limit" "I") ∈ W0 := W0_1 (i := 77) rfl rfl
theorem tW_1_79 : (Cond.lays "WidowWatch$Book" "WidowWatch$Book" "paragraphs" "I") ∈ W0 := W0_1 (i := 79) rfl rfl
theorem tW_1_81 : (Cond.laysFinal "WidowWatch$Book" "WidowWatch$Book" "costs" "[I") ∈ W0 := W0_1 (i := 81) rfl rfl
theorem tW_1_83 : (Cond.laysFinal "WidowWatch$Book" "WidowWatch$Book" "rows" "[I") ∈ W0 := W0_1 (i := 83) rfl rfl
theorem tW_1_86 : (Cond.arrayClass FieldType.int) ∈ W0 := W0_1 (i := 86) rfl rfl
theorem tW_1_87 : (Cond.classLink "WidowWatch" (27) "WidowWatch$History") ∈ W0 := W0_1 (i := 87) rfl rfl
theorem tW_1_88 : (Cond.instantiable "WidowWatch$History" (3)) ∈ W0 := W0_1 (i := 88) rfl rfl
theorem tW_1_89 : (Cond.methodLink "WidowWatch" (29) ⟨"WidowWatch$History", "<init>", "()V"⟩) ∈ W0 := W0_1 (i := 89) rfl rfl
theorem tW_1_90 : (Cond.instanceMethod ⟨"WidowWatch$History", "<init>", "()V"⟩) ∈ W0 := W0_1 (i := 90) rfl rfl
theorem tW_1_91 : (Cond.code ⟨"WidowWatch$History", "<init>", "()V"⟩ prog_3_method_1_code (2) (none : Option Jvm.ClassFile.FieldType)) ∈ W0 := W0_1 (i := 91) rfl rfl
theorem tW_1_92 : (Cond.methodLink "WidowWatch$History" (3) ⟨"java/lang/Object", "<init>", "()V"⟩) ∈ W0 := W0_1 (i := 92) rfl rfl
theorem tW_1_93 : (Cond.classLink "WidowWatch$History" (9) "WidowWatch$Book") ∈ W0 := W0_1 (i := 93) rfl rfl
theorem tW_1_95 : (Cond.methodLink "WidowWatch$History" (24) ⟨"WidowWatch$Book", "<init>", "()V"⟩) ∈ W0 := W0_1 (i := 95) rfl rfl
theorem tW_1_96 : (Cond.fieldLink "WidowWatch$History" (11) "WidowWatch$History" "books" "[LWidowWatch$Book;") ∈ W0 := W0_1 (i := 96) rfl rfl
theorem tW_1_97 : (Cond.fieldLink "WidowWatch$History" (17) "WidowWatch$History" "next" "I") ∈ W0 := W0_1 (i := 97) rfl rfl
theorem tW_1_98 : (Cond.fieldLink "WidowWatch$History" (21) "WidowWatch$History" "kept" "I") ∈ W0 := W0_1 (i := 98) rfl rfl
theorem tW_1_99 : (Cond.fieldLink "WidowWatch" (239) "WidowWatch$History" "kept" "I") ∈ W0 := W0_1 (i := 99) rfl rfl
theorem tW_1_100 : (Cond.laysFinal "WidowWatch$History" "WidowWatch$History" "books" "[LWidowWatch$Book;") ∈ W0 := W0_1 (i := 100) rfl rfl
theorem tW_1_102 : (Cond.lays "WidowWatch$History" "WidowWatch$History" "next" "I") ∈ W0 := W0_1 (i := 102) rfl rfl
theorem tW_1_104 : (Cond.lays "WidowWatch$History" "WidowWatch$History" "kept" "I") ∈ W0 := W0_1 (i := 104) rfl rfl
theorem tW_1_107 : (Cond.classLink "WidowWatch" (34) "WidowWatch$Reader") ∈ W0 := W0_1 (i := 107) rfl rfl
theorem tW_1_108 : (Cond.instantiable "WidowWatch$Reader" (8)) ∈ W0 := W0_1 (i := 108) rfl rfl
theorem tW_1_110 : (Cond.instanceMethod ⟨"WidowWatch$Reader", "<init>", "()V"⟩) ∈ W0 := W0_1 (i := 110) rfl rfl
theorem tW_1_111 : (Cond.code ⟨"WidowWatch$Reader", "<init>", "()V"⟩ prog_7_method_1_code (1) (none : Option Jvm.ClassFile.FieldType)) ∈ W0 := W0_1 (i := 111) rfl rfl
theorem tW_1_112 : (Cond.methodLink "WidowWatch$Reader" (3) ⟨"java/lang/Object", "<init>", "()V"⟩) ∈ W0 := W0_1 (i := 112) rfl rfl
theorem tW_1_113 : (Cond.classLink "WidowWatch$Reader" (9) "WidowWatch$Book") ∈ W0 := W0_1 (i := 113) rfl rfl
theorem tW_1_114 : (Cond.methodLink "WidowWatch$Reader" (11) ⟨"WidowWatch$Book", "<init>", "()V"⟩) ∈ W0 := W0_1 (i := 114) rfl rfl
theorem tW_1_115 : (Cond.fieldLink "WidowWatch$Reader" (12) "WidowWatch$Reader" "draft" "LWidowWatch$Book;") ∈ W0 := W0_1 (i := 115) rfl rfl
theorem tW_1_116 : (Cond.fieldLink "WidowWatch" (100) "WidowWatch$Reader" "draft" "LWidowWatch$Book;") ∈ W0 := W0_1 (i := 116) rfl rfl
theorem tW_1_117 : (Cond.fieldLink "WidowWatch$Reader" (18) "WidowWatch$Reader" "text" "[I") ∈ W0 := W0_1 (i := 117) rfl rfl
theorem tW_1_118 : (Cond.fieldLink "WidowWatch$Reader" (22) "WidowWatch$Reader" "length" "I") ∈ W0 := W0_1 (i := 118) rfl rfl
theorem tW_1_119 : (Cond.fieldLink "WidowWatch$Reader" (26) "WidowWatch$Reader" "at" "I") ∈ W0 := W0_1 (i := 119) rfl rfl
theorem tW_1_120 : (Cond.fieldLink "WidowWatch$Reader" (29) "WidowWatch$Reader" "error" "I") ∈ W0 := W0_1 (i := 120) rfl rfl
theorem tW_1_121 : (Cond.fieldLink "WidowWatch" (93) "WidowWatch$Reader" "error" "I") ∈ W0 := W0_1 (i := 121) rfl rfl
theorem tW_1_122 : (Cond.fieldLink "WidowWatch$Reader" (32) "WidowWatch$Reader" "errorOffset" "I") ∈ W0 := W0_1 (i := 122) rfl rfl
theorem tW_1_123 : (Cond.fieldLink "WidowWatch" (90) "WidowWatch$Reader" "errorOffset" "I") ∈ W0 := W0_1 (i := 123) rfl rfl
theorem tW_1_124 : (Cond.fieldLink "WidowWatch$Reader" (35) "WidowWatch$Reader" "hasCosts" "Z") ∈ W0 := W0_1 (i := 124) rfl rfl
theorem tW_1_125 : (Cond.fieldLink "WidowWatch$Reader" (39) "WidowWatch$Reader" "hasLimit" "Z") ∈ W0 := W0_1 (i := 125) rfl rfl
theorem tW_1_126 : (Cond.laysFinal "WidowWatch$Reader" "WidowWatch$Reader" "draft" "LWidowWatch$Book;") ∈ W0 := W0_1 (i := 126) rfl rfl
theorem tW_1_128 : (Cond.lays "WidowWatch$Reader" "WidowWatch$Reader" "text" "[I") ∈ W0 := W0_1 (i := 128) rfl rfl
theorem tW_1_130 : (Cond.lays "WidowWatch$Reader" "WidowWatch$Reader" "length" "I") ∈ W0 := W0_1 (i := 130) rfl rfl
theorem tW_1_132 : (Cond.lays "WidowWatch$Reader" "WidowWatch$Reader" "at" "I") ∈ W0 := W0_1 (i := 132) rfl rfl
theorem tW_1_134 : (Cond.lays "WidowWatch$Reader" "WidowWatch$Reader" "error" "I") ∈ W0 := W0_1 (i := 134) rfl rfl
theorem tW_1_136 : (Cond.lays "WidowWatch$Reader" "WidowWatch$Reader" "errorOffset" "I") ∈ W0 := W0_1 (i := 136) rfl rfl
theorem tW_1_138 : (Cond.lays "WidowWatch$Reader" "WidowWatch$Reader" "hasCosts" "Z") ∈ W0 := W0_1 (i := 138) rfl rfl
theorem tW_1_140 : (Cond.lays "WidowWatch$Reader" "WidowWatch$Reader" "hasLimit" "Z") ∈ W0 := W0_1 (i := 140) rfl rfl
theorem tW_1_143 : (Cond.classLink "WidowWatch" (41) "WidowWatch$Lines") ∈ W0 := W0_1 (i := 143) rfl rfl
theorem tW_1_144 : (Cond.instantiable "WidowWatch$Lines" (2)) ∈ W0 := W0_1 (i := 144) rfl rfl
theorem tW_1_146 : (Cond.instanceMethod ⟨"WidowWatch$Lines", "<init>", "()V"⟩) ∈ W0 := W0_1 (i := 146) rfl rfl
theorem tW_1_147 : (Cond.code ⟨"WidowWatch$Lines", "<init>", "()V"⟩ prog_4_method_1_code (1) (none : Option Jvm.ClassFile.FieldType)) ∈ W0 := W0_1 (i := 147) rfl rfl
theorem tW_1_148 : (Cond.methodLink "WidowWatch$Lines" (3) ⟨"java/lang/Object", "<init>", "()V"⟩) ∈ W0 := W0_1 (i := 148) rfl rfl
theorem tW_1_149 : (Cond.fieldLink "WidowWatch$Lines" (9) "WidowWatch$Lines" "counts" "[I") ∈ W0 := W0_1 (i := 149) rfl rfl
theorem tW_1_150 : (Cond.fieldLink "WidowWatch$Lines" (15) "WidowWatch$Lines" "taken" "[I") ∈ W0 := W0_1 (i := 150) rfl rfl
theorem tW_1_151 : (Cond.laysFinal "WidowWatch$Lines" "WidowWatch$Lines" "counts" "[I") ∈ W0 := W0_1 (i := 151) rfl rfl
theorem tW_1_153 : (Cond.laysFinal "WidowWatch$Lines" "WidowWatch$Lines" "taken" "[I") ∈ W0 := W0_1 (i := 153) rfl rfl
theorem tW_1_156 : (Cond.classLink "WidowWatch" (48) "WidowWatch$Planner") ∈ W0 := W0_1 (i := 156) rfl rfl
theorem tW_1_157 : (Cond.instantiable "WidowWatch$Planner" (4)) ∈ W0 := W0_1 (i := 157) rfl rfl
theorem tW_1_159 : (Cond.instanceMethod ⟨"WidowWatch$Planner", "<init>", "()V"⟩) ∈ W0 := W0_1 (i := 159) rfl rfl
theorem tW_1_160 : (Cond.code ⟨"WidowWatch$Planner", "<init>", "()V"⟩ prog_6_method_1_code (1) (none : Option Jvm.ClassFile.FieldType)) ∈ W0 := W0_1 (i := 160) rfl rfl
theorem tW_1_161 : (Cond.methodLink "WidowWatch$Planner" (3) ⟨"java/lang/Object", "<init>", "()V"⟩) ∈ W0 := W0_1 (i := 161) rfl rfl
theorem tW_1_162 : (Cond.fieldLink "WidowWatch$Planner" (11) "WidowWatch$Planner" "restOfBook" "[I") ∈ W0 := W0_1 (i := 162) rfl rfl
theorem tW_1_163 : (Cond.fieldLink "WidowWatch$Planner" (15) "WidowWatch$Planner" "chosen" "[I") ∈ W0 := W0_1 (i := 163) rfl rfl
theorem tW_1_164 : (Cond.fieldLink "WidowWatch$Planner" (18) "WidowWatch$Planner" "rest" "[I") ∈ W0 := W0_1 (i := 164) rfl rfl
theorem tW_1_165 : (Cond.fieldLink "WidowWatch$Planner" (21) "WidowWatch$Planner" "ends" "[I") ∈ W0 := W0_1 (i := 165) rfl rfl
theorem tW_1_166 : (Cond.laysFinal "WidowWatch$Planner" "WidowWatch$Planner" "restOfBook" "[I") ∈ W0 := W0_1 (i := 166) rfl rfl
theorem tW_1_168 : (Cond.laysFinal "WidowWatch$Planner" "WidowWatch$Planner" "chosen" "[I") ∈ W0 := W0_1 (i := 168) rfl rfl
theorem tW_1_170 : (Cond.laysFinal "WidowWatch$Planner" "WidowWatch$Planner" "rest" "[I") ∈ W0 := W0_1 (i := 170) rfl rfl
theorem tW_1_172 : (Cond.laysFinal "WidowWatch$Planner" "WidowWatch$Planner" "ends" "[I") ∈ W0 := W0_1 (i := 172) rfl rfl
theorem tW_1_175 : (Cond.classLink "WidowWatch" (55) "WidowWatch$Plan") ∈ W0 := W0_1 (i := 175) rfl rfl
theorem tW_1_176 : (Cond.instantiable "WidowWatch$Plan" (7)) ∈ W0 := W0_1 (i := 176) rfl rfl
theorem tW_1_178 : (Cond.instanceMethod ⟨"WidowWatch$Plan", "<init>", "()V"⟩) ∈ W0 := W0_1 (i := 178) rfl rfl
theorem tW_1_179 : (Cond.code ⟨"WidowWatch$Plan", "<init>", "()V"⟩ prog_5_method_1_code (1) (none : Option Jvm.ClassFile.FieldType)) ∈ W0 := W0_1 (i := 179) rfl rfl
theorem tW_1_180 : (Cond.methodLink "WidowWatch$Plan" (3) ⟨"java/lang/Object", "<init>", "()V"⟩) ∈ W0 := W0_1 (i := 180) rfl rfl
theorem tW_1_181 : (Cond.fieldLink "WidowWatch$Plan" (9) "WidowWatch$Plan" "pages" "I") ∈ W0 := W0_1 (i := 181) rfl rfl
theorem tW_1_182 : (Cond.fieldLink "WidowWatch" (187) "WidowWatch$Plan" "pages" "I") ∈ W0 := W0_1 (i := 182) rfl rfl
theorem tW_1_183 : (Cond.fieldLink "WidowWatch$Plan" (15) "WidowWatch$Plan" "paragraphs" "I") ∈ W0 := W0_1 (i := 183) rfl rfl
theorem tW_1_184 : (Cond.fieldLink "WidowWatch$Plan" (18) "WidowWatch$Plan" "settings" "[I") ∈ W0 := W0_1 (i := 184) rfl rfl
theorem tW_1_185 : (Cond.fieldLink "WidowWatch$Plan" (22) "WidowWatch$Plan" "counts" "[I") ∈ W0 := W0_1 (i := 185) rfl rfl
theorem tW_1_186 : (Cond.fieldLink "WidowWatch$Plan" (25) "WidowWatch$Plan" "firstParagraphs" "[I") ∈ W0 := W0_1 (i := 186) rfl rfl
theorem tW_1_187 : (Cond.fieldLink "WidowWatch$Plan" (28) "WidowWatch$Plan" "firstLines" "[I") ∈ W0 := W0_1 (i := 187) rfl rfl
theorem tW_1_188 : (Cond.fieldLink "WidowWatch$Plan" (31) "WidowWatch$Plan" "sizes" "[I") ∈ W0 := W0_1 (i := 188) rfl rfl
theorem tW_1_189 : (Cond.lays "WidowWatch$Plan" "WidowWatch$Plan" "pages" "I") ∈ W0 := W0_1 (i := 189) rfl rfl
theorem tW_1_191 : (Cond.lays "WidowWatch$Plan" "WidowWatch$Plan" "paragraphs" "I") ∈ W0 := W0_1 (i := 191) rfl rfl
theorem tW_1_193 : (Cond.laysFinal "WidowWatch$Plan" "WidowWatch$Plan" "settings" "[I") ∈ W0 := W0_1 (i := 193) rfl rfl
theorem tW_1_195 : (Cond.laysFinal "WidowWatch$Plan" "WidowWatch$Plan" "counts" "[I") ∈ W0 := W0_1 (i := 195) rfl rfl
theorem tW_1_197 : (Cond.laysFinal "WidowWatch$Plan" "WidowWatch$Plan" "firstParagraphs" "[I") ∈ W0 := W0_1 (i := 197) rfl rfl
theorem tW_1_199 : (Cond.laysFinal "WidowWatch$Plan" "WidowWatch$Plan" "firstLines" "[I") ∈ W0 := W0_1 (i := 199) rfl rfl
theorem tW_1_201 : (Cond.laysFinal "WidowWatch$Plan" "WidowWatch$Plan" "sizes" "[I") ∈ W0 := W0_1 (i := 201) rfl rfl
theorem tW_1_204 : (Cond.fieldLink "WidowWatch" (9) "WidowWatch" "buffer" "[I") ∈ W0 := W0_1 (i := 204) rfl rfl
theorem tW_1_205 : (Cond.fieldLink "WidowWatch" (13) "WidowWatch" "bufferLength" "I") ∈ W0 := W0_1 (i := 205) rfl rfl
theorem tW_1_206 : (Cond.fieldLink "WidowWatch" (17) "WidowWatch" "latestErrorOffset" "I") ∈ W0 := W0_1 (i := 206) rfl rfl
theorem tW_1_207 : (Cond.fieldLink "WidowWatch" (23) "WidowWatch" "book" "LWidowWatch$Book;") ∈ W0 := W0_1 (i := 207) rfl rfl
theorem tW_1_208 : (Cond.fieldLink "WidowWatch" (30) "WidowWatch" "history" "LWidowWatch$History;") ∈ W0 := W0_1 (i := 208) rfl rfl
theorem tW_1_209 : (Cond.fieldLink "WidowWatch" (37) "WidowWatch" "reader" "LWidowWatch$Reader;") ∈ W0 := W0_1 (i := 209) rfl rfl
theorem tW_1_210 : (Cond.fieldLink "WidowWatch" (44) "WidowWatch" "lines" "LWidowWatch$Lines;") ∈ W0 := W0_1 (i := 210) rfl rfl
theorem tW_1_211 : (Cond.fieldLink "WidowWatch" (51) "WidowWatch" "planner" "LWidowWatch$Planner;") ∈ W0 := W0_1 (i := 211) rfl rfl
theorem tW_1_212 : (Cond.fieldLink "WidowWatch" (58) "WidowWatch" "plainPlan" "LWidowWatch$Plan;") ∈ W0 := W0_1 (i := 212) rfl rfl
theorem tW_1_213 : (Cond.fieldLink "WidowWatch" (62) "WidowWatch" "bestPlan" "LWidowWatch$Plan;") ∈ W0 := W0_1 (i := 213) rfl rfl
theorem tW_1_214 : (Cond.fieldLink "WidowWatch" (65) "WidowWatch" "trialPlan" "LWidowWatch$Plan;") ∈ W0 := W0_1 (i := 214) rfl rfl
theorem tW_1_215 : (Cond.fieldLink "WidowWatch" (68) "WidowWatch" "isPlainFresh" "Z") ∈ W0 := W0_1 (i := 215) rfl rfl
theorem tW_1_216 : (Cond.fieldLink "WidowWatch" (72) "WidowWatch" "isBestFresh" "Z") ∈ W0 := W0_1 (i := 216) rfl rfl
theorem tW_1_217 : (Cond.laysFinal "WidowWatch" "WidowWatch" "buffer" "[I") ∈ W0 := W0_1 (i := 217) rfl rfl
theorem tW_1_219 : (Cond.lays "WidowWatch" "WidowWatch" "bufferLength" "I") ∈ W0 := W0_1 (i := 219) rfl rfl
theorem tW_1_221 : (Cond.lays "WidowWatch" "WidowWatch" "latestErrorOffset" "I") ∈ W0 := W0_1 (i := 221) rfl rfl
theorem tW_1_223 : (Cond.laysFinal "WidowWatch" "WidowWatch" "book" "LWidowWatch$Book;") ∈ W0 := W0_1 (i := 223) rfl rfl
theorem tW_1_225 : (Cond.laysFinal "WidowWatch" "WidowWatch" "history" "LWidowWatch$History;") ∈ W0 := W0_1 (i := 225) rfl rfl
theorem tW_1_227 : (Cond.laysFinal "WidowWatch" "WidowWatch" "reader" "LWidowWatch$Reader;") ∈ W0 := W0_1 (i := 227) rfl rfl
theorem tW_1_229 : (Cond.laysFinal "WidowWatch" "WidowWatch" "lines" "LWidowWatch$Lines;") ∈ W0 := W0_1 (i := 229) rfl rfl
theorem tW_1_231 : (Cond.laysFinal "WidowWatch" "WidowWatch" "planner" "LWidowWatch$Planner;") ∈ W0 := W0_1 (i := 231) rfl rfl
theorem tW_1_233 : (Cond.laysFinal "WidowWatch" "WidowWatch" "plainPlan" "LWidowWatch$Plan;") ∈ W0 := W0_1 (i := 233) rfl rfl
theorem tW_1_235 : (Cond.laysFinal "WidowWatch" "WidowWatch" "bestPlan" "LWidowWatch$Plan;") ∈ W0 := W0_1 (i := 235) rfl rfl
theorem tW_1_237 : (Cond.laysFinal "WidowWatch" "WidowWatch" "trialPlan" "LWidowWatch$Plan;") ∈ W0 := W0_1 (i := 237) rfl rfl
theorem tW_1_239 : (Cond.lays "WidowWatch" "WidowWatch" "isPlainFresh" "Z") ∈ W0 := W0_1 (i := 239) rfl rfl
theorem tW_2_1 : (Cond.lays "WidowWatch" "WidowWatch" "isBestFresh" "Z") ∈ W0 := W0_2 (i := 1) rfl rfl
theorem tW_2_4 : (Cond.methodLink "WidowWatchLaw" (214) ⟨"WidowWatch", "errorOffset", "()I"⟩) ∈ W0 := W0_2 (i := 4) rfl rfl
theorem tW_2_5 : (Cond.instanceMethod ⟨"WidowWatch", "errorOffset", "()I"⟩) ∈ W0 := W0_2 (i := 5) rfl rfl
theorem tW_2_6 : (Cond.selects "WidowWatch" ⟨"WidowWatch", "errorOffset", "()I"⟩ ⟨"WidowWatch", "errorOffset", "()I"⟩) ∈ W0 := W0_2 (i := 6) rfl rfl
theorem tW_2_7 : (Cond.code ⟨"WidowWatch", "errorOffset", "()I"⟩ prog_1_method_4_code (1) (some FieldType.int)) ∈ W0 := W0_2 (i := 7) rfl rfl
theorem tW_2_8 : (Cond.methodLink "WidowWatchLaw" (217) ⟨"WidowWatch", "undo", "()I"⟩) ∈ W0 := W0_2 (i := 8) rfl rfl
theorem tW_2_9 : (Cond.instanceMethod ⟨"WidowWatch", "undo", "()I"⟩) ∈ W0 := W0_2 (i := 9) rfl rfl
theorem tW_2_10 : (Cond.selects "WidowWatch" ⟨"WidowWatch", "undo", "()I"⟩ ⟨"WidowWatch", "undo", "()I"⟩) ∈ W0 := W0_2 (i := 10) rfl rfl
theorem tW_2_11 : (Cond.code ⟨"WidowWatch", "undo", "()I"⟩ prog_1_method_21_code (1) (some FieldType.int)) ∈ W0 := W0_2 (i := 11) rfl rfl
theorem tW_2_12 : (Cond.methodLink "WidowWatch" (242) ⟨"WidowWatch$History", "bringBack", "(LWidowWatch$Book;)V"⟩) ∈ W0 := W0_2 (i := 12) rfl rfl
theorem tW_2_13 : (Cond.instanceMethod ⟨"WidowWatch$History", "bringBack", "(LWidowWatch$Book;)V"⟩) ∈ W0 := W0_2 (i := 13) rfl rfl
theorem tW_2_14 : (Cond.selects "WidowWatch$History" ⟨"WidowWatch$History", "bringBack", "(LWidowWatch$Book;)V"⟩ ⟨"WidowWatch$History", "bringBack", "(LWidowWatch$Book;)V"⟩) ∈ W0 := W0_2 (i := 14) rfl rfl
theorem tW_2_15 : (Cond.code ⟨"WidowWatch$History", "bringBack", "(LWidowWatch$Book;)V"⟩ prog_3_method_3_code (3) (none : Option Jvm.ClassFile.FieldType)) ∈ W0 := W0_2 (i := 15) rfl rfl
theorem tW_2_16 : (Cond.methodLink "WidowWatch$History" (25) ⟨"WidowWatch$History", "bookAt", "(I)LWidowWatch$Book;"⟩) ∈ W0 := W0_2 (i := 16) rfl rfl
theorem tW_2_17 : (Cond.instanceMethod ⟨"WidowWatch$History", "bookAt", "(I)LWidowWatch$Book;"⟩) ∈ W0 := W0_2 (i := 17) rfl rfl
theorem tW_2_18 : (Cond.selects "WidowWatch$History" ⟨"WidowWatch$History", "bookAt", "(I)LWidowWatch$Book;"⟩ ⟨"WidowWatch$History", "bookAt", "(I)LWidowWatch$Book;"⟩) ∈ W0 := W0_2 (i := 18) rfl rfl
theorem tW_2_19 : (Cond.code ⟨"WidowWatch$History", "bookAt", "(I)LWidowWatch$Book;"⟩ prog_3_method_4_code (2) (some (FieldType.object "WidowWatch$Book"))) ∈ W0 := W0_2 (i := 19) rfl rfl
theorem tW_2_20 : (Cond.methodLink "WidowWatch$History" (29) ⟨"WidowWatch$Book", "copyFrom", "(LWidowWatch$Book;)V"⟩) ∈ W0 := W0_2 (i := 20) rfl rfl
theorem tW_2_21 : (Cond.instanceMethod ⟨"WidowWatch$Book", "copyFrom", "(LWidowWatch$Book;)V"⟩) ∈ W0 := W0_2 (i := 21) rfl rfl
theorem tW_2_22 : (Cond.selects "WidowWatch$Book" ⟨"WidowWatch$Book", "copyFrom", "(LWidowWatch$Book;)V"⟩ ⟨"WidowWatch$Book", "copyFrom", "(LWidowWatch$Book;)V"⟩) ∈ W0 := W0_2 (i := 22) rfl rfl
theorem tW_2_23 : (Cond.code ⟨"WidowWatch$Book", "copyFrom", "(LWidowWatch$Book;)V"⟩ prog_2_method_3_code (2) (none : Option Jvm.ClassFile.FieldType)) ∈ W0 := W0_2 (i := 23) rfl rfl
theorem tW_2_24 : (Cond.methodLink "WidowWatch" (106) ⟨"WidowWatch", "noteChange", "()V"⟩) ∈ W0 := W0_2 (i := 24) rfl rfl
theorem tW_2_26 : (Cond.instanceMethod ⟨"WidowWatch", "noteChange", "()V"⟩) ∈ W0 := W0_2 (i := 26) rfl rfl
theorem tW_2_27 : (Cond.code ⟨"WidowWatch", "noteChange", "()V"⟩ prog_1_method_29_code (1) (none : Option Jvm.ClassFile.FieldType)) ∈ W0 := W0_2 (i := 27) rfl rfl
theorem tW_2_28 : (Cond.methodLink "WidowWatch" (267) ⟨"WidowWatch$Lines", "breakAll", "(LWidowWatch$Book;)V"⟩) ∈ W0 := W0_2 (i := 28) rfl rfl
theorem tW_2_29 : (Cond.instanceMethod ⟨"WidowWatch$Lines", "breakAll", "(LWidowWatch$Book;)V"⟩) ∈ W0 := W0_2 (i := 29) rfl rfl
theorem tW_2_30 : (Cond.selects "WidowWatch$Lines" ⟨"WidowWatch$Lines", "breakAll", "(LWidowWatch$Book;)V"⟩ ⟨"WidowWatch$Lines", "breakAll", "(LWidowWatch$Book;)V"⟩) ∈ W0 := W0_2 (i := 30) rfl rfl
theorem tW_2_31 : (Cond.code ⟨"WidowWatch$Lines", "breakAll", "(LWidowWatch$Book;)V"⟩ prog_4_method_6_code (4) (none : Option Jvm.ClassFile.FieldType)) ∈ W0 := W0_2 (i := 31) rfl rfl
theorem tW_2_32 : (Cond.methodLink "WidowWatch$Lines" (28) ⟨"WidowWatch$Lines", "breakUp", "(LWidowWatch$Book;II)V"⟩) ∈ W0 := W0_2 (i := 32) rfl rfl
theorem tW_2_33 : (Cond.instanceMethod ⟨"WidowWatch$Lines", "breakUp", "(LWidowWatch$Book;II)V"⟩) ∈ W0 := W0_2 (i := 33) rfl rfl
theorem tW_2_34 : (Cond.selects "WidowWatch$Lines" ⟨"WidowWatch$Lines", "breakUp", "(LWidowWatch$Book;II)V"⟩ ⟨"WidowWatch$Lines", "breakUp", "(LWidowWatch$Book;II)V"⟩) ∈ W0 := W0_2 (i := 34) rfl rfl
theorem tW_2_35 : (Cond.code ⟨"WidowWatch$Lines", "breakUp", "(LWidowWatch$Book;II)V"⟩ prog_4_method_7_code (11) (none : Option Jvm.ClassFile.FieldType)) ∈ W0 := W0_2 (i := 35) rfl rfl
theorem tW_2_36 : (Cond.methodLink "WidowWatch$Lines" (32) ⟨"WidowWatch$Book", "lineHolds", "(I)I"⟩) ∈ W0 := W0_2 (i := 36) rfl rfl
theorem tW_2_37 : (Cond.instanceMethod ⟨"WidowWatch$Book", "lineHolds", "(I)I"⟩) ∈ W0 := W0_2 (i := 37) rfl rfl
theorem tW_2_38 : (Cond.selects "WidowWatch$Book" ⟨"WidowWatch$Book", "lineHolds", "(I)I"⟩ ⟨"WidowWatch$Book", "lineHolds", "(I)I"⟩) ∈ W0 := W0_2 (i := 38) rfl rfl
theorem tW_2_39 : (Cond.code ⟨"WidowWatch$Book", "lineHolds", "(I)I"⟩ prog_2_method_10_code (2) (some FieldType.int)) ∈ W0 := W0_2 (i := 39) rfl rfl
theorem tW_2_40 : (Cond.methodLink "WidowWatch$Lines" (36) ⟨"WidowWatch$Book", "wordsOf", "(I)I"⟩) ∈ W0 := W0_2 (i := 40) rfl rfl
theorem tW_2_41 : (Cond.instanceMethod ⟨"WidowWatch$Book", "wordsOf", "(I)I"⟩) ∈ W0 := W0_2 (i := 41) rfl rfl
theorem tW_2_42 : (Cond.selects "WidowWatch$Book" ⟨"WidowWatch$Book", "wordsOf", "(I)I"⟩ ⟨"WidowWatch$Book", "wordsOf", "(I)I"⟩) ∈ W0 := W0_2 (i := 42) rfl rfl
theorem tW_2_43 : (Cond.code ⟨"WidowWatch$Book", "wordsOf", "(I)I"⟩ prog_2_method_11_code (2) (some FieldType.int)) ∈ W0 := W0_2 (i := 43) rfl rfl
theorem tW_2_45 : (Cond.static ⟨"WidowWatch", "get", "([II)I"⟩) ∈ W0 := W0_2 (i := 45) rfl rfl
theorem tW_2_46 : (Cond.code ⟨"WidowWatch", "get", "([II)I"⟩ prog_1_method_33_code (2) (some FieldType.int)) ∈ W0 := W0_2 (i := 46) rfl rfl
theorem tW_2_47 : (Cond.methodLink "WidowWatch$Lines" (39) ⟨"WidowWatch$Book", "wordAt", "(II)I"⟩) ∈ W0 := W0_2 (i := 47) rfl rfl
theorem tW_2_48 : (Cond.instanceMethod ⟨"WidowWatch$Book", "wordAt", "(II)I"⟩) ∈ W0 := W0_2 (i := 48) rfl rfl
theorem tW_2_49 : (Cond.selects "WidowWatch$Book" ⟨"WidowWatch$Book", "wordAt", "(II)I"⟩ ⟨"WidowWatch$Book", "wordAt", "(II)I"⟩) ∈ W0 := W0_2 (i := 49) rfl rfl
theorem tW_2_50 : (Cond.code ⟨"WidowWatch$Book", "wordAt", "(II)I"⟩ prog_2_method_12_code (3) (some FieldType.int)) ∈ W0 := W0_2 (i := 50) rfl rfl
theorem tW_2_52 : (Cond.static ⟨"WidowWatch", "put", "([III)V"⟩) ∈ W0 := W0_2 (i := 52) rfl rfl
theorem tW_2_53 : (Cond.code ⟨"WidowWatch", "put", "([III)V"⟩ prog_1_method_34_code (3) (none : Option Jvm.ClassFile.FieldType)) ∈ W0 := W0_2 (i := 53) rfl rfl
theorem tW_2_54 : (Cond.classLink "WidowWatchLaw" (110) "WidowWatchLaw$Book") ∈ W0 := W0_2 (i := 54) rfl rfl
theorem tW_2_55 : (Cond.instantiable "WidowWatchLaw$Book" (10)) ∈ W0 := W0_2 (i := 55) rfl rfl
theorem tW_2_57 : (Cond.instanceMethod ⟨"WidowWatchLaw$Book", "<init>", "()V"⟩) ∈ W0 := W0_2 (i := 57) rfl rfl
theorem tW_2_58 : (Cond.code ⟨"WidowWatchLaw$Book", "<init>", "()V"⟩ prog_9_method_1_code (1) (none : Option Jvm.ClassFile.FieldType)) ∈ W0 := W0_2 (i := 58) rfl rfl
theorem tW_2_59 : (Cond.methodLink "WidowWatchLaw$Book" (1) ⟨"java/lang/Object", "<init>", "()V"⟩) ∈ W0 := W0_2 (i := 59) rfl rfl
theorem tW_2_60 : (Cond.classLink "WidowWatchLaw$Book" (26) "WidowWatchLaw$Para") ∈ W0 := W0_2 (i := 60) rfl rfl
theorem tW_2_62 : (Cond.fieldLink "WidowWatchLaw$Book" (7) "WidowWatchLaw$Book" "width" "I") ∈ W0 := W0_2 (i := 62) rfl rfl
theorem tW_2_63 : (Cond.fieldLink "WidowWatchLaw" (118) "WidowWatchLaw$Book" "width" "I") ∈ W0 := W0_2 (i := 63) rfl rfl
theorem tW_2_64 : (Cond.fieldLink "WidowWatchLaw$Book" (13) "WidowWatchLaw$Book" "height" "I") ∈ W0 := W0_2 (i := 64) rfl rfl
theorem tW_2_65 : (Cond.fieldLink "WidowWatchLaw" (122) "WidowWatchLaw$Book" "height" "I") ∈ W0 := W0_2 (i := 65) rfl rfl
theorem tW_2_66 : (Cond.fieldLink "WidowWatchLaw$Book" (16) "WidowWatchLaw$Book" "slack" "I") ∈ W0 := W0_2 (i := 66) rfl rfl
theorem tW_2_67 : (Cond.fieldLink "WidowWatchLaw" (125) "WidowWatchLaw$Book" "slack" "I") ∈ W0 := W0_2 (i := 67) rfl rfl
theorem tW_2_68 : (Cond.fieldLink "WidowWatchLaw$Book" (19) "WidowWatchLaw$Book" "limit" "I") ∈ W0 := W0_2 (i := 68) rfl rfl
theorem tW_2_69 : (Cond.fieldLink "WidowWatchLaw" (134) "WidowWatchLaw$Book" "limit" "I") ∈ W0 := W0_2 (i := 69) rfl rfl
theorem tW_2_70 : (Cond.fieldLink "WidowWatchLaw$Book" (22) "WidowWatchLaw$Book" "costs" "[I") ∈ W0 := W0_2 (i := 70) rfl rfl
theorem tW_2_71 : (Cond.fieldLink "WidowWatchLaw" (178) "WidowWatchLaw$Book" "costs" "[I") ∈ W0 := W0_2 (i := 71) rfl rfl
theorem tW_2_72 : (Cond.fieldLink "WidowWatchLaw$Book" (28) "WidowWatchLaw$Book" "paras" "[LWidowWatchLaw$Para;") ∈ W0 := W0_2 (i := 72) rfl rfl
theorem tW_2_73 : (Cond.fieldLink "WidowWatchLaw" (193) "WidowWatchLaw$Book" "paras" "[LWidowWatchLaw$Para;") ∈ W0 := W0_2 (i := 73) rfl rfl
theorem tW_2_74 : (Cond.fieldLink "WidowWatchLaw$Book" (58) "WidowWatchLaw$Book" "best" "LWidowWatchLaw$Plan;") ∈ W0 := W0_2 (i := 74) rfl rfl
theorem tW_2_75 : (Cond.fieldLink "WidowWatchLaw$Book" (67) "WidowWatchLaw$Book" "settings" "[I") ∈ W0 := W0_2 (i := 75) rfl rfl
theorem tW_2_76 : (Cond.fieldLink "WidowWatchLaw$Book" (32) "WidowWatchLaw$Book" "starts" "[I") ∈ W0 := W0_2 (i := 76) rfl rfl
theorem tW_2_77 : (Cond.fieldLink "WidowWatchLaw$Book" (71) "WidowWatchLaw$Book" "startMany" "I") ∈ W0 := W0_2 (i := 77) rfl rfl
theorem tW_2_78 : (Cond.lays "WidowWatchLaw$Book" "WidowWatchLaw$Book" "width" "I") ∈ W0 := W0_2 (i := 78) rfl rfl
theorem tW_2_80 : (Cond.lays "WidowWatchLaw$Book" "WidowWatchLaw$Book" "height" "I") ∈ W0 := W0_2 (i := 80) rfl rfl
theorem tW_2_82 : (Cond.lays "WidowWatchLaw$Book" "WidowWatchLaw$Book" "slack" "I") ∈ W0 := W0_2 (i := 82) rfl rfl
theorem tW_2_84 : (Cond.lays "WidowWatchLaw$Book" "WidowWatchLaw$Book" "limit" "I") ∈ W0 := W0_2 (i := 84) rfl rfl
theorem tW_2_86 : (Cond.lays "WidowWatchLaw$Book" "WidowWatchLaw$Book" "costs" "[I") ∈ W0 := W0_2 (i := 86) rfl rfl
theorem tW_2_88 : (Cond.lays "WidowWatchLaw$Book" "WidowWatchLaw$Book" "paras" "[LWidowWatchLaw$Para;") ∈ W0 := W0_2 (i := 88) rfl rfl
theorem tW_2_90 : (Cond.lays "WidowWatchLaw$Book" "WidowWatchLaw$Book" "best" "LWidowWatchLaw$Plan;") ∈ W0 := W0_2 (i := 90) rfl rfl
theorem tW_2_92 : (Cond.lays "WidowWatchLaw$Book" "WidowWatchLaw$Book" "settings" "[I") ∈ W0 := W0_2 (i := 92) rfl rfl
theorem tW_2_94 : (Cond.laysFinal "WidowWatchLaw$Book" "WidowWatchLaw$Book" "starts" "[I") ∈ W0 := W0_2 (i := 94) rfl rfl
theorem tW_2_96 : (Cond.lays "WidowWatchLaw$Book" "WidowWatchLaw$Book" "startMany" "I") ∈ W0 := W0_2 (i := 96) rfl rfl
theorem tW_2_99 : (Cond.methodLink "WidowWatchLaw" (235) ⟨"WidowWatchLaw$Book", "copy", "()LWidowWatchLaw$Book;"⟩) ∈ W0 := W0_2 (i := 99) rfl rfl
theorem tW_2_100 : (Cond.instanceMethod ⟨"WidowWatchLaw$Book", "copy", "()LWidowWatchLaw$Book;"⟩) ∈ W0 := W0_2 (i := 100) rfl rfl
theorem tW_2_101 : (Cond.selects "WidowWatchLaw$Book" ⟨"WidowWatchLaw$Book", "copy", "()LWidowWatchLaw$Book;"⟩ ⟨"WidowWatchLaw$Book", "copy", "()LWidowWatchLaw$Book;"⟩) ∈ W0 := W0_2 (i := 101) rfl rfl
theorem tW_2_102 : (Cond.code ⟨"WidowWatchLaw$Book", "copy", "()LWidowWatchLaw$Book;"⟩ prog_9_method_2_code (3) (some (FieldType.object "WidowWatchLaw$Book"))) ∈ W0 := W0_2 (i := 102) rfl rfl
theorem tW_2_103 : (Cond.classLink "WidowWatchLaw$Book" (8) "WidowWatchLaw$Book") ∈ W0 := W0_2 (i := 103) rfl rfl
theorem tW_2_104 : (Cond.methodLink "WidowWatchLaw$Book" (35) ⟨"WidowWatchLaw$Book", "<init>", "()V"⟩) ∈ W0 := W0_2 (i := 104) rfl rfl
theorem tW_2_105 : (Cond.methodLink "WidowWatchLaw$Book" (36) ⟨"[I", "clone", "()Ljava/lang/Object;"⟩) ∈ W0 := W0_2 (i := 105) rfl rfl
theorem tW_2_108 : (Cond.instanceMethod ⟨"java/lang/Object", "clone", "()Ljava/lang/Object;"⟩) ∈ W0 := W0_2 (i := 108) rfl rfl
theorem tW_2_109 : (Cond.selects "[I" ⟨"[I", "clone", "()Ljava/lang/Object;"⟩ ⟨"java/lang/Object", "clone", "()Ljava/lang/Object;"⟩) ∈ W0 := W0_2 (i := 109) rfl rfl
theorem tW_2_111 : (Cond.classLink "WidowWatchLaw$Book" (37) "[I") ∈ W0 := W0_2 (i := 111) rfl rfl
theorem tW_2_112 : (Cond.methodLink "WidowWatchLaw$Book" (41) ⟨"WidowWatchLaw$Para", "copy", "()LWidowWatchLaw$Para;"⟩) ∈ W0 := W0_2 (i := 112) rfl rfl
theorem tW_2_113 : (Cond.instanceMethod ⟨"WidowWatchLaw$Para", "copy", "()LWidowWatchLaw$Para;"⟩) ∈ W0 := W0_2 (i := 113) rfl rfl
theorem tW_2_114 : (Cond.selects "WidowWatchLaw$Para" ⟨"WidowWatchLaw$Para", "copy", "()LWidowWatchLaw$Para;"⟩ ⟨"WidowWatchLaw$Para", "copy", "()LWidowWatchLaw$Para;"⟩) ∈ W0 := W0_2 (i := 114) rfl rfl
theorem tW_2_115 : (Cond.code ⟨"WidowWatchLaw$Para", "copy", "()LWidowWatchLaw$Para;"⟩ prog_10_method_2_code (2) (some (FieldType.object "WidowWatchLaw$Para"))) ∈ W0 := W0_2 (i := 115) rfl rfl
theorem tW_2_116 : (Cond.classLink "WidowWatchLaw$Para" (8) "WidowWatchLaw$Para") ∈ W0 := W0_2 (i := 116) rfl rfl
theorem tW_2_117 : (Cond.instantiable "WidowWatchLaw$Para" (4)) ∈ W0 := W0_2 (i := 117) rfl rfl
theorem tW_2_118 : (Cond.methodLink "WidowWatchLaw$Para" (17) ⟨"WidowWatchLaw$Para", "<init>", "()V"⟩) ∈ W0 := W0_2 (i := 118) rfl rfl
theorem tW_2_119 : (Cond.instanceMethod ⟨"WidowWatchLaw$Para", "<init>", "()V"⟩) ∈ W0 := W0_2 (i := 119) rfl rfl
theorem tW_2_120 : (Cond.code ⟨"WidowWatchLaw$Para", "<init>", "()V"⟩ prog_10_method_1_code (1) (none : Option Jvm.ClassFile.FieldType)) ∈ W0 := W0_2 (i := 120) rfl rfl
theorem tW_2_121 : (Cond.methodLink "WidowWatchLaw$Para" (1) ⟨"java/lang/Object", "<init>", "()V"⟩) ∈ W0 := W0_2 (i := 121) rfl rfl
theorem tW_2_122 : (Cond.fieldLink "WidowWatchLaw$Para" (18) "WidowWatchLaw$Para" "isHeading" "Z") ∈ W0 := W0_2 (i := 122) rfl rfl
theorem tW_2_123 : (Cond.fieldLink "WidowWatchLaw$Book" (54) "WidowWatchLaw$Para" "isHeading" "Z") ∈ W0 := W0_2 (i := 123) rfl rfl
theorem tW_2_124 : (Cond.fieldLink "WidowWatchLaw" (141) "WidowWatchLaw$Para" "isHeading" "Z") ∈ W0 := W0_2 (i := 124) rfl rfl
theorem tW_2_125 : (Cond.fieldLink "WidowWatchLaw$Para" (22) "WidowWatchLaw$Para" "isPage" "Z") ∈ W0 := W0_2 (i := 125) rfl rfl
theorem tW_2_126 : (Cond.fieldLink "WidowWatchLaw$Book" (90) "WidowWatchLaw$Para" "isPage" "Z") ∈ W0 := W0_2 (i := 126) rfl rfl
theorem tW_2_127 : (Cond.fieldLink "WidowWatchLaw" (145) "WidowWatchLaw$Para" "isPage" "Z") ∈ W0 := W0_2 (i := 127) rfl rfl
theorem tW_2_128 : (Cond.fieldLink "WidowWatchLaw$Para" (7) "WidowWatchLaw$Para" "fixed" "I") ∈ W0 := W0_2 (i := 128) rfl rfl
theorem tW_2_129 : (Cond.fieldLink "WidowWatchLaw$Book" (75) "WidowWatchLaw$Para" "fixed" "I") ∈ W0 := W0_2 (i := 129) rfl rfl
theorem tW_2_130 : (Cond.fieldLink "WidowWatchLaw" (239) "WidowWatchLaw$Para" "fixed" "I") ∈ W0 := W0_2 (i := 130) rfl rfl
theorem tW_2_131 : (Cond.fieldLink "WidowWatchLaw$Para" (13) "WidowWatchLaw$Para" "words" "[I") ∈ W0 := W0_2 (i := 131) rfl rfl
theorem tW_2_132 : (Cond.fieldLink "WidowWatchLaw$Book" (45) "WidowWatchLaw$Para" "words" "[I") ∈ W0 := W0_2 (i := 132) rfl rfl
theorem tW_2_133 : (Cond.fieldLink "WidowWatchLaw" (148) "WidowWatchLaw$Para" "words" "[I") ∈ W0 := W0_2 (i := 133) rfl rfl
theorem tW_2_134 : (Cond.lays "WidowWatchLaw$Para" "WidowWatchLaw$Para" "isHeading" "Z") ∈ W0 := W0_2 (i := 134) rfl rfl
theorem tW_2_136 : (Cond.lays "WidowWatchLaw$Para" "WidowWatchLaw$Para" "isPage" "Z") ∈ W0 := W0_2 (i := 136) rfl rfl
theorem tW_2_138 : (Cond.lays "WidowWatchLaw$Para" "WidowWatchLaw$Para" "fixed" "I") ∈ W0 := W0_2 (i := 138) rfl rfl
theorem tW_2_140 : (Cond.lays "WidowWatchLaw$Para" "WidowWatchLaw$Para" "words" "[I") ∈ W0 := W0_2 (i := 140) rfl rfl
theorem tW_2_143 : (Cond.methodLink "WidowWatchLaw" (174) ⟨"WidowWatchLaw$Book", "adds", "(ILWidowWatchLaw$Para;)V"⟩) ∈ W0 := W0_2 (i := 143) rfl rfl
theorem tW_2_144 : (Cond.instanceMethod ⟨"WidowWatchLaw$Book", "adds", "(ILWidowWatchLaw$Para;)V"⟩) ∈ W0 := W0_2 (i := 144) rfl rfl
theorem tW_2_145 : (Cond.selects "WidowWatchLaw$Book" ⟨"WidowWatchLaw$Book", "adds", "(ILWidowWatchLaw$Para;)V"⟩ ⟨"WidowWatchLaw$Book", "adds", "(ILWidowWatchLaw$Para;)V"⟩) ∈ W0 := W0_2 (i := 145) rfl rfl
theorem tW_2_146 : (Cond.code ⟨"WidowWatchLaw$Book", "adds", "(ILWidowWatchLaw$Para;)V"⟩ prog_9_method_3_code (5) (none : Option Jvm.ClassFile.FieldType)) ∈ W0 := W0_2 (i := 146) rfl rfl
theorem tW_2_147 : (Cond.methodLink "WidowWatchLaw" (245) ⟨"WidowWatchLaw$Book", "drops", "(I)V"⟩) ∈ W0 := W0_2 (i := 147) rfl rfl
theorem tW_2_148 : (Cond.instanceMethod ⟨"WidowWatchLaw$Book", "drops", "(I)V"⟩) ∈ W0 := W0_2 (i := 148) rfl rfl
theorem tW_2_149 : (Cond.selects "WidowWatchLaw$Book" ⟨"WidowWatchLaw$Book", "drops", "(I)V"⟩ ⟨"WidowWatchLaw$Book", "drops", "(I)V"⟩) ∈ W0 := W0_2 (i := 149) rfl rfl
theorem tW_2_150 : (Cond.code ⟨"WidowWatchLaw$Book", "drops", "(I)V"⟩ prog_9_method_4_code (4) (none : Option Jvm.ClassFile.FieldType)) ∈ W0 := W0_2 (i := 150) rfl rfl
theorem tW_2_151 : (Cond.methodLink "WidowWatchLaw" (258) ⟨"WidowWatchLaw$Book", "many", "(II)I"⟩) ∈ W0 := W0_2 (i := 151) rfl rfl
theorem tW_2_152 : (Cond.instanceMethod ⟨"WidowWatchLaw$Book", "many", "(II)I"⟩) ∈ W0 := W0_2 (i := 152) rfl rfl
theorem tW_2_153 : (Cond.selects "WidowWatchLaw$Book" ⟨"WidowWatchLaw$Book", "many", "(II)I"⟩ ⟨"WidowWatchLaw$Book", "many", "(II)I"⟩) ∈ W0 := W0_2 (i := 153) rfl rfl
theorem tW_2_154 : (Cond.code ⟨"WidowWatchLaw$Book", "many", "(II)I"⟩ prog_9_method_6_code (11) (some FieldType.int)) ∈ W0 := W0_2 (i := 154) rfl rfl
theorem tW_2_155 : (Cond.classLink "WidowWatchLaw" (138) "WidowWatchLaw$Para") ∈ W0 := W0_2 (i := 155) rfl rfl
theorem tW_2_157 : (Cond.classLink "WidowWatchLaw" (114) "WidowWatchLaw$Random") ∈ W0 := W0_2 (i := 157) rfl rfl
theorem tW_2_158 : (Cond.instantiable "WidowWatchLaw$Random" (1)) ∈ W0 := W0_2 (i := 158) rfl rfl
theorem tW_2_159 : (Cond.methodLink "WidowWatchLaw" (207) ⟨"WidowWatchLaw$Random", "<init>", "(I)V"⟩) ∈ W0 := W0_2 (i := 159) rfl rfl
theorem tW_2_160 : (Cond.instanceMethod ⟨"WidowWatchLaw$Random", "<init>", "(I)V"⟩) ∈ W0 := W0_2 (i := 160) rfl rfl
theorem tW_2_161 : (Cond.code ⟨"WidowWatchLaw$Random", "<init>", "(I)V"⟩ prog_12_method_1_code (2) (none : Option Jvm.ClassFile.FieldType)) ∈ W0 := W0_2 (i := 161) rfl rfl
theorem tW_2_162 : (Cond.methodLink "WidowWatchLaw$Random" (1) ⟨"java/lang/Object", "<init>", "()V"⟩) ∈ W0 := W0_2 (i := 162) rfl rfl
theorem tW_2_163 : (Cond.fieldLink "WidowWatchLaw$Random" (7) "WidowWatchLaw$Random" "seed" "I") ∈ W0 := W0_2 (i := 163) rfl rfl
theorem tW_2_164 : (Cond.lays "WidowWatchLaw$Random" "WidowWatchLaw$Random" "seed" "I") ∈ W0 := W0_2 (i := 164) rfl rfl
theorem tW_2_167 : (Cond.methodLink "WidowWatchLaw" (113) ⟨"WidowWatchLaw$Random", "below", "(I)I"⟩) ∈ W0 := W0_2 (i := 167) rfl rfl
theorem tW_2_168 : (Cond.instanceMethod ⟨"WidowWatchLaw$Random", "below", "(I)I"⟩) ∈ W0 := W0_2 (i := 168) rfl rfl
theorem tW_2_169 : (Cond.selects "WidowWatchLaw$Random" ⟨"WidowWatchLaw$Random", "below", "(I)I"⟩ ⟨"WidowWatchLaw$Random", "below", "(I)I"⟩) ∈ W0 := W0_2 (i := 169) rfl rfl
theorem tW_2_170 : (Cond.code ⟨"WidowWatchLaw$Random", "below", "(I)I"⟩ prog_12_method_2_code (2) (some FieldType.int)) ∈ W0 := W0_2 (i := 170) rfl rfl
theorem tW_2_171 : (Cond.constant "WidowWatchLaw$Random" (13) (1103515245)) ∈ W0 := W0_2 (i := 171) rfl rfl
theorem tW_2_172 : (Cond.methodLink "WidowWatchLaw" (19) ⟨"WidowWatchLaw", "load", "(LWidowWatch;I)I"⟩) ∈ W0 := W0_2 (i := 172) rfl rfl
theorem tW_2_173 : (Cond.static ⟨"WidowWatchLaw", "load", "(LWidowWatch;I)I"⟩) ∈ W0 := W0_2 (i := 173) rfl rfl
theorem tW_2_175 : (Cond.classLink "WidowWatchLaw" (40) "java/lang/IllegalArgumentException") ∈ W0 := W0_2 (i := 175) rfl rfl
theorem tW_2_176 : (Cond.methodLink "WidowWatchLaw" (37) ⟨"WidowWatch", "load", "(I)I"⟩) ∈ W0 := W0_2 (i := 176) rfl rfl
theorem tW_2_177 : (Cond.instanceMethod ⟨"WidowWatch", "load", "(I)I"⟩) ∈ W0 := W0_2 (i := 177) rfl rfl
theorem tW_2_178 : (Cond.selects "WidowWatch" ⟨"WidowWatch", "load", "(I)I"⟩ ⟨"WidowWatch", "load", "(I)I"⟩) ∈ W0 := W0_2 (i := 178) rfl rfl
theorem tW_2_179 : (Cond.code ⟨"WidowWatch", "load", "(I)I"⟩ prog_1_method_3_code (2) (some FieldType.int)) ∈ W0 := W0_2 (i := 179) rfl rfl
theorem tW_2_180 : (Cond.classLink "WidowWatch" (79) "java/lang/IllegalArgumentException") ∈ W0 := W0_2 (i := 180) rfl rfl
theorem tW_2_181 : (Cond.instantiable "java/lang/IllegalArgumentException" (6)) ∈ W0 := W0_2 (i := 181) rfl rfl
theorem tW_2_189 : (Cond.selects "java/lang/IllegalArgumentException" ⟨"java/lang/Throwable", "fillInStackTrace", "(I)Ljava/lang/Throwable;"⟩ ⟨"java/lang/Throwable", "fillInStackTrace", "(I)Ljava/lang/Throwable;"⟩) ∈ W0 := W0_2 (i := 189) rfl rfl
theorem tW_2_190 : (Cond.selects "java/lang/IllegalArgumentException" ⟨"java/lang/Throwable", "fillInStackTrace", "()Ljava/lang/Throwable;"⟩ ⟨"java/lang/Throwable", "fillInStackTrace", "()Ljava/lang/Throwable;"⟩) ∈ W0 := W0_2 (i := 190) rfl rfl
theorem tW_2_191 : (Cond.lays "java/lang/IllegalArgumentException" "java/lang/Throwable" "cause" "Ljava/lang/Throwable;") ∈ W0 := W0_2 (i := 191) rfl rfl
theorem tW_2_192 : (Cond.lays "java/lang/Throwable" "java/lang/Throwable" "cause" "Ljava/lang/Throwable;") ∈ W0 := W0_2 (i := 192) rfl rfl
theorem tW_2_193 : (Cond.lays "java/lang/IllegalArgumentException" "java/lang/Throwable" "stackTrace" "[Ljava/lang/StackTraceElement;") ∈ W0 := W0_2 (i := 193) rfl rfl
theorem tW_2_194 : (Cond.lays "java/lang/Throwable" "java/lang/Throwable" "stackTrace" "[Ljava/lang/StackTraceElement;") ∈ W0 := W0_2 (i := 194) rfl rfl
theorem tW_2_195 : (Cond.lays "java/lang/IllegalArgumentException" "java/lang/Throwable" "suppressedExceptions" "Ljava/util/List;") ∈ W0 := W0_2 (i := 195) rfl rfl
theorem tW_2_196 : (Cond.lays "java/lang/Throwable" "java/lang/Throwable" "suppressedExceptions" "Ljava/util/List;") ∈ W0 := W0_2 (i := 196) rfl rfl
theorem tW_2_197 : (Cond.lays "java/lang/IllegalArgumentException" "java/lang/Throwable" "detailMessage" "Ljava/lang/String;") ∈ W0 := W0_2 (i := 197) rfl rfl
theorem tW_2_198 : (Cond.lays "java/lang/Throwable" "java/lang/Throwable" "detailMessage" "Ljava/lang/String;") ∈ W0 := W0_2 (i := 198) rfl rfl
theorem tW_2_199 : (Cond.lays "java/lang/IllegalArgumentException" "java/lang/Throwable" "backtrace" "Ljava/lang/Object;") ∈ W0 := W0_2 (i := 199) rfl rfl
theorem tW_2_200 : (Cond.lays "java/lang/Throwable" "java/lang/Throwable" "backtrace" "Ljava/lang/Object;") ∈ W0 := W0_2 (i := 200) rfl rfl
theorem tW_2_201 : (Cond.fieldLink "java/lang/Throwable" (198) "java/lang/Throwable" "backtrace" "Ljava/lang/Object;") ∈ W0 := W0_2 (i := 201) rfl rfl
theorem tW_2_203 : (Cond.instanceMethod ⟨"java/lang/Throwable", "<init>", "()V"⟩) ∈ W0 := W0_2 (i := 203) rfl rfl
theorem tW_2_204 : (Cond.code ⟨"java/lang/Throwable", "<init>", "()V"⟩ prog_33_method_1_code (1) (none : Option Jvm.ClassFile.FieldType)) ∈ W0 := W0_2 (i := 204) rfl rfl
theorem tW_2_205 : (Cond.methodLink "java/lang/Throwable" (1) ⟨"java/lang/Object", "<init>", "()V"⟩) ∈ W0 := W0_2 (i := 205) rfl rfl
theorem tW_2_206 : (Cond.fieldLink "java/lang/Throwable" (13) "java/lang/Throwable" "UNASSIGNED_STACK" "[Ljava/lang/StackTraceElement;") ∈ W0 := W0_2 (i := 206) rfl rfl
theorem tW_2_208 : (Cond.fieldLink "java/lang/Throwable" (20) "java/lang/Throwable" "SUPPRESSED_SENTINEL" "Ljava/util/List;") ∈ W0 := W0_2 (i := 208) rfl rfl
theorem tW_2_210 : (Cond.methodLink "java/lang/Throwable" (27) ⟨"java/lang/Throwable", "fillInStackTrace", "()Ljava/lang/Throwable;"⟩) ∈ W0 := W0_2 (i := 210) rfl rfl
theorem tW_2_211 : (Cond.instanceMethod ⟨"java/lang/Throwable", "fillInStackTrace", "()Ljava/lang/Throwable;"⟩) ∈ W0 := W0_2 (i := 211) rfl rfl
theorem tW_2_213 : (Cond.selects "java/lang/IllegalStateException" ⟨"java/lang/Throwable", "fillInStackTrace", "()Ljava/lang/Throwable;"⟩ ⟨"java/lang/Throwable", "fillInStackTrace", "()Ljava/lang/Throwable;"⟩) ∈ W0 := W0_2 (i := 213) rfl rfl
theorem tW_2_214 : (Cond.selects "java/lang/IndexOutOfBoundsException" ⟨"java/lang/Throwable", "fillInStackTrace", "()Ljava/lang/Throwable;"⟩ ⟨"java/lang/Throwable", "fillInStackTrace", "()Ljava/lang/Throwable;"⟩) ∈ W0 := W0_2 (i := 214) rfl rfl
theorem tW_2_215 : (Cond.selects "java/util/NoSuchElementException" ⟨"java/lang/Throwable", "fillInStackTrace", "()Ljava/lang/Throwable;"⟩ ⟨"java/lang/Throwable", "fillInStackTrace", "()Ljava/lang/Throwable;"⟩) ∈ W0 := W0_2 (i := 215) rfl rfl
theorem tW_2_217 : (Cond.methodLink "java/lang/Throwable" (202) ⟨"java/lang/Throwable", "fillInStackTrace", "(I)Ljava/lang/Throwable;"⟩) ∈ W0 := W0_2 (i := 217) rfl rfl
theorem tW_2_219 : (Cond.instanceMethod ⟨"java/lang/Throwable", "fillInStackTrace", "(I)Ljava/lang/Throwable;"⟩) ∈ W0 := W0_2 (i := 219) rfl rfl
theorem tW_2_220 : (Cond.instantiable "java/lang/Throwable" (6)) ∈ W0 := W0_2 (i := 220) rfl rfl
theorem tW_2_223 : (Cond.methodLink "WidowWatch" (83) ⟨"java/lang/IllegalArgumentException", "<init>", "(Ljava/lang/String;)V"⟩) ∈ W0 := W0_2 (i := 223) rfl rfl
theorem tW_2_224 : (Cond.instanceMethod ⟨"java/lang/IllegalArgumentException", "<init>", "(Ljava/lang/String;)V"⟩) ∈ W0 := W0_2 (i := 224) rfl rfl
theorem tW_2_225 : (Cond.code ⟨"java/lang/IllegalArgumentException", "<init>", "(Ljava/lang/String;)V"⟩ prog_21_method_2_code (2) (none : Option Jvm.ClassFile.FieldType)) ∈ W0 := W0_2 (i := 225) rfl rfl
theorem tW_2_226 : (Cond.methodLink "java/lang/IllegalArgumentException" (7) ⟨"java/lang/RuntimeException", "<init>", "(Ljava/lang/String;)V"⟩) ∈ W0 := W0_2 (i := 226) rfl rfl
theorem tW_2_227 : (Cond.instanceMethod ⟨"java/lang/RuntimeException", "<init>", "(Ljava/lang/String;)V"⟩) ∈ W0 := W0_2 (i := 227) rfl rfl
theorem tW_2_228 : (Cond.code ⟨"java/lang/RuntimeException", "<init>", "(Ljava/lang/String;)V"⟩ prog_27_method_2_code (2) (none : Option Jvm.ClassFile.FieldType)) ∈ W0 := W0_2 (i := 228) rfl rfl
theorem tW_2_229 : (Cond.methodLink "java/lang/RuntimeException" (7) ⟨"java/lang/Exception", "<init>", "(Ljava/lang/String;)V"⟩) ∈ W0 := W0_2 (i := 229) rfl rfl
theorem tW_2_230 : (Cond.instanceMethod ⟨"java/lang/Exception", "<init>", "(Ljava/lang/String;)V"⟩) ∈ W0 := W0_2 (i := 230) rfl rfl
theorem tW_2_231 : (Cond.code ⟨"java/lang/Exception", "<init>", "(Ljava/lang/String;)V"⟩ prog_20_method_2_code (2) (none : Option Jvm.ClassFile.FieldType)) ∈ W0 := W0_2 (i := 231) rfl rfl
theorem tW_2_232 : (Cond.methodLink "java/lang/Exception" (7) ⟨"java/lang/Throwable", "<init>", "(Ljava/lang/String;)V"⟩) ∈ W0 := W0_2 (i := 232) rfl rfl
theorem tW_2_233 : (Cond.instanceMethod ⟨"java/lang/Throwable", "<init>", "(Ljava/lang/String;)V"⟩) ∈ W0 := W0_2 (i := 233) rfl rfl
theorem tW_2_234 : (Cond.code ⟨"java/lang/Throwable", "<init>", "(Ljava/lang/String;)V"⟩ prog_33_method_2_code (2) (none : Option Jvm.ClassFile.FieldType)) ∈ W0 := W0_2 (i := 234) rfl rfl
theorem tW_2_236 : (Cond.fieldLink "java/lang/Throwable" (31) "java/lang/Throwable" "detailMessage" "Ljava/lang/String;") ∈ W0 := W0_2 (i := 236) rfl rfl
theorem tW_2_237 : (Cond.fieldLink "java/lang/Throwable" (7) "java/lang/Throwable" "cause" "Ljava/lang/Throwable;") ∈ W0 := W0_2 (i := 237) rfl rfl
theorem tW_2_238 : (Cond.fieldLink "java/lang/Throwable" (17) "java/lang/Throwable" "stackTrace" "[Ljava/lang/StackTraceElement;") ∈ W0 := W0_2 (i := 238) rfl rfl
theorem tW_2_239 : (Cond.fieldLink "java/lang/Throwable" (24) "java/lang/Throwable" "suppressedExceptions" "Ljava/util/List;") ∈ W0 := W0_2 (i := 239) rfl rfl
theorem tW_3_4 : (Cond.lays "java/lang/IllegalArgumentException" "java/lang/Throwable" "depth" "I") ∈ W0 := W0_3 (i := 4) rfl rfl
theorem tW_3_8 : (Cond.arrayClass FieldType.byte) ∈ W0 := W0_3 (i := 8) rfl rfl
theorem tW_3_9 : (Cond.methodLink "WidowWatch" (86) ⟨"WidowWatch$Reader", "read", "([II)V"⟩) ∈ W0 := W0_3 (i := 9) rfl rfl
theorem tW_3_10 : (Cond.instanceMethod ⟨"WidowWatch$Reader", "read", "([II)V"⟩) ∈ W0 := W0_3 (i := 10) rfl rfl
theorem tW_3_11 : (Cond.selects "WidowWatch$Reader" ⟨"WidowWatch$Reader", "read", "([II)V"⟩ ⟨"WidowWatch$Reader", "read", "([II)V"⟩) ∈ W0 := W0_3 (i := 11) rfl rfl
theorem tW_3_12 : (Cond.code ⟨"WidowWatch$Reader", "read", "([II)V"⟩ prog_7_method_2_code (4) (none : Option Jvm.ClassFile.FieldType)) ∈ W0 := W0_3 (i := 12) rfl rfl
theorem tW_3_13 : (Cond.methodLink "WidowWatch$Reader" (42) ⟨"WidowWatch$Book", "reset", "()V"⟩) ∈ W0 := W0_3 (i := 13) rfl rfl
theorem tW_3_14 : (Cond.methodLink "WidowWatch$Reader" (45) ⟨"WidowWatch$Reader", "readHead", "()V"⟩) ∈ W0 := W0_3 (i := 14) rfl rfl
theorem tW_3_15 : (Cond.instanceMethod ⟨"WidowWatch$Reader", "readHead", "()V"⟩) ∈ W0 := W0_3 (i := 15) rfl rfl
theorem tW_3_16 : (Cond.selects "WidowWatch$Reader" ⟨"WidowWatch$Reader", "readHead", "()V"⟩ ⟨"WidowWatch$Reader", "readHead", "()V"⟩) ∈ W0 := W0_3 (i := 16) rfl rfl
theorem tW_3_17 : (Cond.code ⟨"WidowWatch$Reader", "readHead", "()V"⟩ prog_7_method_3_code (1) (none : Option Jvm.ClassFile.FieldType)) ∈ W0 := W0_3 (i := 17) rfl rfl
theorem tW_3_19 : (Cond.methodLink "WidowWatch$Reader" (57) ⟨"WidowWatch$Reader", "takesWord", "(Ljava/lang/String;)Z"⟩) ∈ W0 := W0_3 (i := 19) rfl rfl
theorem tW_3_20 : (Cond.instanceMethod ⟨"WidowWatch$Reader", "takesWord", "(Ljava/lang/String;)Z"⟩) ∈ W0 := W0_3 (i := 20) rfl rfl
theorem tW_3_21 : (Cond.selects "WidowWatch$Reader" ⟨"WidowWatch$Reader", "takesWord", "(Ljava/lang/String;)Z"⟩ ⟨"WidowWatch$Reader", "takesWord", "(Ljava/lang/String;)Z"⟩) ∈ W0 := W0_3 (i := 21) rfl rfl
theorem tW_3_22 : (Cond.code ⟨"WidowWatch$Reader", "takesWord", "(Ljava/lang/String;)Z"⟩ prog_7_method_9_code (4) (some FieldType.boolean)) ∈ W0 := W0_3 (i := 22) rfl rfl
theorem tW_3_23 : (Cond.methodLink "WidowWatch$Reader" (48) ⟨"WidowWatch$Reader", "nextByte", "()I"⟩) ∈ W0 := W0_3 (i := 23) rfl rfl
theorem tW_3_24 : (Cond.instanceMethod ⟨"WidowWatch$Reader", "nextByte", "()I"⟩) ∈ W0 := W0_3 (i := 24) rfl rfl
theorem tW_3_25 : (Cond.selects "WidowWatch$Reader" ⟨"WidowWatch$Reader", "nextByte", "()I"⟩ ⟨"WidowWatch$Reader", "nextByte", "()I"⟩) ∈ W0 := W0_3 (i := 25) rfl rfl
theorem tW_3_26 : (Cond.code ⟨"WidowWatch$Reader", "nextByte", "()I"⟩ prog_7_method_8_code (1) (some FieldType.int)) ∈ W0 := W0_3 (i := 26) rfl rfl
theorem tW_3_28 : (Cond.methodLink "WidowWatch$Reader" (128) ⟨"WidowWatch$Reader", "isLetter", "(I)Z"⟩) ∈ W0 := W0_3 (i := 28) rfl rfl
theorem tW_3_29 : (Cond.static ⟨"WidowWatch$Reader", "isLetter", "(I)Z"⟩) ∈ W0 := W0_3 (i := 29) rfl rfl
theorem tW_3_30 : (Cond.code ⟨"WidowWatch$Reader", "isLetter", "(I)Z"⟩ prog_7_method_14_code (1) (some FieldType.boolean)) ∈ W0 := W0_3 (i := 30) rfl rfl
theorem tW_3_31 : (Cond.methodLink "WidowWatch$Reader" (131) ⟨"java/lang/String", "length", "()I"⟩) ∈ W0 := W0_3 (i := 31) rfl rfl
theorem tW_3_32 : (Cond.instanceMethod ⟨"java/lang/String", "length", "()I"⟩) ∈ W0 := W0_3 (i := 32) rfl rfl
theorem tW_3_33 : (Cond.selects "java/lang/String" ⟨"java/lang/String", "length", "()I"⟩ ⟨"java/lang/String", "length", "()I"⟩) ∈ W0 := W0_3 (i := 33) rfl rfl
theorem tW_3_34 : (Cond.code ⟨"java/lang/String", "length", "()I"⟩ prog_28_method_54_code (1) (some FieldType.int)) ∈ W0 := W0_3 (i := 34) rfl rfl
theorem tW_3_35 : (Cond.methodLink "java/lang/String" (335) ⟨"java/lang/String", "coder", "()B"⟩) ∈ W0 := W0_3 (i := 35) rfl rfl
theorem tW_3_36 : (Cond.instanceMethod ⟨"java/lang/String", "coder", "()B"⟩) ∈ W0 := W0_3 (i := 36) rfl rfl
theorem tW_3_37 : (Cond.selects "java/lang/String" ⟨"java/lang/String", "coder", "()B"⟩ ⟨"java/lang/String", "coder", "()B"⟩) ∈ W0 := W0_3 (i := 37) rfl rfl
theorem tW_3_38 : (Cond.code ⟨"java/lang/String", "coder", "()B"⟩ prog_28_method_152_code (1) (some FieldType.byte)) ∈ W0 := W0_3 (i := 38) rfl rfl
theorem tW_3_39 : (Cond.fieldLink "java/lang/String" (38) "java/lang/String" "COMPACT_STRINGS" "Z") ∈ W0 := W0_3 (i := 39) rfl rfl
theorem tW_3_41 : (Cond.methodLink "WidowWatch$Reader" (135) ⟨"java/lang/String", "charAt", "(I)C"⟩) ∈ W0 := W0_3 (i := 41) rfl rfl
theorem tW_3_42 : (Cond.instanceMethod ⟨"java/lang/String", "charAt", "(I)C"⟩) ∈ W0 := W0_3 (i := 42) rfl rfl
theorem tW_3_43 : (Cond.selects "java/lang/String" ⟨"java/lang/String", "charAt", "(I)C"⟩ ⟨"java/lang/String", "charAt", "(I)C"⟩) ∈ W0 := W0_3 (i := 43) rfl rfl
theorem tW_3_44 : (Cond.code ⟨"java/lang/String", "charAt", "(I)C"⟩ prog_28_method_56_code (2) (some FieldType.char)) ∈ W0 := W0_3 (i := 44) rfl rfl
theorem tW_3_45 : (Cond.methodLink "java/lang/String" (492) ⟨"java/lang/String", "isLatin1", "()Z"⟩) ∈ W0 := W0_3 (i := 45) rfl rfl
theorem tW_3_46 : (Cond.instanceMethod ⟨"java/lang/String", "isLatin1", "()Z"⟩) ∈ W0 := W0_3 (i := 46) rfl rfl
theorem tW_3_47 : (Cond.selects "java/lang/String" ⟨"java/lang/String", "isLatin1", "()Z"⟩ ⟨"java/lang/String", "isLatin1", "()Z"⟩) ∈ W0 := W0_3 (i := 47) rfl rfl
theorem tW_3_48 : (Cond.code ⟨"java/lang/String", "isLatin1", "()Z"⟩ prog_28_method_154_code (1) (some FieldType.boolean)) ∈ W0 := W0_3 (i := 48) rfl rfl
theorem tW_3_49 : (Cond.methodLink "java/lang/String" (495) ⟨"java/lang/StringLatin1", "charAt", "([BI)C"⟩) ∈ W0 := W0_3 (i := 49) rfl rfl
theorem tW_3_50 : (Cond.static ⟨"java/lang/StringLatin1", "charAt", "([BI)C"⟩) ∈ W0 := W0_3 (i := 50) rfl rfl
theorem tW_3_51 : (Cond.code ⟨"java/lang/StringLatin1", "charAt", "([BI)C"⟩ prog_30_method_2_code (2) (some FieldType.char)) ∈ W0 := W0_3 (i := 51) rfl rfl
theorem tW_3_52 : (Cond.methodLink "java/lang/StringLatin1" (9) ⟨"java/lang/String", "checkIndex", "(II)V"⟩) ∈ W0 := W0_3 (i := 52) rfl rfl
theorem tW_3_53 : (Cond.static ⟨"java/lang/String", "checkIndex", "(II)V"⟩) ∈ W0 := W0_3 (i := 53) rfl rfl
theorem tW_3_54 : (Cond.code ⟨"java/lang/String", "checkIndex", "(II)V"⟩ prog_28_method_155_code (2) (none : Option Jvm.ClassFile.FieldType)) ∈ W0 := W0_3 (i := 54) rfl rfl
theorem tW_3_55 : (Cond.fieldLink "java/lang/String" (1053) "jdk/internal/util/Preconditions" "SIOOBE_FORMATTER" "Ljava/util/function/BiFunction;") ∈ W0 := W0_3 (i := 55) rfl rfl
theorem tW_3_57 : (Cond.methodLink "java/lang/String" (1059) ⟨"jdk/internal/util/Preconditions", "checkIndex", "(IILjava/util/function/BiFunction;)I"⟩) ∈ W0 := W0_3 (i := 57) rfl rfl
theorem tW_3_58 : (Cond.static ⟨"jdk/internal/util/Preconditions", "checkIndex", "(IILjava/util/function/BiFunction;)I"⟩) ∈ W0 := W0_3 (i := 58) rfl rfl
theorem tW_3_59 : (Cond.code ⟨"jdk/internal/util/Preconditions", "checkIndex", "(IILjava/util/function/BiFunction;)I"⟩ prog_39_method_11_code (3) (some FieldType.int)) ∈ W0 := W0_3 (i := 59) rfl rfl
theorem tW_3_60 : (Cond.methodLink "java/lang/String" (498) ⟨"java/lang/StringUTF16", "charAt", "([BI)C"⟩) ∈ W0 := W0_3 (i := 60) rfl rfl
theorem tW_3_61 : (Cond.static ⟨"java/lang/StringUTF16", "charAt", "([BI)C"⟩) ∈ W0 := W0_3 (i := 61) rfl rfl
theorem tW_3_62 : (Cond.code ⟨"java/lang/StringUTF16", "charAt", "([BI)C"⟩ prog_31_method_83_code (2) (some FieldType.char)) ∈ W0 := W0_3 (i := 62) rfl rfl
theorem tW_3_63 : (Cond.methodLink "java/lang/StringUTF16" (67) ⟨"java/lang/StringUTF16", "checkIndex", "(I[B)V"⟩) ∈ W0 := W0_3 (i := 63) rfl rfl
theorem tW_3_64 : (Cond.static ⟨"java/lang/StringUTF16", "checkIndex", "(I[B)V"⟩) ∈ W0 := W0_3 (i := 64) rfl rfl
theorem tW_3_65 : (Cond.code ⟨"java/lang/StringUTF16", "checkIndex", "(I[B)V"⟩ prog_31_method_91_code (2) (none : Option Jvm.ClassFile.FieldType)) ∈ W0 := W0_3 (i := 65) rfl rfl
theorem tW_3_66 : (Cond.methodLink "java/lang/StringUTF16" (48) ⟨"java/lang/StringUTF16", "length", "([B)I"⟩) ∈ W0 := W0_3 (i := 66) rfl rfl
theorem tW_3_67 : (Cond.static ⟨"java/lang/StringUTF16", "length", "([B)I"⟩) ∈ W0 := W0_3 (i := 67) rfl rfl
theorem tW_3_68 : (Cond.code ⟨"java/lang/StringUTF16", "length", "([B)I"⟩ prog_31_method_6_code (1) (some FieldType.int)) ∈ W0 := W0_3 (i := 68) rfl rfl
theorem tW_3_69 : (Cond.methodLink "java/lang/StringUTF16" (414) ⟨"java/lang/String", "checkIndex", "(II)V"⟩) ∈ W0 := W0_3 (i := 69) rfl rfl
theorem tW_3_70 : (Cond.methodLink "java/lang/StringUTF16" (71) ⟨"java/lang/StringUTF16", "getChar", "([BI)C"⟩) ∈ W0 := W0_3 (i := 70) rfl rfl
theorem tW_3_71 : (Cond.static ⟨"java/lang/StringUTF16", "getChar", "([BI)C"⟩) ∈ W0 := W0_3 (i := 71) rfl rfl
theorem tW_3_72 : (Cond.code ⟨"java/lang/StringUTF16", "getChar", "([BI)C"⟩ prog_31_method_5_code (2) (some FieldType.char)) ∈ W0 := W0_3 (i := 72) rfl rfl
theorem tW_3_73 : (Cond.fieldLink "java/lang/StringUTF16" (44) "java/lang/StringUTF16" "$assertionsDisabled" "Z") ∈ W0 := W0_3 (i := 73) rfl rfl
theorem tW_3_75 : (Cond.fieldLink "java/lang/StringUTF16" (59) "java/lang/StringUTF16" "HI_BYTE_SHIFT" "I") ∈ W0 := W0_3 (i := 75) rfl rfl
theorem tW_3_77 : (Cond.fieldLink "java/lang/StringUTF16" (63) "java/lang/StringUTF16" "LO_BYTE_SHIFT" "I") ∈ W0 := W0_3 (i := 77) rfl rfl
theorem tW_3_79 : (Cond.methodLink "WidowWatch$Reader" (61) ⟨"WidowWatch$Reader", "fail", "(II)V"⟩) ∈ W0 := W0_3 (i := 79) rfl rfl
theorem tW_3_80 : (Cond.instanceMethod ⟨"WidowWatch$Reader", "fail", "(II)V"⟩) ∈ W0 := W0_3 (i := 80) rfl rfl
theorem tW_3_81 : (Cond.selects "WidowWatch$Reader" ⟨"WidowWatch$Reader", "fail", "(II)V"⟩ ⟨"WidowWatch$Reader", "fail", "(II)V"⟩) ∈ W0 := W0_3 (i := 81) rfl rfl
theorem tW_3_82 : (Cond.code ⟨"WidowWatch$Reader", "fail", "(II)V"⟩ prog_7_method_12_code (3) (none : Option Jvm.ClassFile.FieldType)) ∈ W0 := W0_3 (i := 82) rfl rfl
theorem tW_3_83 : (Cond.methodLink "WidowWatch$Reader" (65) ⟨"WidowWatch$Reader", "takeNumber", "(II)I"⟩) ∈ W0 := W0_3 (i := 83) rfl rfl
theorem tW_3_84 : (Cond.instanceMethod ⟨"WidowWatch$Reader", "takeNumber", "(II)I"⟩) ∈ W0 := W0_3 (i := 84) rfl rfl
theorem tW_3_85 : (Cond.selects "WidowWatch$Reader" ⟨"WidowWatch$Reader", "takeNumber", "(II)I"⟩ ⟨"WidowWatch$Reader", "takeNumber", "(II)I"⟩) ∈ W0 := W0_3 (i := 85) rfl rfl
theorem tW_3_86 : (Cond.code ⟨"WidowWatch$Reader", "takeNumber", "(II)I"⟩ prog_7_method_10_code (6) (some FieldType.int)) ∈ W0 := W0_3 (i := 86) rfl rfl
theorem tW_3_87 : (Cond.methodLink "WidowWatch$Reader" (114) ⟨"WidowWatch$Reader", "isDigit", "(I)Z"⟩) ∈ W0 := W0_3 (i := 87) rfl rfl
theorem tW_3_88 : (Cond.static ⟨"WidowWatch$Reader", "isDigit", "(I)Z"⟩) ∈ W0 := W0_3 (i := 88) rfl rfl
theorem tW_3_89 : (Cond.code ⟨"WidowWatch$Reader", "isDigit", "(I)Z"⟩ prog_7_method_13_code (1) (some FieldType.boolean)) ∈ W0 := W0_3 (i := 89) rfl rfl
theorem tW_3_90 : (Cond.constant "WidowWatch$Reader" (139) (100000)) ∈ W0 := W0_3 (i := 90) rfl rfl
theorem tW_3_91 : (Cond.methodLink "WidowWatch$Reader" (140) ⟨"java/lang/Math", "min", "(II)I"⟩) ∈ W0 := W0_3 (i := 91) rfl rfl
theorem tW_3_92 : (Cond.static ⟨"java/lang/Math", "min", "(II)I"⟩) ∈ W0 := W0_3 (i := 92) rfl rfl
theorem tW_3_93 : (Cond.code ⟨"java/lang/Math", "min", "(II)I"⟩ prog_25_method_69_code (2) (some FieldType.int)) ∈ W0 := W0_3 (i := 93) rfl rfl
theorem tW_3_94 : (Cond.methodLink "WidowWatch$Reader" (78) ⟨"WidowWatch$Reader", "takeSemicolon", "()V"⟩) ∈ W0 := W0_3 (i := 94) rfl rfl
theorem tW_3_95 : (Cond.instanceMethod ⟨"WidowWatch$Reader", "takeSemicolon", "()V"⟩) ∈ W0 := W0_3 (i := 95) rfl rfl
theorem tW_3_96 : (Cond.selects "WidowWatch$Reader" ⟨"WidowWatch$Reader", "takeSemicolon", "()V"⟩ ⟨"WidowWatch$Reader", "takeSemicolon", "()V"⟩) ∈ W0 := W0_3 (i := 96) rfl rfl
theorem tW_3_97 : (Cond.code ⟨"WidowWatch$Reader", "takeSemicolon", "()V"⟩ prog_7_method_11_code (1) (none : Option Jvm.ClassFile.FieldType)) ∈ W0 := W0_3 (i := 97) rfl rfl
theorem tW_3_98 : (Cond.methodLink "WidowWatch$Reader" (52) ⟨"WidowWatch$Reader", "readStatement", "()V"⟩) ∈ W0 := W0_3 (i := 98) rfl rfl
theorem tW_3_99 : (Cond.instanceMethod ⟨"WidowWatch$Reader", "readStatement", "()V"⟩) ∈ W0 := W0_3 (i := 99) rfl rfl
theorem tW_3_100 : (Cond.selects "WidowWatch$Reader" ⟨"WidowWatch$Reader", "readStatement", "()V"⟩ ⟨"WidowWatch$Reader", "readStatement", "()V"⟩) ∈ W0 := W0_3 (i := 100) rfl rfl
theorem tW_3_101 : (Cond.code ⟨"WidowWatch$Reader", "readStatement", "()V"⟩ prog_7_method_4_code (2) (none : Option Jvm.ClassFile.FieldType)) ∈ W0 := W0_3 (i := 101) rfl rfl
theorem tW_3_103 : (Cond.methodLink "WidowWatch$Reader" (83) ⟨"WidowWatch$Reader", "readCosts", "(I)V"⟩) ∈ W0 := W0_3 (i := 103) rfl rfl
theorem tW_3_104 : (Cond.instanceMethod ⟨"WidowWatch$Reader", "readCosts", "(I)V"⟩) ∈ W0 := W0_3 (i := 104) rfl rfl
theorem tW_3_105 : (Cond.selects "WidowWatch$Reader" ⟨"WidowWatch$Reader", "readCosts", "(I)V"⟩ ⟨"WidowWatch$Reader", "readCosts", "(I)V"⟩) ∈ W0 := W0_3 (i := 105) rfl rfl
theorem tW_3_106 : (Cond.code ⟨"WidowWatch$Reader", "readCosts", "(I)V"⟩ prog_7_method_5_code (3) (none : Option Jvm.ClassFile.FieldType)) ∈ W0 := W0_3 (i := 106) rfl rfl
theorem tW_3_107 : (Cond.methodLink "WidowWatch$Reader" (100) ⟨"WidowWatch$Book", "setCostOf", "(II)V"⟩) ∈ W0 := W0_3 (i := 107) rfl rfl
theorem tW_3_108 : (Cond.instanceMethod ⟨"WidowWatch$Book", "setCostOf", "(II)V"⟩) ∈ W0 := W0_3 (i := 108) rfl rfl
theorem tW_3_109 : (Cond.selects "WidowWatch$Book" ⟨"WidowWatch$Book", "setCostOf", "(II)V"⟩ ⟨"WidowWatch$Book", "setCostOf", "(II)V"⟩) ∈ W0 := W0_3 (i := 109) rfl rfl
theorem tW_3_110 : (Cond.code ⟨"WidowWatch$Book", "setCostOf", "(II)V"⟩ prog_2_method_8_code (3) (none : Option Jvm.ClassFile.FieldType)) ∈ W0 := W0_3 (i := 110) rfl rfl
theorem tW_3_113 : (Cond.methodLink "WidowWatch$Reader" (89) ⟨"WidowWatch$Reader", "readLimit", "(I)V"⟩) ∈ W0 := W0_3 (i := 113) rfl rfl
theorem tW_3_114 : (Cond.instanceMethod ⟨"WidowWatch$Reader", "readLimit", "(I)V"⟩) ∈ W0 := W0_3 (i := 114) rfl rfl
theorem tW_3_115 : (Cond.selects "WidowWatch$Reader" ⟨"WidowWatch$Reader", "readLimit", "(I)V"⟩ ⟨"WidowWatch$Reader", "readLimit", "(I)V"⟩) ∈ W0 := W0_3 (i := 115) rfl rfl
theorem tW_3_116 : (Cond.code ⟨"WidowWatch$Reader", "readLimit", "(I)V"⟩ prog_7_method_6_code (2) (none : Option Jvm.ClassFile.FieldType)) ∈ W0 := W0_3 (i := 116) rfl rfl
theorem tW_3_118 : (Cond.methodLink "WidowWatch$Reader" (94) ⟨"WidowWatch$Reader", "readParagraph", "(IZ)V"⟩) ∈ W0 := W0_3 (i := 118) rfl rfl
theorem tW_3_119 : (Cond.instanceMethod ⟨"WidowWatch$Reader", "readParagraph", "(IZ)V"⟩) ∈ W0 := W0_3 (i := 119) rfl rfl
theorem tW_3_120 : (Cond.selects "WidowWatch$Reader" ⟨"WidowWatch$Reader", "readParagraph", "(IZ)V"⟩ ⟨"WidowWatch$Reader", "readParagraph", "(IZ)V"⟩) ∈ W0 := W0_3 (i := 120) rfl rfl
theorem tW_3_121 : (Cond.code ⟨"WidowWatch$Reader", "readParagraph", "(IZ)V"⟩ prog_7_method_7_code (7) (none : Option Jvm.ClassFile.FieldType)) ∈ W0 := W0_3 (i := 121) rfl rfl
theorem tW_3_123 : (Cond.methodLink "WidowWatch$Reader" (110) ⟨"WidowWatch$Book", "openParagraph", "(IZZ)V"⟩) ∈ W0 := W0_3 (i := 123) rfl rfl
theorem tW_3_124 : (Cond.instanceMethod ⟨"WidowWatch$Book", "openParagraph", "(IZZ)V"⟩) ∈ W0 := W0_3 (i := 124) rfl rfl
theorem tW_3_125 : (Cond.selects "WidowWatch$Book" ⟨"WidowWatch$Book", "openParagraph", "(IZZ)V"⟩ ⟨"WidowWatch$Book", "openParagraph", "(IZZ)V"⟩) ∈ W0 := W0_3 (i := 125) rfl rfl
theorem tW_3_126 : (Cond.code ⟨"WidowWatch$Book", "openParagraph", "(IZZ)V"⟩ prog_2_method_21_code (5) (none : Option Jvm.ClassFile.FieldType)) ∈ W0 := W0_3 (i := 126) rfl rfl
theorem tW_3_127 : (Cond.methodLink "WidowWatch$Book" (77) ⟨"WidowWatch$Book", "setBeginsPage", "(IZ)V"⟩) ∈ W0 := W0_3 (i := 127) rfl rfl
theorem tW_3_128 : (Cond.instanceMethod ⟨"WidowWatch$Book", "setBeginsPage", "(IZ)V"⟩) ∈ W0 := W0_3 (i := 128) rfl rfl
theorem tW_3_129 : (Cond.selects "WidowWatch$Book" ⟨"WidowWatch$Book", "setBeginsPage", "(IZ)V"⟩ ⟨"WidowWatch$Book", "setBeginsPage", "(IZ)V"⟩) ∈ W0 := W0_3 (i := 129) rfl rfl
theorem tW_3_130 : (Cond.code ⟨"WidowWatch$Book", "setBeginsPage", "(IZ)V"⟩ prog_2_method_16_code (3) (none : Option Jvm.ClassFile.FieldType)) ∈ W0 := W0_3 (i := 130) rfl rfl
theorem tW_3_131 : (Cond.methodLink "WidowWatch$Book" (81) ⟨"WidowWatch$Book", "fixTo", "(II)V"⟩) ∈ W0 := W0_3 (i := 131) rfl rfl
theorem tW_3_132 : (Cond.instanceMethod ⟨"WidowWatch$Book", "fixTo", "(II)V"⟩) ∈ W0 := W0_3 (i := 132) rfl rfl
theorem tW_3_133 : (Cond.selects "WidowWatch$Book" ⟨"WidowWatch$Book", "fixTo", "(II)V"⟩ ⟨"WidowWatch$Book", "fixTo", "(II)V"⟩) ∈ W0 := W0_3 (i := 133) rfl rfl
theorem tW_3_134 : (Cond.code ⟨"WidowWatch$Book", "fixTo", "(II)V"⟩ prog_2_method_17_code (3) (none : Option Jvm.ClassFile.FieldType)) ∈ W0 := W0_3 (i := 134) rfl rfl
theorem tW_3_135 : (Cond.methodLink "WidowWatch$Reader" (118) ⟨"WidowWatch$Book", "longestWord", "()I"⟩) ∈ W0 := W0_3 (i := 135) rfl rfl
theorem tW_3_136 : (Cond.instanceMethod ⟨"WidowWatch$Book", "longestWord", "()I"⟩) ∈ W0 := W0_3 (i := 136) rfl rfl
theorem tW_3_137 : (Cond.selects "WidowWatch$Book" ⟨"WidowWatch$Book", "longestWord", "()I"⟩ ⟨"WidowWatch$Book", "longestWord", "()I"⟩) ∈ W0 := W0_3 (i := 137) rfl rfl
theorem tW_3_138 : (Cond.code ⟨"WidowWatch$Book", "longestWord", "()I"⟩ prog_2_method_9_code (1) (some FieldType.int)) ∈ W0 := W0_3 (i := 138) rfl rfl
theorem tW_3_139 : (Cond.methodLink "WidowWatch$Reader" (121) ⟨"WidowWatch$Book", "addWord", "(II)V"⟩) ∈ W0 := W0_3 (i := 139) rfl rfl
theorem tW_3_140 : (Cond.instanceMethod ⟨"WidowWatch$Book", "addWord", "(II)V"⟩) ∈ W0 := W0_3 (i := 140) rfl rfl
theorem tW_3_141 : (Cond.selects "WidowWatch$Book" ⟨"WidowWatch$Book", "addWord", "(II)V"⟩ ⟨"WidowWatch$Book", "addWord", "(II)V"⟩) ∈ W0 := W0_3 (i := 141) rfl rfl
theorem tW_3_142 : (Cond.code ⟨"WidowWatch$Book", "addWord", "(II)V"⟩ prog_2_method_19_code (4) (none : Option Jvm.ClassFile.FieldType)) ∈ W0 := W0_3 (i := 142) rfl rfl
theorem tW_3_143 : (Cond.methodLink "WidowWatch$Book" (55) ⟨"WidowWatch$Book", "wordsOf", "(I)I"⟩) ∈ W0 := W0_3 (i := 143) rfl rfl
theorem tW_3_144 : (Cond.methodLink "WidowWatch$Book" (69) ⟨"WidowWatch$Book", "setWord", "(III)V"⟩) ∈ W0 := W0_3 (i := 144) rfl rfl
theorem tW_3_145 : (Cond.instanceMethod ⟨"WidowWatch$Book", "setWord", "(III)V"⟩) ∈ W0 := W0_3 (i := 145) rfl rfl
theorem tW_3_146 : (Cond.selects "WidowWatch$Book" ⟨"WidowWatch$Book", "setWord", "(III)V"⟩ ⟨"WidowWatch$Book", "setWord", "(III)V"⟩) ∈ W0 := W0_3 (i := 146) rfl rfl
theorem tW_3_147 : (Cond.code ⟨"WidowWatch$Book", "setWord", "(III)V"⟩ prog_2_method_18_code (4) (none : Option Jvm.ClassFile.FieldType)) ∈ W0 := W0_3 (i := 147) rfl rfl
theorem tW_3_149 : (Cond.methodLink "WidowWatch" (96) ⟨"WidowWatch$History", "keep", "(LWidowWatch$Book;)V"⟩) ∈ W0 := W0_3 (i := 149) rfl rfl
theorem tW_3_150 : (Cond.instanceMethod ⟨"WidowWatch$History", "keep", "(LWidowWatch$Book;)V"⟩) ∈ W0 := W0_3 (i := 150) rfl rfl
theorem tW_3_151 : (Cond.selects "WidowWatch$History" ⟨"WidowWatch$History", "keep", "(LWidowWatch$Book;)V"⟩ ⟨"WidowWatch$History", "keep", "(LWidowWatch$Book;)V"⟩) ∈ W0 := W0_3 (i := 151) rfl rfl
theorem tW_3_152 : (Cond.code ⟨"WidowWatch$History", "keep", "(LWidowWatch$Book;)V"⟩ prog_3_method_2_code (3) (none : Option Jvm.ClassFile.FieldType)) ∈ W0 := W0_3 (i := 152) rfl rfl
theorem tW_3_153 : (Cond.methodLink "WidowWatch$History" (33) ⟨"java/lang/Math", "min", "(II)I"⟩) ∈ W0 := W0_3 (i := 153) rfl rfl
theorem tW_3_154 : (Cond.methodLink "WidowWatch" (103) ⟨"WidowWatch$Book", "copyFrom", "(LWidowWatch$Book;)V"⟩) ∈ W0 := W0_3 (i := 154) rfl rfl
theorem tW_3_155 : (Cond.constant "WidowWatchLaw" (42) (-2000000098)) ∈ W0 := W0_3 (i := 155) rfl rfl
theorem tW_3_156 : (Cond.methodLink "WidowWatchLaw" (261) ⟨"WidowWatchLaw", "word", "(LWidowWatch;II)I"⟩) ∈ W0 := W0_3 (i := 156) rfl rfl
theorem tW_3_157 : (Cond.static ⟨"WidowWatchLaw", "word", "(LWidowWatch;II)I"⟩) ∈ W0 := W0_3 (i := 157) rfl rfl
theorem tW_3_159 : (Cond.classLink "WidowWatchLaw" (50) "java/lang/IndexOutOfBoundsException") ∈ W0 := W0_3 (i := 159) rfl rfl
theorem tW_3_160 : (Cond.classLink "WidowWatchLaw" (56) "java/util/NoSuchElementException") ∈ W0 := W0_3 (i := 160) rfl rfl
theorem tW_3_161 : (Cond.methodLink "WidowWatchLaw" (53) ⟨"WidowWatch", "word", "(II)I"⟩) ∈ W0 := W0_3 (i := 161) rfl rfl
theorem tW_3_162 : (Cond.instanceMethod ⟨"WidowWatch", "word", "(II)I"⟩) ∈ W0 := W0_3 (i := 162) rfl rfl
theorem tW_3_163 : (Cond.selects "WidowWatch" ⟨"WidowWatch", "word", "(II)I"⟩ ⟨"WidowWatch", "word", "(II)I"⟩) ∈ W0 := W0_3 (i := 163) rfl rfl
theorem tW_3_164 : (Cond.code ⟨"WidowWatch", "word", "(II)I"⟩ prog_1_method_7_code (3) (some FieldType.int)) ∈ W0 := W0_3 (i := 164) rfl rfl
theorem tW_3_165 : (Cond.methodLink "WidowWatch" (120) ⟨"WidowWatch", "requireParagraph", "(I)V"⟩) ∈ W0 := W0_3 (i := 165) rfl rfl
theorem tW_3_167 : (Cond.instanceMethod ⟨"WidowWatch", "requireParagraph", "(I)V"⟩) ∈ W0 := W0_3 (i := 167) rfl rfl
theorem tW_3_168 : (Cond.code ⟨"WidowWatch", "requireParagraph", "(I)V"⟩ prog_1_method_25_code (2) (none : Option Jvm.ClassFile.FieldType)) ∈ W0 := W0_3 (i := 168) rfl rfl
theorem tW_3_169 : (Cond.classLink "WidowWatch" (255) "java/lang/IndexOutOfBoundsException") ∈ W0 := W0_3 (i := 169) rfl rfl
theorem tW_3_170 : (Cond.instantiable "java/lang/IndexOutOfBoundsException" (6)) ∈ W0 := W0_3 (i := 170) rfl rfl
theorem tW_3_172 : (Cond.selects "java/lang/IndexOutOfBoundsException" ⟨"java/lang/Throwable", "fillInStackTrace", "(I)Ljava/lang/Throwable;"⟩ ⟨"java/lang/Throwable", "fillInStackTrace", "(I)Ljava/lang/Throwable;"⟩) ∈ W0 := W0_3 (i := 172) rfl rfl
theorem tW_3_173 : (Cond.lays "java/lang/IndexOutOfBoundsException" "java/lang/Throwable" "cause" "Ljava/lang/Throwable;") ∈ W0 := W0_3 (i := 173) rfl rfl
theorem tW_3_174 : (Cond.lays "java/lang/IndexOutOfBoundsException" "java/lang/Throwable" "stackTrace" "[Ljava/lang/StackTraceElement;") ∈ W0 := W0_3 (i := 174) rfl rfl
theorem tW_3_175 : (Cond.lays "java/lang/IndexOutOfBoundsException" "java/lang/Throwable" "suppressedExceptions" "Ljava/util/List;") ∈ W0 := W0_3 (i := 175) rfl rfl
theorem tW_3_176 : (Cond.lays "java/lang/IndexOutOfBoundsException" "java/lang/Throwable" "detailMessage" "Ljava/lang/String;") ∈ W0 := W0_3 (i := 176) rfl rfl
theorem tW_3_177 : (Cond.lays "java/lang/IndexOutOfBoundsException" "java/lang/Throwable" "backtrace" "Ljava/lang/Object;") ∈ W0 := W0_3 (i := 177) rfl rfl
theorem tW_3_179 : (Cond.methodLink "WidowWatch" (259) ⟨"java/lang/IndexOutOfBoundsException", "<init>", "(Ljava/lang/String;)V"⟩) ∈ W0 := W0_3 (i := 179) rfl rfl
theorem tW_3_180 : (Cond.instanceMethod ⟨"java/lang/IndexOutOfBoundsException", "<init>", "(Ljava/lang/String;)V"⟩) ∈ W0 := W0_3 (i := 180) rfl rfl
theorem tW_3_181 : (Cond.code ⟨"java/lang/IndexOutOfBoundsException", "<init>", "(Ljava/lang/String;)V"⟩ prog_23_method_2_code (2) (none : Option Jvm.ClassFile.FieldType)) ∈ W0 := W0_3 (i := 181) rfl rfl
theorem tW_3_182 : (Cond.methodLink "java/lang/IndexOutOfBoundsException" (7) ⟨"java/lang/RuntimeException", "<init>", "(Ljava/lang/String;)V"⟩) ∈ W0 := W0_3 (i := 182) rfl rfl
theorem tW_3_183 : (Cond.lays "java/lang/IndexOutOfBoundsException" "java/lang/Throwable" "depth" "I") ∈ W0 := W0_3 (i := 183) rfl rfl
theorem tW_3_185 : (Cond.methodLink "WidowWatch" (134) ⟨"WidowWatch$Book", "wordsOf", "(I)I"⟩) ∈ W0 := W0_3 (i := 185) rfl rfl
theorem tW_3_186 : (Cond.classLink "WidowWatch" (137) "java/util/NoSuchElementException") ∈ W0 := W0_3 (i := 186) rfl rfl
theorem tW_3_187 : (Cond.instantiable "java/util/NoSuchElementException" (6)) ∈ W0 := W0_3 (i := 187) rfl rfl
theorem tW_3_189 : (Cond.selects "java/util/NoSuchElementException" ⟨"java/lang/Throwable", "fillInStackTrace", "(I)Ljava/lang/Throwable;"⟩ ⟨"java/lang/Throwable", "fillInStackTrace", "(I)Ljava/lang/Throwable;"⟩) ∈ W0 := W0_3 (i := 189) rfl rfl
theorem tW_3_190 : (Cond.lays "java/util/NoSuchElementException" "java/lang/Throwable" "cause" "Ljava/lang/Throwable;") ∈ W0 := W0_3 (i := 190) rfl rfl
theorem tW_3_191 : (Cond.lays "java/util/NoSuchElementException" "java/lang/Throwable" "stackTrace" "[Ljava/lang/StackTraceElement;") ∈ W0 := W0_3 (i := 191) rfl rfl
theorem tW_3_192 : (Cond.lays "java/util/NoSuchElementException" "java/lang/Throwable" "suppressedExceptions" "Ljava/util/List;") ∈ W0 := W0_3 (i := 192) rfl rfl
theorem tW_3_193 : (Cond.lays "java/util/NoSuchElementException" "java/lang/Throwable" "detailMessage" "Ljava/lang/String;") ∈ W0 := W0_3 (i := 193) rfl rfl
theorem tW_3_194 : (Cond.lays "java/util/NoSuchElementException" "java/lang/Throwable" "backtrace" "Ljava/lang/Object;") ∈ W0 := W0_3 (i := 194) rfl rfl
theorem tW_3_196 : (Cond.methodLink "WidowWatch" (141) ⟨"java/util/NoSuchElementException", "<init>", "(Ljava/lang/String;)V"⟩) ∈ W0 := W0_3 (i := 196) rfl rfl
theorem tW_3_197 : (Cond.instanceMethod ⟨"java/util/NoSuchElementException", "<init>", "(Ljava/lang/String;)V"⟩) ∈ W0 := W0_3 (i := 197) rfl rfl
theorem tW_3_198 : (Cond.code ⟨"java/util/NoSuchElementException", "<init>", "(Ljava/lang/String;)V"⟩ prog_37_method_4_code (2) (none : Option Jvm.ClassFile.FieldType)) ∈ W0 := W0_3 (i := 198) rfl rfl
theorem tW_3_199 : (Cond.methodLink "java/util/NoSuchElementException" (13) ⟨"java/lang/RuntimeException", "<init>", "(Ljava/lang/String;)V"⟩) ∈ W0 := W0_3 (i := 199) rfl rfl
theorem tW_3_200 : (Cond.lays "java/util/NoSuchElementException" "java/lang/Throwable" "depth" "I") ∈ W0 := W0_3 (i := 200) rfl rfl
theorem tW_3_202 : (Cond.methodLink "WidowWatch" (142) ⟨"WidowWatch$Book", "wordAt", "(II)I"⟩) ∈ W0 := W0_3 (i := 202) rfl rfl
theorem tW_3_203 : (Cond.constant "WidowWatchLaw" (52) (-2000000097)) ∈ W0 := W0_3 (i := 203) rfl rfl
theorem tW_3_204 : (Cond.constant "WidowWatchLaw" (58) (-2000000100)) ∈ W0 := W0_3 (i := 204) rfl rfl
theorem tW_3_205 : (Cond.methodLink "WidowWatchLaw" (263) ⟨"WidowWatchLaw", "lineLength", "(LWidowWatch;III)I"⟩) ∈ W0 := W0_3 (i := 205) rfl rfl
theorem tW_3_206 : (Cond.static ⟨"WidowWatchLaw", "lineLength", "(LWidowWatch;III)I"⟩) ∈ W0 := W0_3 (i := 206) rfl rfl
theorem tW_3_208 : (Cond.methodLink "WidowWatchLaw" (59) ⟨"WidowWatch", "lineLength", "(III)I"⟩) ∈ W0 := W0_3 (i := 208) rfl rfl
theorem tW_3_209 : (Cond.instanceMethod ⟨"WidowWatch", "lineLength", "(III)I"⟩) ∈ W0 := W0_3 (i := 209) rfl rfl
theorem tW_3_210 : (Cond.selects "WidowWatch" ⟨"WidowWatch", "lineLength", "(III)I"⟩ ⟨"WidowWatch", "lineLength", "(III)I"⟩) ∈ W0 := W0_3 (i := 210) rfl rfl
theorem tW_3_211 : (Cond.code ⟨"WidowWatch", "lineLength", "(III)I"⟩ prog_1_method_8_code (4) (some FieldType.int)) ∈ W0 := W0_3 (i := 211) rfl rfl
theorem tW_3_213 : (Cond.methodLink "WidowWatch" (147) ⟨"WidowWatch$Lines", "countOf", "(II)I"⟩) ∈ W0 := W0_3 (i := 213) rfl rfl
theorem tW_3_214 : (Cond.instanceMethod ⟨"WidowWatch$Lines", "countOf", "(II)I"⟩) ∈ W0 := W0_3 (i := 214) rfl rfl
theorem tW_3_215 : (Cond.selects "WidowWatch$Lines" ⟨"WidowWatch$Lines", "countOf", "(II)I"⟩ ⟨"WidowWatch$Lines", "countOf", "(II)I"⟩) ∈ W0 := W0_3 (i := 215) rfl rfl
theorem tW_3_216 : (Cond.code ⟨"WidowWatch$Lines", "countOf", "(II)I"⟩ prog_4_method_4_code (3) (some FieldType.int)) ∈ W0 := W0_3 (i := 216) rfl rfl
theorem tW_3_219 : (Cond.methodLink "WidowWatch" (152) ⟨"WidowWatch$Lines", "takenBy", "(III)I"⟩) ∈ W0 := W0_3 (i := 219) rfl rfl
theorem tW_3_220 : (Cond.instanceMethod ⟨"WidowWatch$Lines", "takenBy", "(III)I"⟩) ∈ W0 := W0_3 (i := 220) rfl rfl
theorem tW_3_221 : (Cond.selects "WidowWatch$Lines" ⟨"WidowWatch$Lines", "takenBy", "(III)I"⟩ ⟨"WidowWatch$Lines", "takenBy", "(III)I"⟩) ∈ W0 := W0_3 (i := 221) rfl rfl
theorem tW_3_222 : (Cond.code ⟨"WidowWatch$Lines", "takenBy", "(III)I"⟩ prog_4_method_5_code (4) (some FieldType.int)) ∈ W0 := W0_3 (i := 222) rfl rfl
theorem tW_3_223 : (Cond.methodLink "WidowWatchLaw" (200) ⟨"WidowWatchLaw", "plan", "(LWidowWatch;ZI)I"⟩) ∈ W0 := W0_3 (i := 223) rfl rfl
theorem tW_3_224 : (Cond.static ⟨"WidowWatchLaw", "plan", "(LWidowWatch;ZI)I"⟩) ∈ W0 := W0_3 (i := 224) rfl rfl
theorem tW_3_226 : (Cond.methodLink "WidowWatchLaw" (63) ⟨"WidowWatch", "plan", "(ZI)I"⟩) ∈ W0 := W0_3 (i := 226) rfl rfl
theorem tW_3_227 : (Cond.instanceMethod ⟨"WidowWatch", "plan", "(ZI)I"⟩) ∈ W0 := W0_3 (i := 227) rfl rfl
theorem tW_3_228 : (Cond.selects "WidowWatch" ⟨"WidowWatch", "plan", "(ZI)I"⟩ ⟨"WidowWatch", "plan", "(ZI)I"⟩) ∈ W0 := W0_3 (i := 228) rfl rfl
theorem tW_3_229 : (Cond.code ⟨"WidowWatch", "plan", "(ZI)I"⟩ prog_1_method_9_code (3) (some FieldType.int)) ∈ W0 := W0_3 (i := 229) rfl rfl
theorem tW_3_230 : (Cond.methodLink "WidowWatch" (112) ⟨"WidowWatch", "requireWhat", "(II)V"⟩) ∈ W0 := W0_3 (i := 230) rfl rfl
theorem tW_3_231 : (Cond.static ⟨"WidowWatch", "requireWhat", "(II)V"⟩) ∈ W0 := W0_3 (i := 231) rfl rfl
theorem tW_3_232 : (Cond.code ⟨"WidowWatch", "requireWhat", "(II)V"⟩ prog_1_method_27_code (2) (none : Option Jvm.ClassFile.FieldType)) ∈ W0 := W0_3 (i := 232) rfl rfl
theorem tW_3_234 : (Cond.methodLink "WidowWatch" (123) ⟨"WidowWatch", "upToDate", "(Z)LWidowWatch$Plan;"⟩) ∈ W0 := W0_3 (i := 234) rfl rfl
theorem tW_3_236 : (Cond.instanceMethod ⟨"WidowWatch", "upToDate", "(Z)LWidowWatch$Plan;"⟩) ∈ W0 := W0_3 (i := 236) rfl rfl
theorem tW_3_237 : (Cond.code ⟨"WidowWatch", "upToDate", "(Z)LWidowWatch$Plan;"⟩ prog_1_method_30_code (2) (some (FieldType.object "WidowWatch$Plan"))) ∈ W0 := W0_3 (i := 237) rfl rfl
theorem tW_3_238 : (Cond.methodLink "WidowWatch" (270) ⟨"WidowWatch$Planner", "lay", "(LWidowWatch$Book;LWidowWatch$Lines;LWidowWatch$Plan;)V"⟩) ∈ W0 := W0_3 (i := 238) rfl rfl
theorem tW_3_239 : (Cond.instanceMethod ⟨"WidowWatch$Planner", "lay", "(LWidowWatch$Book;LWidowWatch$Lines;LWidowWatch$Plan;)V"⟩) ∈ W0 := W0_3 (i := 239) rfl rfl
theorem tW_4_0 : (Cond.selects "WidowWatch$Planner" ⟨"WidowWatch$Planner", "lay", "(LWidowWatch$Book;LWidowWatch$Lines;LWidowWatch$Plan;)V"⟩ ⟨"WidowWatch$Planner", "lay", "(LWidowWatch$Book;LWidowWatch$Lines;LWidowWatch$Plan;)V"⟩) ∈ W0 := W0_4 (i := 0) rfl rfl
theorem tW_4_1 : (Cond.code ⟨"WidowWatch$Planner", "lay", "(LWidowWatch$Book;LWidowWatch$Lines;LWidowWatch$Plan;)V"⟩ prog_6_method_2_code (8) (none : Option Jvm.ClassFile.FieldType)) ∈ W0 := W0_4 (i := 1) rfl rfl
theorem tW_4_3 : (Cond.methodLink "WidowWatch$Planner" (37) ⟨"WidowWatch$Planner", "chooseSettings", "(LWidowWatch$Book;LWidowWatch$Lines;I)V"⟩) ∈ W0 := W0_4 (i := 3) rfl rfl
theorem tW_4_4 : (Cond.instanceMethod ⟨"WidowWatch$Planner", "chooseSettings", "(LWidowWatch$Book;LWidowWatch$Lines;I)V"⟩) ∈ W0 := W0_4 (i := 4) rfl rfl
theorem tW_4_5 : (Cond.selects "WidowWatch$Planner" ⟨"WidowWatch$Planner", "chooseSettings", "(LWidowWatch$Book;LWidowWatch$Lines;I)V"⟩ ⟨"WidowWatch$Planner", "chooseSettings", "(LWidowWatch$Book;LWidowWatch$Lines;I)V"⟩) ∈ W0 := W0_4 (i := 5) rfl rfl
theorem tW_4_6 : (Cond.code ⟨"WidowWatch$Planner", "chooseSettings", "(LWidowWatch$Book;LWidowWatch$Lines;I)V"⟩ prog_6_method_3_code (13) (none : Option Jvm.ClassFile.FieldType)) ∈ W0 := W0_4 (i := 6) rfl rfl
theorem tW_4_7 : (Cond.methodLink "WidowWatch$Planner" (72) ⟨"WidowWatch$Book", "fixedTo", "(I)I"⟩) ∈ W0 := W0_4 (i := 7) rfl rfl
theorem tW_4_8 : (Cond.instanceMethod ⟨"WidowWatch$Book", "fixedTo", "(I)I"⟩) ∈ W0 := W0_4 (i := 8) rfl rfl
theorem tW_4_9 : (Cond.selects "WidowWatch$Book" ⟨"WidowWatch$Book", "fixedTo", "(I)I"⟩ ⟨"WidowWatch$Book", "fixedTo", "(I)I"⟩) ∈ W0 := W0_4 (i := 9) rfl rfl
theorem tW_4_10 : (Cond.code ⟨"WidowWatch$Book", "fixedTo", "(I)I"⟩ prog_2_method_15_code (2) (some FieldType.int)) ∈ W0 := W0_4 (i := 10) rfl rfl
theorem tW_4_11 : (Cond.methodLink "WidowWatch$Planner" (54) ⟨"WidowWatch$Lines", "countOf", "(II)I"⟩) ∈ W0 := W0_4 (i := 11) rfl rfl
theorem tW_4_12 : (Cond.methodLink "WidowWatch$Planner" (76) ⟨"WidowWatch$Book", "settingCost", "(II)I"⟩) ∈ W0 := W0_4 (i := 12) rfl rfl
theorem tW_4_13 : (Cond.instanceMethod ⟨"WidowWatch$Book", "settingCost", "(II)I"⟩) ∈ W0 := W0_4 (i := 13) rfl rfl
theorem tW_4_14 : (Cond.selects "WidowWatch$Book" ⟨"WidowWatch$Book", "settingCost", "(II)I"⟩ ⟨"WidowWatch$Book", "settingCost", "(II)I"⟩) ∈ W0 := W0_4 (i := 14) rfl rfl
theorem tW_4_15 : (Cond.code ⟨"WidowWatch$Book", "settingCost", "(II)I"⟩ prog_2_method_27_code (3) (some FieldType.int)) ∈ W0 := W0_4 (i := 15) rfl rfl
theorem tW_4_16 : (Cond.methodLink "WidowWatch$Book" (51) ⟨"WidowWatch$Book", "costOf", "(I)I"⟩) ∈ W0 := W0_4 (i := 16) rfl rfl
theorem tW_4_17 : (Cond.instanceMethod ⟨"WidowWatch$Book", "costOf", "(I)I"⟩) ∈ W0 := W0_4 (i := 17) rfl rfl
theorem tW_4_18 : (Cond.selects "WidowWatch$Book" ⟨"WidowWatch$Book", "costOf", "(I)I"⟩ ⟨"WidowWatch$Book", "costOf", "(I)I"⟩) ∈ W0 := W0_4 (i := 18) rfl rfl
theorem tW_4_19 : (Cond.code ⟨"WidowWatch$Book", "costOf", "(I)I"⟩ prog_2_method_7_code (2) (some FieldType.int)) ∈ W0 := W0_4 (i := 19) rfl rfl
theorem tW_4_20 : (Cond.methodLink "WidowWatch$Planner" (60) ⟨"WidowWatch$Planner", "weigh", "(LWidowWatch$Book;II)V"⟩) ∈ W0 := W0_4 (i := 20) rfl rfl
theorem tW_4_21 : (Cond.instanceMethod ⟨"WidowWatch$Planner", "weigh", "(LWidowWatch$Book;II)V"⟩) ∈ W0 := W0_4 (i := 21) rfl rfl
theorem tW_4_22 : (Cond.selects "WidowWatch$Planner" ⟨"WidowWatch$Planner", "weigh", "(LWidowWatch$Book;II)V"⟩ ⟨"WidowWatch$Planner", "weigh", "(LWidowWatch$Book;II)V"⟩) ∈ W0 := W0_4 (i := 22) rfl rfl
theorem tW_4_23 : (Cond.code ⟨"WidowWatch$Planner", "weigh", "(LWidowWatch$Book;II)V"⟩ prog_6_method_4_code (14) (none : Option Jvm.ClassFile.FieldType)) ∈ W0 := W0_4 (i := 23) rfl rfl
theorem tW_4_24 : (Cond.methodLink "WidowWatch$Planner" (79) ⟨"WidowWatch$Book", "beginsPage", "(I)Z"⟩) ∈ W0 := W0_4 (i := 24) rfl rfl
theorem tW_4_25 : (Cond.instanceMethod ⟨"WidowWatch$Book", "beginsPage", "(I)Z"⟩) ∈ W0 := W0_4 (i := 25) rfl rfl
theorem tW_4_26 : (Cond.selects "WidowWatch$Book" ⟨"WidowWatch$Book", "beginsPage", "(I)Z"⟩ ⟨"WidowWatch$Book", "beginsPage", "(I)Z"⟩) ∈ W0 := W0_4 (i := 26) rfl rfl
theorem tW_4_27 : (Cond.code ⟨"WidowWatch$Book", "beginsPage", "(I)Z"⟩ prog_2_method_14_code (2) (some FieldType.boolean)) ∈ W0 := W0_4 (i := 27) rfl rfl
theorem tW_4_28 : (Cond.methodLink "WidowWatch$Planner" (83) ⟨"WidowWatch$Book", "isHeading", "(I)Z"⟩) ∈ W0 := W0_4 (i := 28) rfl rfl
theorem tW_4_29 : (Cond.instanceMethod ⟨"WidowWatch$Book", "isHeading", "(I)Z"⟩) ∈ W0 := W0_4 (i := 29) rfl rfl
theorem tW_4_30 : (Cond.selects "WidowWatch$Book" ⟨"WidowWatch$Book", "isHeading", "(I)Z"⟩ ⟨"WidowWatch$Book", "isHeading", "(I)Z"⟩) ∈ W0 := W0_4 (i := 30) rfl rfl
theorem tW_4_31 : (Cond.code ⟨"WidowWatch$Book", "isHeading", "(I)Z"⟩ prog_2_method_13_code (2) (some FieldType.boolean)) ∈ W0 := W0_4 (i := 31) rfl rfl
theorem tW_4_33 : (Cond.methodLink "WidowWatch$Planner" (86) ⟨"WidowWatch$Book", "beginCost", "(IIZ)I"⟩) ∈ W0 := W0_4 (i := 33) rfl rfl
theorem tW_4_34 : (Cond.instanceMethod ⟨"WidowWatch$Book", "beginCost", "(IIZ)I"⟩) ∈ W0 := W0_4 (i := 34) rfl rfl
theorem tW_4_35 : (Cond.selects "WidowWatch$Book" ⟨"WidowWatch$Book", "beginCost", "(IIZ)I"⟩ ⟨"WidowWatch$Book", "beginCost", "(IIZ)I"⟩) ∈ W0 := W0_4 (i := 35) rfl rfl
theorem tW_4_36 : (Cond.code ⟨"WidowWatch$Book", "beginCost", "(IIZ)I"⟩ prog_2_method_26_code (5) (some FieldType.int)) ∈ W0 := W0_4 (i := 36) rfl rfl
theorem tW_4_37 : (Cond.methodLink "WidowWatch$Book" (85) ⟨"WidowWatch$Lines", "isWidow", "(II)Z"⟩) ∈ W0 := W0_4 (i := 37) rfl rfl
theorem tW_4_38 : (Cond.static ⟨"WidowWatch$Lines", "isWidow", "(II)Z"⟩) ∈ W0 := W0_4 (i := 38) rfl rfl
theorem tW_4_39 : (Cond.code ⟨"WidowWatch$Lines", "isWidow", "(II)Z"⟩ prog_4_method_2_code (2) (some FieldType.boolean)) ∈ W0 := W0_4 (i := 39) rfl rfl
theorem tW_4_40 : (Cond.methodLink "WidowWatch$Book" (91) ⟨"WidowWatch$Lines", "isOrphan", "(II)Z"⟩) ∈ W0 := W0_4 (i := 40) rfl rfl
theorem tW_4_41 : (Cond.static ⟨"WidowWatch$Lines", "isOrphan", "(II)Z"⟩) ∈ W0 := W0_4 (i := 41) rfl rfl
theorem tW_4_42 : (Cond.code ⟨"WidowWatch$Lines", "isOrphan", "(II)Z"⟩ prog_4_method_3_code (2) (some FieldType.boolean)) ∈ W0 := W0_4 (i := 42) rfl rfl
theorem tW_4_43 : (Cond.methodLink "WidowWatch$Planner" (90) ⟨"WidowWatch$Book", "endCost", "(IZ)I"⟩) ∈ W0 := W0_4 (i := 43) rfl rfl
theorem tW_4_44 : (Cond.instanceMethod ⟨"WidowWatch$Book", "endCost", "(IZ)I"⟩) ∈ W0 := W0_4 (i := 44) rfl rfl
theorem tW_4_45 : (Cond.selects "WidowWatch$Book" ⟨"WidowWatch$Book", "endCost", "(IZ)I"⟩ ⟨"WidowWatch$Book", "endCost", "(IZ)I"⟩) ∈ W0 := W0_4 (i := 45) rfl rfl
theorem tW_4_46 : (Cond.code ⟨"WidowWatch$Book", "endCost", "(IZ)I"⟩ prog_2_method_25_code (3) (some FieldType.int)) ∈ W0 := W0_4 (i := 46) rfl rfl
theorem tW_4_47 : (Cond.methodLink "WidowWatch$Planner" (94) ⟨"WidowWatch$Book", "mustEnd", "(IZ)Z"⟩) ∈ W0 := W0_4 (i := 47) rfl rfl
theorem tW_4_48 : (Cond.instanceMethod ⟨"WidowWatch$Book", "mustEnd", "(IZ)Z"⟩) ∈ W0 := W0_4 (i := 48) rfl rfl
theorem tW_4_49 : (Cond.selects "WidowWatch$Book" ⟨"WidowWatch$Book", "mustEnd", "(IZ)Z"⟩ ⟨"WidowWatch$Book", "mustEnd", "(IZ)Z"⟩) ∈ W0 := W0_4 (i := 49) rfl rfl
theorem tW_4_50 : (Cond.code ⟨"WidowWatch$Book", "mustEnd", "(IZ)Z"⟩ prog_2_method_23_code (3) (some FieldType.boolean)) ∈ W0 := W0_4 (i := 50) rfl rfl
theorem tW_4_51 : (Cond.methodLink "WidowWatch$Planner" (98) ⟨"WidowWatch$Book", "canEnd", "(I)Z"⟩) ∈ W0 := W0_4 (i := 51) rfl rfl
theorem tW_4_52 : (Cond.instanceMethod ⟨"WidowWatch$Book", "canEnd", "(I)Z"⟩) ∈ W0 := W0_4 (i := 52) rfl rfl
theorem tW_4_53 : (Cond.selects "WidowWatch$Book" ⟨"WidowWatch$Book", "canEnd", "(I)Z"⟩ ⟨"WidowWatch$Book", "canEnd", "(I)Z"⟩) ∈ W0 := W0_4 (i := 53) rfl rfl
theorem tW_4_54 : (Cond.code ⟨"WidowWatch$Book", "canEnd", "(I)Z"⟩ prog_2_method_24_code (2) (some FieldType.boolean)) ∈ W0 := W0_4 (i := 54) rfl rfl
theorem tW_4_55 : (Cond.methodLink "WidowWatch$Planner" (41) ⟨"WidowWatch$Plan", "clear", "()V"⟩) ∈ W0 := W0_4 (i := 55) rfl rfl
theorem tW_4_56 : (Cond.instanceMethod ⟨"WidowWatch$Plan", "clear", "()V"⟩) ∈ W0 := W0_4 (i := 56) rfl rfl
theorem tW_4_57 : (Cond.selects "WidowWatch$Plan" ⟨"WidowWatch$Plan", "clear", "()V"⟩ ⟨"WidowWatch$Plan", "clear", "()V"⟩) ∈ W0 := W0_4 (i := 57) rfl rfl
theorem tW_4_58 : (Cond.code ⟨"WidowWatch$Plan", "clear", "()V"⟩ prog_5_method_2_code (1) (none : Option Jvm.ClassFile.FieldType)) ∈ W0 := W0_4 (i := 58) rfl rfl
theorem tW_4_59 : (Cond.methodLink "WidowWatch$Planner" (46) ⟨"WidowWatch$Plan", "linesOnLastPage", "()I"⟩) ∈ W0 := W0_4 (i := 59) rfl rfl
theorem tW_4_60 : (Cond.instanceMethod ⟨"WidowWatch$Plan", "linesOnLastPage", "()I"⟩) ∈ W0 := W0_4 (i := 60) rfl rfl
theorem tW_4_61 : (Cond.selects "WidowWatch$Plan" ⟨"WidowWatch$Plan", "linesOnLastPage", "()I"⟩ ⟨"WidowWatch$Plan", "linesOnLastPage", "()I"⟩) ∈ W0 := W0_4 (i := 61) rfl rfl
theorem tW_4_62 : (Cond.code ⟨"WidowWatch$Plan", "linesOnLastPage", "()I"⟩ prog_5_method_5_code (1) (some FieldType.int)) ∈ W0 := W0_4 (i := 62) rfl rfl
theorem tW_4_64 : (Cond.methodLink "WidowWatch$Planner" (64) ⟨"WidowWatch$Plan", "setParagraph", "(III)V"⟩) ∈ W0 := W0_4 (i := 64) rfl rfl
theorem tW_4_65 : (Cond.instanceMethod ⟨"WidowWatch$Plan", "setParagraph", "(III)V"⟩) ∈ W0 := W0_4 (i := 65) rfl rfl
theorem tW_4_66 : (Cond.selects "WidowWatch$Plan" ⟨"WidowWatch$Plan", "setParagraph", "(III)V"⟩ ⟨"WidowWatch$Plan", "setParagraph", "(III)V"⟩) ∈ W0 := W0_4 (i := 66) rfl rfl
theorem tW_4_67 : (Cond.code ⟨"WidowWatch$Plan", "setParagraph", "(III)V"⟩ prog_5_method_3_code (4) (none : Option Jvm.ClassFile.FieldType)) ∈ W0 := W0_4 (i := 67) rfl rfl
theorem tW_4_69 : (Cond.methodLink "WidowWatch$Planner" (68) ⟨"WidowWatch$Plan", "addLine", "(IIZ)V"⟩) ∈ W0 := W0_4 (i := 69) rfl rfl
theorem tW_4_70 : (Cond.instanceMethod ⟨"WidowWatch$Plan", "addLine", "(IIZ)V"⟩) ∈ W0 := W0_4 (i := 70) rfl rfl
theorem tW_4_71 : (Cond.selects "WidowWatch$Plan" ⟨"WidowWatch$Plan", "addLine", "(IIZ)V"⟩ ⟨"WidowWatch$Plan", "addLine", "(IIZ)V"⟩) ∈ W0 := W0_4 (i := 71) rfl rfl
theorem tW_4_72 : (Cond.code ⟨"WidowWatch$Plan", "addLine", "(IIZ)V"⟩ prog_5_method_4_code (4) (none : Option Jvm.ClassFile.FieldType)) ∈ W0 := W0_4 (i := 72) rfl rfl
theorem tW_4_73 : (Cond.methodLink "WidowWatch$Plan" (38) ⟨"WidowWatch$Plan", "linesOnLastPage", "()I"⟩) ∈ W0 := W0_4 (i := 73) rfl rfl
theorem tW_4_74 : (Cond.methodLink "WidowWatch" (274) ⟨"WidowWatch", "layPlain", "(LWidowWatch$Plan;II)V"⟩) ∈ W0 := W0_4 (i := 74) rfl rfl
theorem tW_4_76 : (Cond.instanceMethod ⟨"WidowWatch", "layPlain", "(LWidowWatch$Plan;II)V"⟩) ∈ W0 := W0_4 (i := 76) rfl rfl
theorem tW_4_77 : (Cond.code ⟨"WidowWatch", "layPlain", "(LWidowWatch$Plan;II)V"⟩ prog_1_method_31_code (9) (none : Option Jvm.ClassFile.FieldType)) ∈ W0 := W0_4 (i := 77) rfl rfl
theorem tW_4_78 : (Cond.methodLink "WidowWatch" (278) ⟨"WidowWatch$Plan", "clear", "()V"⟩) ∈ W0 := W0_4 (i := 78) rfl rfl
theorem tW_4_79 : (Cond.methodLink "WidowWatch" (281) ⟨"WidowWatch$Plan", "setParagraph", "(III)V"⟩) ∈ W0 := W0_4 (i := 79) rfl rfl
theorem tW_4_80 : (Cond.methodLink "WidowWatch" (184) ⟨"WidowWatch$Book", "beginsPage", "(I)Z"⟩) ∈ W0 := W0_4 (i := 80) rfl rfl
theorem tW_4_81 : (Cond.methodLink "WidowWatch" (284) ⟨"WidowWatch$Plan", "linesOnLastPage", "()I"⟩) ∈ W0 := W0_4 (i := 81) rfl rfl
theorem tW_4_82 : (Cond.methodLink "WidowWatch" (287) ⟨"WidowWatch$Book", "mustEnd", "(IZ)Z"⟩) ∈ W0 := W0_4 (i := 82) rfl rfl
theorem tW_4_83 : (Cond.methodLink "WidowWatch" (291) ⟨"WidowWatch$Plan", "addLine", "(IIZ)V"⟩) ∈ W0 := W0_4 (i := 83) rfl rfl
theorem tW_4_84 : (Cond.methodLink "WidowWatch" (156) ⟨"WidowWatch$Plan", "numberOf", "(LWidowWatch$Book;I)I"⟩) ∈ W0 := W0_4 (i := 84) rfl rfl
theorem tW_4_85 : (Cond.instanceMethod ⟨"WidowWatch$Plan", "numberOf", "(LWidowWatch$Book;I)I"⟩) ∈ W0 := W0_4 (i := 85) rfl rfl
theorem tW_4_86 : (Cond.selects "WidowWatch$Plan" ⟨"WidowWatch$Plan", "numberOf", "(LWidowWatch$Book;I)I"⟩ ⟨"WidowWatch$Plan", "numberOf", "(LWidowWatch$Book;I)I"⟩) ∈ W0 := W0_4 (i := 86) rfl rfl
theorem tW_4_87 : (Cond.code ⟨"WidowWatch$Plan", "numberOf", "(LWidowWatch$Book;I)I"⟩ prog_5_method_19_code (5) (some FieldType.int)) ∈ W0 := W0_4 (i := 87) rfl rfl
theorem tW_4_88 : (Cond.methodLink "WidowWatch$Plan" (101) ⟨"WidowWatch$Plan", "settingCosts", "(LWidowWatch$Book;)I"⟩) ∈ W0 := W0_4 (i := 88) rfl rfl
theorem tW_4_89 : (Cond.instanceMethod ⟨"WidowWatch$Plan", "settingCosts", "(LWidowWatch$Book;)I"⟩) ∈ W0 := W0_4 (i := 89) rfl rfl
theorem tW_4_90 : (Cond.selects "WidowWatch$Plan" ⟨"WidowWatch$Plan", "settingCosts", "(LWidowWatch$Book;)I"⟩ ⟨"WidowWatch$Plan", "settingCosts", "(LWidowWatch$Book;)I"⟩) ∈ W0 := W0_4 (i := 90) rfl rfl
theorem tW_4_91 : (Cond.code ⟨"WidowWatch$Plan", "settingCosts", "(LWidowWatch$Book;)I"⟩ prog_5_method_17_code (4) (some FieldType.int)) ∈ W0 := W0_4 (i := 91) rfl rfl
theorem tW_4_92 : (Cond.methodLink "WidowWatch$Plan" (89) ⟨"WidowWatch$Plan", "settingOf", "(I)I"⟩) ∈ W0 := W0_4 (i := 92) rfl rfl
theorem tW_4_93 : (Cond.instanceMethod ⟨"WidowWatch$Plan", "settingOf", "(I)I"⟩) ∈ W0 := W0_4 (i := 93) rfl rfl
theorem tW_4_94 : (Cond.selects "WidowWatch$Plan" ⟨"WidowWatch$Plan", "settingOf", "(I)I"⟩ ⟨"WidowWatch$Plan", "settingOf", "(I)I"⟩) ∈ W0 := W0_4 (i := 94) rfl rfl
theorem tW_4_95 : (Cond.code ⟨"WidowWatch$Plan", "settingOf", "(I)I"⟩ prog_5_method_6_code (2) (some FieldType.int)) ∈ W0 := W0_4 (i := 95) rfl rfl
theorem tW_4_96 : (Cond.methodLink "WidowWatch$Plan" (53) ⟨"WidowWatch$Plan", "linesOf", "(I)I"⟩) ∈ W0 := W0_4 (i := 96) rfl rfl
theorem tW_4_97 : (Cond.instanceMethod ⟨"WidowWatch$Plan", "linesOf", "(I)I"⟩) ∈ W0 := W0_4 (i := 97) rfl rfl
theorem tW_4_98 : (Cond.selects "WidowWatch$Plan" ⟨"WidowWatch$Plan", "linesOf", "(I)I"⟩ ⟨"WidowWatch$Plan", "linesOf", "(I)I"⟩) ∈ W0 := W0_4 (i := 98) rfl rfl
theorem tW_4_99 : (Cond.code ⟨"WidowWatch$Plan", "linesOf", "(I)I"⟩ prog_5_method_7_code (2) (some FieldType.int)) ∈ W0 := W0_4 (i := 99) rfl rfl
theorem tW_4_100 : (Cond.methodLink "WidowWatch$Plan" (92) ⟨"WidowWatch$Book", "settingCost", "(II)I"⟩) ∈ W0 := W0_4 (i := 100) rfl rfl
theorem tW_4_101 : (Cond.methodLink "WidowWatch$Plan" (96) ⟨"WidowWatch$Plan", "beginCost", "(LWidowWatch$Book;I)I"⟩) ∈ W0 := W0_4 (i := 101) rfl rfl
theorem tW_4_102 : (Cond.instanceMethod ⟨"WidowWatch$Plan", "beginCost", "(LWidowWatch$Book;I)I"⟩) ∈ W0 := W0_4 (i := 102) rfl rfl
theorem tW_4_103 : (Cond.selects "WidowWatch$Plan" ⟨"WidowWatch$Plan", "beginCost", "(LWidowWatch$Book;I)I"⟩ ⟨"WidowWatch$Plan", "beginCost", "(LWidowWatch$Book;I)I"⟩) ∈ W0 := W0_4 (i := 103) rfl rfl
theorem tW_4_104 : (Cond.code ⟨"WidowWatch$Plan", "beginCost", "(LWidowWatch$Book;I)I"⟩ prog_5_method_14_code (3) (some FieldType.int)) ∈ W0 := W0_4 (i := 104) rfl rfl
theorem tW_4_105 : (Cond.methodLink "WidowWatch$Plan" (50) ⟨"WidowWatch$Plan", "firstLine", "(I)I"⟩) ∈ W0 := W0_4 (i := 105) rfl rfl
theorem tW_4_106 : (Cond.instanceMethod ⟨"WidowWatch$Plan", "firstLine", "(I)I"⟩) ∈ W0 := W0_4 (i := 106) rfl rfl
theorem tW_4_107 : (Cond.selects "WidowWatch$Plan" ⟨"WidowWatch$Plan", "firstLine", "(I)I"⟩ ⟨"WidowWatch$Plan", "firstLine", "(I)I"⟩) ∈ W0 := W0_4 (i := 107) rfl rfl
theorem tW_4_108 : (Cond.code ⟨"WidowWatch$Plan", "firstLine", "(I)I"⟩ prog_5_method_9_code (2) (some FieldType.int)) ∈ W0 := W0_4 (i := 108) rfl rfl
theorem tW_4_109 : (Cond.methodLink "WidowWatch$Plan" (46) ⟨"WidowWatch$Plan", "firstParagraph", "(I)I"⟩) ∈ W0 := W0_4 (i := 109) rfl rfl
theorem tW_4_110 : (Cond.instanceMethod ⟨"WidowWatch$Plan", "firstParagraph", "(I)I"⟩) ∈ W0 := W0_4 (i := 110) rfl rfl
theorem tW_4_111 : (Cond.selects "WidowWatch$Plan" ⟨"WidowWatch$Plan", "firstParagraph", "(I)I"⟩ ⟨"WidowWatch$Plan", "firstParagraph", "(I)I"⟩) ∈ W0 := W0_4 (i := 111) rfl rfl
theorem tW_4_112 : (Cond.code ⟨"WidowWatch$Plan", "firstParagraph", "(I)I"⟩ prog_5_method_8_code (2) (some FieldType.int)) ∈ W0 := W0_4 (i := 112) rfl rfl
theorem tW_4_113 : (Cond.methodLink "WidowWatch$Plan" (71) ⟨"WidowWatch$Plan", "isBehindHeading", "(LWidowWatch$Book;I)Z"⟩) ∈ W0 := W0_4 (i := 113) rfl rfl
theorem tW_4_114 : (Cond.instanceMethod ⟨"WidowWatch$Plan", "isBehindHeading", "(LWidowWatch$Book;I)Z"⟩) ∈ W0 := W0_4 (i := 114) rfl rfl
theorem tW_4_115 : (Cond.selects "WidowWatch$Plan" ⟨"WidowWatch$Plan", "isBehindHeading", "(LWidowWatch$Book;I)Z"⟩ ⟨"WidowWatch$Plan", "isBehindHeading", "(LWidowWatch$Book;I)Z"⟩) ∈ W0 := W0_4 (i := 115) rfl rfl
theorem tW_4_116 : (Cond.code ⟨"WidowWatch$Plan", "isBehindHeading", "(LWidowWatch$Book;I)Z"⟩ prog_5_method_13_code (4) (some FieldType.boolean)) ∈ W0 := W0_4 (i := 116) rfl rfl
theorem tW_4_117 : (Cond.methodLink "WidowWatch$Plan" (65) ⟨"WidowWatch$Book", "isHeading", "(I)Z"⟩) ∈ W0 := W0_4 (i := 117) rfl rfl
theorem tW_4_118 : (Cond.methodLink "WidowWatch$Plan" (75) ⟨"WidowWatch$Book", "beginCost", "(IIZ)I"⟩) ∈ W0 := W0_4 (i := 118) rfl rfl
theorem tW_4_119 : (Cond.methodLink "WidowWatch$Plan" (99) ⟨"WidowWatch$Plan", "endCost", "(LWidowWatch$Book;I)I"⟩) ∈ W0 := W0_4 (i := 119) rfl rfl
theorem tW_4_120 : (Cond.instanceMethod ⟨"WidowWatch$Plan", "endCost", "(LWidowWatch$Book;I)I"⟩) ∈ W0 := W0_4 (i := 120) rfl rfl
theorem tW_4_121 : (Cond.selects "WidowWatch$Plan" ⟨"WidowWatch$Plan", "endCost", "(LWidowWatch$Book;I)I"⟩ ⟨"WidowWatch$Plan", "endCost", "(LWidowWatch$Book;I)I"⟩) ∈ W0 := W0_4 (i := 121) rfl rfl
theorem tW_4_122 : (Cond.code ⟨"WidowWatch$Plan", "endCost", "(LWidowWatch$Book;I)I"⟩ prog_5_method_15_code (4) (some FieldType.int)) ∈ W0 := W0_4 (i := 122) rfl rfl
theorem tW_4_123 : (Cond.methodLink "WidowWatch$Plan" (79) ⟨"WidowWatch$Book", "beginsPage", "(I)Z"⟩) ∈ W0 := W0_4 (i := 123) rfl rfl
theorem tW_4_124 : (Cond.methodLink "WidowWatch$Plan" (82) ⟨"WidowWatch$Book", "endCost", "(IZ)I"⟩) ∈ W0 := W0_4 (i := 124) rfl rfl
theorem tW_4_125 : (Cond.methodLink "WidowWatch$Plan" (105) ⟨"WidowWatch$Plan", "isWidow", "(I)Z"⟩) ∈ W0 := W0_4 (i := 125) rfl rfl
theorem tW_4_126 : (Cond.instanceMethod ⟨"WidowWatch$Plan", "isWidow", "(I)Z"⟩) ∈ W0 := W0_4 (i := 126) rfl rfl
theorem tW_4_127 : (Cond.selects "WidowWatch$Plan" ⟨"WidowWatch$Plan", "isWidow", "(I)Z"⟩ ⟨"WidowWatch$Plan", "isWidow", "(I)Z"⟩) ∈ W0 := W0_4 (i := 127) rfl rfl
theorem tW_4_128 : (Cond.code ⟨"WidowWatch$Plan", "isWidow", "(I)Z"⟩ prog_5_method_11_code (2) (some FieldType.boolean)) ∈ W0 := W0_4 (i := 128) rfl rfl
theorem tW_4_129 : (Cond.methodLink "WidowWatch$Plan" (56) ⟨"WidowWatch$Lines", "isWidow", "(II)Z"⟩) ∈ W0 := W0_4 (i := 129) rfl rfl
theorem tW_4_130 : (Cond.methodLink "WidowWatch$Plan" (107) ⟨"WidowWatch$Plan", "isOrphan", "(I)Z"⟩) ∈ W0 := W0_4 (i := 130) rfl rfl
theorem tW_4_131 : (Cond.instanceMethod ⟨"WidowWatch$Plan", "isOrphan", "(I)Z"⟩) ∈ W0 := W0_4 (i := 131) rfl rfl
theorem tW_4_132 : (Cond.selects "WidowWatch$Plan" ⟨"WidowWatch$Plan", "isOrphan", "(I)Z"⟩ ⟨"WidowWatch$Plan", "isOrphan", "(I)Z"⟩) ∈ W0 := W0_4 (i := 132) rfl rfl
theorem tW_4_133 : (Cond.code ⟨"WidowWatch$Plan", "isOrphan", "(I)Z"⟩ prog_5_method_12_code (2) (some FieldType.boolean)) ∈ W0 := W0_4 (i := 133) rfl rfl
theorem tW_4_134 : (Cond.methodLink "WidowWatch$Plan" (62) ⟨"WidowWatch$Lines", "isOrphan", "(II)Z"⟩) ∈ W0 := W0_4 (i := 134) rfl rfl
theorem tW_4_135 : (Cond.methodLink "WidowWatch$Plan" (109) ⟨"WidowWatch$Plan", "missingLines", "(LWidowWatch$Book;I)I"⟩) ∈ W0 := W0_4 (i := 135) rfl rfl
theorem tW_4_136 : (Cond.instanceMethod ⟨"WidowWatch$Plan", "missingLines", "(LWidowWatch$Book;I)I"⟩) ∈ W0 := W0_4 (i := 136) rfl rfl
theorem tW_4_137 : (Cond.selects "WidowWatch$Plan" ⟨"WidowWatch$Plan", "missingLines", "(LWidowWatch$Book;I)I"⟩ ⟨"WidowWatch$Plan", "missingLines", "(LWidowWatch$Book;I)I"⟩) ∈ W0 := W0_4 (i := 137) rfl rfl
theorem tW_4_138 : (Cond.code ⟨"WidowWatch$Plan", "missingLines", "(LWidowWatch$Book;I)I"⟩ prog_5_method_16_code (3) (some FieldType.int)) ∈ W0 := W0_4 (i := 138) rfl rfl
theorem tW_4_139 : (Cond.methodLink "WidowWatchLaw" (265) ⟨"WidowWatchLaw", "page", "(LWidowWatch;ZII)I"⟩) ∈ W0 := W0_4 (i := 139) rfl rfl
theorem tW_4_140 : (Cond.static ⟨"WidowWatchLaw", "page", "(LWidowWatch;ZII)I"⟩) ∈ W0 := W0_4 (i := 140) rfl rfl
theorem tW_4_142 : (Cond.methodLink "WidowWatchLaw" (67) ⟨"WidowWatch", "page", "(ZII)I"⟩) ∈ W0 := W0_4 (i := 142) rfl rfl
theorem tW_4_143 : (Cond.instanceMethod ⟨"WidowWatch", "page", "(ZII)I"⟩) ∈ W0 := W0_4 (i := 143) rfl rfl
theorem tW_4_144 : (Cond.selects "WidowWatch" ⟨"WidowWatch", "page", "(ZII)I"⟩ ⟨"WidowWatch", "page", "(ZII)I"⟩) ∈ W0 := W0_4 (i := 144) rfl rfl
theorem tW_4_145 : (Cond.code ⟨"WidowWatch", "page", "(ZII)I"⟩ prog_1_method_10_code (5) (some FieldType.int)) ∈ W0 := W0_4 (i := 145) rfl rfl
theorem tW_4_146 : (Cond.methodLink "WidowWatch" (159) ⟨"WidowWatch", "requirePage", "(LWidowWatch$Plan;I)V"⟩) ∈ W0 := W0_4 (i := 146) rfl rfl
theorem tW_4_147 : (Cond.static ⟨"WidowWatch", "requirePage", "(LWidowWatch$Plan;I)V"⟩) ∈ W0 := W0_4 (i := 147) rfl rfl
theorem tW_4_148 : (Cond.code ⟨"WidowWatch", "requirePage", "(LWidowWatch$Plan;I)V"⟩ prog_1_method_26_code (2) (none : Option Jvm.ClassFile.FieldType)) ∈ W0 := W0_4 (i := 148) rfl rfl
theorem tW_4_150 : (Cond.methodLink "WidowWatch" (163) ⟨"WidowWatch$Plan", "pageNumber", "(LWidowWatch$Book;II)I"⟩) ∈ W0 := W0_4 (i := 150) rfl rfl
theorem tW_4_151 : (Cond.instanceMethod ⟨"WidowWatch$Plan", "pageNumber", "(LWidowWatch$Book;II)I"⟩) ∈ W0 := W0_4 (i := 151) rfl rfl
theorem tW_4_152 : (Cond.selects "WidowWatch$Plan" ⟨"WidowWatch$Plan", "pageNumber", "(LWidowWatch$Book;II)I"⟩ ⟨"WidowWatch$Plan", "pageNumber", "(LWidowWatch$Book;II)I"⟩) ∈ W0 := W0_4 (i := 152) rfl rfl
theorem tW_4_153 : (Cond.code ⟨"WidowWatch$Plan", "pageNumber", "(LWidowWatch$Book;II)I"⟩ prog_5_method_18_code (4) (some FieldType.int)) ∈ W0 := W0_4 (i := 153) rfl rfl
theorem tW_4_154 : (Cond.methodLink "WidowWatchLaw" (268) ⟨"WidowWatchLaw", "pageOf", "(LWidowWatch;ZII)I"⟩) ∈ W0 := W0_4 (i := 154) rfl rfl
theorem tW_4_155 : (Cond.static ⟨"WidowWatchLaw", "pageOf", "(LWidowWatch;ZII)I"⟩) ∈ W0 := W0_4 (i := 155) rfl rfl
theorem tW_4_157 : (Cond.methodLink "WidowWatchLaw" (71) ⟨"WidowWatch", "pageOf", "(ZII)I"⟩) ∈ W0 := W0_4 (i := 157) rfl rfl
theorem tW_4_158 : (Cond.instanceMethod ⟨"WidowWatch", "pageOf", "(ZII)I"⟩) ∈ W0 := W0_4 (i := 158) rfl rfl
theorem tW_4_159 : (Cond.selects "WidowWatch" ⟨"WidowWatch", "pageOf", "(ZII)I"⟩ ⟨"WidowWatch", "pageOf", "(ZII)I"⟩) ∈ W0 := W0_4 (i := 159) rfl rfl
theorem tW_4_160 : (Cond.code ⟨"WidowWatch", "pageOf", "(ZII)I"⟩ prog_1_method_11_code (5) (some FieldType.int)) ∈ W0 := W0_4 (i := 160) rfl rfl
theorem tW_4_161 : (Cond.methodLink "WidowWatch" (167) ⟨"WidowWatch$Plan", "linesOf", "(I)I"⟩) ∈ W0 := W0_4 (i := 161) rfl rfl
theorem tW_4_162 : (Cond.methodLink "WidowWatch" (170) ⟨"WidowWatch$Plan", "pageWith", "(II)I"⟩) ∈ W0 := W0_4 (i := 162) rfl rfl
theorem tW_4_163 : (Cond.instanceMethod ⟨"WidowWatch$Plan", "pageWith", "(II)I"⟩) ∈ W0 := W0_4 (i := 163) rfl rfl
theorem tW_4_164 : (Cond.selects "WidowWatch$Plan" ⟨"WidowWatch$Plan", "pageWith", "(II)I"⟩ ⟨"WidowWatch$Plan", "pageWith", "(II)I"⟩) ∈ W0 := W0_4 (i := 164) rfl rfl
theorem tW_4_165 : (Cond.code ⟨"WidowWatch$Plan", "pageWith", "(II)I"⟩ prog_5_method_10_code (6) (some FieldType.int)) ∈ W0 := W0_4 (i := 165) rfl rfl
theorem tW_4_166 : (Cond.methodLink "WidowWatchLaw" (229) ⟨"WidowWatchLaw", "help", "(LWidowWatch;I)I"⟩) ∈ W0 := W0_4 (i := 166) rfl rfl
theorem tW_4_167 : (Cond.static ⟨"WidowWatchLaw", "help", "(LWidowWatch;I)I"⟩) ∈ W0 := W0_4 (i := 167) rfl rfl
theorem tW_4_169 : (Cond.methodLink "WidowWatchLaw" (74) ⟨"WidowWatch", "help", "(I)I"⟩) ∈ W0 := W0_4 (i := 169) rfl rfl
theorem tW_4_170 : (Cond.instanceMethod ⟨"WidowWatch", "help", "(I)I"⟩) ∈ W0 := W0_4 (i := 170) rfl rfl
theorem tW_4_171 : (Cond.selects "WidowWatch" ⟨"WidowWatch", "help", "(I)I"⟩ ⟨"WidowWatch", "help", "(I)I"⟩) ∈ W0 := W0_4 (i := 171) rfl rfl
theorem tW_4_172 : (Cond.code ⟨"WidowWatch", "help", "(I)I"⟩ prog_1_method_12_code (5) (some FieldType.int)) ∈ W0 := W0_4 (i := 172) rfl rfl
theorem tW_4_173 : (Cond.methodLink "WidowWatch" (173) ⟨"WidowWatch$Plan", "isWidow", "(I)Z"⟩) ∈ W0 := W0_4 (i := 173) rfl rfl
theorem tW_4_174 : (Cond.methodLink "WidowWatch" (177) ⟨"WidowWatch$Plan", "firstParagraph", "(I)I"⟩) ∈ W0 := W0_4 (i := 174) rfl rfl
theorem tW_4_175 : (Cond.methodLink "WidowWatch" (180) ⟨"WidowWatch", "helps", "(III)Z"⟩) ∈ W0 := W0_4 (i := 175) rfl rfl
theorem tW_4_177 : (Cond.instanceMethod ⟨"WidowWatch", "helps", "(III)Z"⟩) ∈ W0 := W0_4 (i := 177) rfl rfl
theorem tW_4_178 : (Cond.code ⟨"WidowWatch", "helps", "(III)Z"⟩ prog_1_method_32_code (4) (some FieldType.boolean)) ∈ W0 := W0_4 (i := 178) rfl rfl
theorem tW_4_179 : (Cond.methodLink "WidowWatchLaw" (220) ⟨"WidowWatchLaw", "fix", "(LWidowWatch;II)I"⟩) ∈ W0 := W0_4 (i := 179) rfl rfl
theorem tW_4_180 : (Cond.static ⟨"WidowWatchLaw", "fix", "(LWidowWatch;II)I"⟩) ∈ W0 := W0_4 (i := 180) rfl rfl
theorem tW_4_182 : (Cond.methodLink "WidowWatchLaw" (77) ⟨"WidowWatch", "fix", "(II)I"⟩) ∈ W0 := W0_4 (i := 182) rfl rfl
theorem tW_4_183 : (Cond.instanceMethod ⟨"WidowWatch", "fix", "(II)I"⟩) ∈ W0 := W0_4 (i := 183) rfl rfl
theorem tW_4_184 : (Cond.selects "WidowWatch" ⟨"WidowWatch", "fix", "(II)I"⟩ ⟨"WidowWatch", "fix", "(II)I"⟩) ∈ W0 := W0_4 (i := 184) rfl rfl
theorem tW_4_185 : (Cond.code ⟨"WidowWatch", "fix", "(II)I"⟩ prog_1_method_15_code (4) (some FieldType.int)) ∈ W0 := W0_4 (i := 185) rfl rfl
theorem tW_4_186 : (Cond.methodLink "WidowWatch" (193) ⟨"WidowWatch$Book", "fixedTo", "(I)I"⟩) ∈ W0 := W0_4 (i := 186) rfl rfl
theorem tW_4_187 : (Cond.methodLink "WidowWatch" (196) ⟨"WidowWatch$Book", "fixTo", "(II)V"⟩) ∈ W0 := W0_4 (i := 187) rfl rfl
theorem tW_4_188 : (Cond.methodLink "WidowWatchLaw" (242) ⟨"WidowWatchLaw", "begin", "(LWidowWatch;IZ)I"⟩) ∈ W0 := W0_4 (i := 188) rfl rfl
theorem tW_4_189 : (Cond.static ⟨"WidowWatchLaw", "begin", "(LWidowWatch;IZ)I"⟩) ∈ W0 := W0_4 (i := 189) rfl rfl
theorem tW_4_191 : (Cond.methodLink "WidowWatchLaw" (80) ⟨"WidowWatch", "begin", "(IZ)Z"⟩) ∈ W0 := W0_4 (i := 191) rfl rfl
theorem tW_4_192 : (Cond.instanceMethod ⟨"WidowWatch", "begin", "(IZ)Z"⟩) ∈ W0 := W0_4 (i := 192) rfl rfl
theorem tW_4_193 : (Cond.selects "WidowWatch" ⟨"WidowWatch", "begin", "(IZ)Z"⟩ ⟨"WidowWatch", "begin", "(IZ)Z"⟩) ∈ W0 := W0_4 (i := 193) rfl rfl
theorem tW_4_194 : (Cond.code ⟨"WidowWatch", "begin", "(IZ)Z"⟩ prog_1_method_16_code (4) (some FieldType.boolean)) ∈ W0 := W0_4 (i := 194) rfl rfl
theorem tW_4_195 : (Cond.methodLink "WidowWatch" (199) ⟨"WidowWatch$Book", "setBeginsPage", "(IZ)V"⟩) ∈ W0 := W0_4 (i := 195) rfl rfl
theorem tW_4_196 : (Cond.methodLink "WidowWatchLaw" (222) ⟨"WidowWatchLaw", "insert", "(LWidowWatch;III)I"⟩) ∈ W0 := W0_4 (i := 196) rfl rfl
theorem tW_4_197 : (Cond.static ⟨"WidowWatchLaw", "insert", "(LWidowWatch;III)I"⟩) ∈ W0 := W0_4 (i := 197) rfl rfl
theorem tW_4_199 : (Cond.classLink "WidowWatchLaw" (87) "java/lang/IllegalStateException") ∈ W0 := W0_4 (i := 199) rfl rfl
theorem tW_4_200 : (Cond.methodLink "WidowWatchLaw" (84) ⟨"WidowWatch", "insert", "(III)I"⟩) ∈ W0 := W0_4 (i := 200) rfl rfl
theorem tW_4_201 : (Cond.instanceMethod ⟨"WidowWatch", "insert", "(III)I"⟩) ∈ W0 := W0_4 (i := 201) rfl rfl
theorem tW_4_202 : (Cond.selects "WidowWatch" ⟨"WidowWatch", "insert", "(III)I"⟩ ⟨"WidowWatch", "insert", "(III)I"⟩) ∈ W0 := W0_4 (i := 202) rfl rfl
theorem tW_4_203 : (Cond.code ⟨"WidowWatch", "insert", "(III)I"⟩ prog_1_method_17_code (5) (some FieldType.int)) ∈ W0 := W0_4 (i := 203) rfl rfl
theorem tW_4_204 : (Cond.methodLink "WidowWatch" (203) ⟨"WidowWatch$Book", "longestWord", "()I"⟩) ∈ W0 := W0_4 (i := 204) rfl rfl
theorem tW_4_206 : (Cond.classLink "WidowWatch" (209) "java/lang/IllegalStateException") ∈ W0 := W0_4 (i := 206) rfl rfl
theorem tW_4_207 : (Cond.instantiable "java/lang/IllegalStateException" (6)) ∈ W0 := W0_4 (i := 207) rfl rfl
theorem tW_4_209 : (Cond.selects "java/lang/IllegalStateException" ⟨"java/lang/Throwable", "fillInStackTrace", "(I)Ljava/lang/Throwable;"⟩ ⟨"java/lang/Throwable", "fillInStackTrace", "(I)Ljava/lang/Throwable;"⟩) ∈ W0 := W0_4 (i := 209) rfl rfl
theorem tW_4_210 : (Cond.lays "java/lang/IllegalStateException" "java/lang/Throwable" "cause" "Ljava/lang/Throwable;") ∈ W0 := W0_4 (i := 210) rfl rfl
theorem tW_4_211 : (Cond.lays "java/lang/IllegalStateException" "java/lang/Throwable" "stackTrace" "[Ljava/lang/StackTraceElement;") ∈ W0 := W0_4 (i := 211) rfl rfl
theorem tW_4_212 : (Cond.lays "java/lang/IllegalStateException" "java/lang/Throwable" "suppressedExceptions" "Ljava/util/List;") ∈ W0 := W0_4 (i := 212) rfl rfl
theorem tW_4_213 : (Cond.lays "java/lang/IllegalStateException" "java/lang/Throwable" "detailMessage" "Ljava/lang/String;") ∈ W0 := W0_4 (i := 213) rfl rfl
theorem tW_4_214 : (Cond.lays "java/lang/IllegalStateException" "java/lang/Throwable" "backtrace" "Ljava/lang/Object;") ∈ W0 := W0_4 (i := 214) rfl rfl
theorem tW_4_216 : (Cond.methodLink "WidowWatch" (213) ⟨"java/lang/IllegalStateException", "<init>", "(Ljava/lang/String;)V"⟩) ∈ W0 := W0_4 (i := 216) rfl rfl
theorem tW_4_217 : (Cond.instanceMethod ⟨"java/lang/IllegalStateException", "<init>", "(Ljava/lang/String;)V"⟩) ∈ W0 := W0_4 (i := 217) rfl rfl
theorem tW_4_218 : (Cond.code ⟨"java/lang/IllegalStateException", "<init>", "(Ljava/lang/String;)V"⟩ prog_22_method_2_code (2) (none : Option Jvm.ClassFile.FieldType)) ∈ W0 := W0_4 (i := 218) rfl rfl
theorem tW_4_219 : (Cond.methodLink "java/lang/IllegalStateException" (7) ⟨"java/lang/RuntimeException", "<init>", "(Ljava/lang/String;)V"⟩) ∈ W0 := W0_4 (i := 219) rfl rfl
theorem tW_4_220 : (Cond.lays "java/lang/IllegalStateException" "java/lang/Throwable" "depth" "I") ∈ W0 := W0_4 (i := 220) rfl rfl
theorem tW_4_222 : (Cond.methodLink "WidowWatch" (214) ⟨"WidowWatch$Book", "openParagraph", "(IZZ)V"⟩) ∈ W0 := W0_4 (i := 222) rfl rfl
theorem tW_4_223 : (Cond.methodLink "WidowWatch" (218) ⟨"WidowWatch$Book", "addWord", "(II)V"⟩) ∈ W0 := W0_4 (i := 223) rfl rfl
theorem tW_4_224 : (Cond.constant "WidowWatchLaw" (89) (-2000000099)) ∈ W0 := W0_4 (i := 224) rfl rfl
theorem tW_4_225 : (Cond.methodLink "WidowWatchLaw" (225) ⟨"WidowWatchLaw", "remove", "(LWidowWatch;I)I"⟩) ∈ W0 := W0_4 (i := 225) rfl rfl
theorem tW_4_226 : (Cond.static ⟨"WidowWatchLaw", "remove", "(LWidowWatch;I)I"⟩) ∈ W0 := W0_4 (i := 226) rfl rfl
theorem tW_4_228 : (Cond.methodLink "WidowWatchLaw" (90) ⟨"WidowWatch", "remove", "(I)I"⟩) ∈ W0 := W0_4 (i := 228) rfl rfl
theorem tW_4_229 : (Cond.instanceMethod ⟨"WidowWatch", "remove", "(I)I"⟩) ∈ W0 := W0_4 (i := 229) rfl rfl
theorem tW_4_230 : (Cond.selects "WidowWatch" ⟨"WidowWatch", "remove", "(I)I"⟩ ⟨"WidowWatch", "remove", "(I)I"⟩) ∈ W0 := W0_4 (i := 230) rfl rfl
theorem tW_4_231 : (Cond.code ⟨"WidowWatch", "remove", "(I)I"⟩ prog_1_method_18_code (3) (some FieldType.int)) ∈ W0 := W0_4 (i := 231) rfl rfl
theorem tW_4_232 : (Cond.methodLink "WidowWatch" (221) ⟨"WidowWatch$Book", "closeParagraph", "(I)V"⟩) ∈ W0 := W0_4 (i := 232) rfl rfl
theorem tW_4_233 : (Cond.instanceMethod ⟨"WidowWatch$Book", "closeParagraph", "(I)V"⟩) ∈ W0 := W0_4 (i := 233) rfl rfl
theorem tW_4_234 : (Cond.selects "WidowWatch$Book" ⟨"WidowWatch$Book", "closeParagraph", "(I)V"⟩ ⟨"WidowWatch$Book", "closeParagraph", "(I)V"⟩) ∈ W0 := W0_4 (i := 234) rfl rfl
theorem tW_4_235 : (Cond.code ⟨"WidowWatch$Book", "closeParagraph", "(I)V"⟩ prog_2_method_22_code (3) (none : Option Jvm.ClassFile.FieldType)) ∈ W0 := W0_4 (i := 235) rfl rfl
theorem tW_4_236 : (Cond.methodLink "WidowWatchLaw" (256) ⟨"WidowWatchLaw", "retouch", "(LWidowWatch;III)I"⟩) ∈ W0 := W0_4 (i := 236) rfl rfl
theorem tW_4_237 : (Cond.static ⟨"WidowWatchLaw", "retouch", "(LWidowWatch;III)I"⟩) ∈ W0 := W0_4 (i := 237) rfl rfl
theorem tW_4_239 : (Cond.methodLink "WidowWatchLaw" (93) ⟨"WidowWatch", "retouch", "(III)I"⟩) ∈ W0 := W0_4 (i := 239) rfl rfl
theorem tW_5_0 : (Cond.instanceMethod ⟨"WidowWatch", "retouch", "(III)I"⟩) ∈ W0 := W0_5 (i := 0) rfl rfl
theorem tW_5_1 : (Cond.selects "WidowWatch" ⟨"WidowWatch", "retouch", "(III)I"⟩ ⟨"WidowWatch", "retouch", "(III)I"⟩) ∈ W0 := W0_5 (i := 1) rfl rfl
theorem tW_5_2 : (Cond.code ⟨"WidowWatch", "retouch", "(III)I"⟩ prog_1_method_19_code (5) (some FieldType.int)) ∈ W0 := W0_5 (i := 2) rfl rfl
theorem tW_5_4 : (Cond.methodLink "WidowWatch" (226) ⟨"WidowWatch$Book", "takeWordOut", "(II)V"⟩) ∈ W0 := W0_5 (i := 4) rfl rfl
theorem tW_5_5 : (Cond.instanceMethod ⟨"WidowWatch$Book", "takeWordOut", "(II)V"⟩) ∈ W0 := W0_5 (i := 5) rfl rfl
theorem tW_5_6 : (Cond.selects "WidowWatch$Book" ⟨"WidowWatch$Book", "takeWordOut", "(II)V"⟩ ⟨"WidowWatch$Book", "takeWordOut", "(II)V"⟩) ∈ W0 := W0_5 (i := 6) rfl rfl
theorem tW_5_7 : (Cond.code ⟨"WidowWatch$Book", "takeWordOut", "(II)V"⟩ prog_2_method_20_code (5) (none : Option Jvm.ClassFile.FieldType)) ∈ W0 := W0_5 (i := 7) rfl rfl
theorem tW_5_8 : (Cond.methodLink "WidowWatch$Book" (73) ⟨"WidowWatch$Book", "wordAt", "(II)I"⟩) ∈ W0 := W0_5 (i := 8) rfl rfl
theorem tW_5_9 : (Cond.methodLink "WidowWatch" (229) ⟨"WidowWatch$Book", "setWord", "(III)V"⟩) ∈ W0 := W0_5 (i := 9) rfl rfl
theorem tW_5_10 : (Cond.methodLink "WidowWatchLaw" (227) ⟨"WidowWatchLaw", "setCost", "(LWidowWatch;II)I"⟩) ∈ W0 := W0_5 (i := 10) rfl rfl
theorem tW_5_11 : (Cond.static ⟨"WidowWatchLaw", "setCost", "(LWidowWatch;II)I"⟩) ∈ W0 := W0_5 (i := 11) rfl rfl
theorem tW_5_13 : (Cond.methodLink "WidowWatchLaw" (96) ⟨"WidowWatch", "setCost", "(II)I"⟩) ∈ W0 := W0_5 (i := 13) rfl rfl
theorem tW_5_14 : (Cond.instanceMethod ⟨"WidowWatch", "setCost", "(II)I"⟩) ∈ W0 := W0_5 (i := 14) rfl rfl
theorem tW_5_15 : (Cond.selects "WidowWatch" ⟨"WidowWatch", "setCost", "(II)I"⟩ ⟨"WidowWatch", "setCost", "(II)I"⟩) ∈ W0 := W0_5 (i := 15) rfl rfl
theorem tW_5_16 : (Cond.code ⟨"WidowWatch", "setCost", "(II)I"⟩ prog_1_method_20_code (4) (some FieldType.int)) ∈ W0 := W0_5 (i := 16) rfl rfl
theorem tW_5_17 : (Cond.methodLink "WidowWatch" (233) ⟨"WidowWatch$Book", "costOf", "(I)I"⟩) ∈ W0 := W0_5 (i := 17) rfl rfl
theorem tW_5_18 : (Cond.methodLink "WidowWatch" (236) ⟨"WidowWatch$Book", "setCostOf", "(II)V"⟩) ∈ W0 := W0_5 (i := 18) rfl rfl
theorem tW_5_19 : (Cond.methodLink "WidowWatchLaw" (152) ⟨"WidowWatchLaw", "with", "([II)[I"⟩) ∈ W0 := W0_5 (i := 19) rfl rfl
theorem tW_5_20 : (Cond.static ⟨"WidowWatchLaw", "with", "([II)[I"⟩) ∈ W0 := W0_5 (i := 20) rfl rfl
theorem tW_5_21 : (Cond.code ⟨"WidowWatchLaw", "with", "([II)[I"⟩ method_22_code (4) (some (FieldType.array FieldType.int))) ∈ W0 := W0_5 (i := 21) rfl rfl
theorem tW_5_22 : (Cond.methodLink "WidowWatchLaw" (248) ⟨"WidowWatchLaw", "without", "([II)[I"⟩) ∈ W0 := W0_5 (i := 22) rfl rfl
theorem tW_5_23 : (Cond.static ⟨"WidowWatchLaw", "without", "([II)[I"⟩) ∈ W0 := W0_5 (i := 23) rfl rfl
theorem tW_5_24 : (Cond.code ⟨"WidowWatchLaw", "without", "([II)[I"⟩ method_23_code (4) (some (FieldType.array FieldType.int))) ∈ W0 := W0_5 (i := 24) rfl rfl
theorem tW_5_25 : (Cond.methodLink "WidowWatchLaw" (231) ⟨"WidowWatchLaw", "randomBook", "(LWidowWatch;[ILWidowWatchLaw$Random;)LWidowWatchLaw$Book;"⟩) ∈ W0 := W0_5 (i := 25) rfl rfl
theorem tW_5_26 : (Cond.static ⟨"WidowWatchLaw", "randomBook", "(LWidowWatch;[ILWidowWatchLaw$Random;)LWidowWatchLaw$Book;"⟩) ∈ W0 := W0_5 (i := 26) rfl rfl
theorem tW_5_27 : (Cond.code ⟨"WidowWatchLaw", "randomBook", "(LWidowWatch;[ILWidowWatchLaw$Random;)LWidowWatchLaw$Book;"⟩ method_25_code (8) (some (FieldType.object "WidowWatchLaw$Book"))) ∈ W0 := W0_5 (i := 27) rfl rfl
theorem tW_5_29 : (Cond.methodLink "WidowWatchLaw" (130) ⟨"WidowWatchLaw", "writeAll", "(LWidowWatch;[ILjava/lang/String;[I)V"⟩) ∈ W0 := W0_5 (i := 29) rfl rfl
theorem tW_5_30 : (Cond.static ⟨"WidowWatchLaw", "writeAll", "(LWidowWatch;[ILjava/lang/String;[I)V"⟩) ∈ W0 := W0_5 (i := 30) rfl rfl
theorem tW_5_31 : (Cond.code ⟨"WidowWatchLaw", "writeAll", "(LWidowWatch;[ILjava/lang/String;[I)V"⟩ method_24_code (8) (none : Option Jvm.ClassFile.FieldType)) ∈ W0 := W0_5 (i := 31) rfl rfl
theorem tW_5_32 : (Cond.methodLink "WidowWatchLaw" (99) ⟨"WidowWatchLaw", "write", "(LWidowWatch;[ILjava/lang/String;)V"⟩) ∈ W0 := W0_5 (i := 32) rfl rfl
theorem tW_5_33 : (Cond.static ⟨"WidowWatchLaw", "write", "(LWidowWatch;[ILjava/lang/String;)V"⟩) ∈ W0 := W0_5 (i := 33) rfl rfl
theorem tW_5_34 : (Cond.code ⟨"WidowWatchLaw", "write", "(LWidowWatch;[ILjava/lang/String;)V"⟩ method_5_code (4) (none : Option Jvm.ClassFile.FieldType)) ∈ W0 := W0_5 (i := 34) rfl rfl
theorem tW_5_35 : (Cond.methodLink "WidowWatchLaw" (23) ⟨"java/lang/String", "length", "()I"⟩) ∈ W0 := W0_5 (i := 35) rfl rfl
theorem tW_5_36 : (Cond.methodLink "WidowWatchLaw" (29) ⟨"java/lang/String", "charAt", "(I)C"⟩) ∈ W0 := W0_5 (i := 36) rfl rfl
theorem tW_5_37 : (Cond.methodLink "WidowWatchLaw" (33) ⟨"WidowWatchLaw", "put", "(LWidowWatch;[II)V"⟩) ∈ W0 := W0_5 (i := 37) rfl rfl
theorem tW_5_38 : (Cond.static ⟨"WidowWatchLaw", "put", "(LWidowWatch;[II)V"⟩) ∈ W0 := W0_5 (i := 38) rfl rfl
theorem tW_5_39 : (Cond.code ⟨"WidowWatchLaw", "put", "(LWidowWatch;[II)V"⟩ method_2_code (3) (none : Option Jvm.ClassFile.FieldType)) ∈ W0 := W0_5 (i := 39) rfl rfl
theorem tW_5_40 : (Cond.methodLink "WidowWatchLaw" (7) ⟨"WidowWatchLaw", "flush", "(LWidowWatch;[I)V"⟩) ∈ W0 := W0_5 (i := 40) rfl rfl
theorem tW_5_41 : (Cond.static ⟨"WidowWatchLaw", "flush", "(LWidowWatch;[I)V"⟩) ∈ W0 := W0_5 (i := 41) rfl rfl
theorem tW_5_42 : (Cond.code ⟨"WidowWatchLaw", "flush", "(LWidowWatch;[I)V"⟩ method_3_code (3) (none : Option Jvm.ClassFile.FieldType)) ∈ W0 := W0_5 (i := 42) rfl rfl
theorem tW_5_43 : (Cond.methodLink "WidowWatchLaw" (13) ⟨"WidowWatch", "append", "(IIIII)I"⟩) ∈ W0 := W0_5 (i := 43) rfl rfl
theorem tW_5_44 : (Cond.instanceMethod ⟨"WidowWatch", "append", "(IIIII)I"⟩) ∈ W0 := W0_5 (i := 44) rfl rfl
theorem tW_5_45 : (Cond.selects "WidowWatch" ⟨"WidowWatch", "append", "(IIIII)I"⟩ ⟨"WidowWatch", "append", "(IIIII)I"⟩) ∈ W0 := W0_5 (i := 45) rfl rfl
theorem tW_5_46 : (Cond.code ⟨"WidowWatch", "append", "(IIIII)I"⟩ prog_1_method_2_code (6) (some FieldType.int)) ∈ W0 := W0_5 (i := 46) rfl rfl
theorem tW_5_47 : (Cond.methodLink "WidowWatch" (75) ⟨"WidowWatch", "addBytes", "(I)V"⟩) ∈ W0 := W0_5 (i := 47) rfl rfl
theorem tW_5_49 : (Cond.instanceMethod ⟨"WidowWatch", "addBytes", "(I)V"⟩) ∈ W0 := W0_5 (i := 49) rfl rfl
theorem tW_5_50 : (Cond.code ⟨"WidowWatch", "addBytes", "(I)V"⟩ prog_1_method_24_code (3) (none : Option Jvm.ClassFile.FieldType)) ∈ W0 := W0_5 (i := 50) rfl rfl
theorem tW_5_51 : (Cond.methodLink "WidowWatch" (251) ⟨"WidowWatch", "put", "([III)V"⟩) ∈ W0 := W0_5 (i := 51) rfl rfl
theorem tW_5_53 : (Cond.methodLink "WidowWatchLaw" (105) ⟨"WidowWatchLaw", "writeNumber", "(LWidowWatch;[II)V"⟩) ∈ W0 := W0_5 (i := 53) rfl rfl
theorem tW_5_54 : (Cond.static ⟨"WidowWatchLaw", "writeNumber", "(LWidowWatch;[II)V"⟩) ∈ W0 := W0_5 (i := 54) rfl rfl
theorem tW_5_55 : (Cond.code ⟨"WidowWatchLaw", "writeNumber", "(LWidowWatch;[II)V"⟩ method_6_code (4) (none : Option Jvm.ClassFile.FieldType)) ∈ W0 := W0_5 (i := 55) rfl rfl
theorem tW_5_58 : (Cond.classLink "WidowWatchLaw" (156) "java/lang/StringBuilder") ∈ W0 := W0_5 (i := 58) rfl rfl
theorem tW_5_59 : (Cond.instantiable "java/lang/StringBuilder" (4)) ∈ W0 := W0_5 (i := 59) rfl rfl
theorem tW_5_60 : (Cond.methodLink "WidowWatchLaw" (158) ⟨"java/lang/StringBuilder", "<init>", "()V"⟩) ∈ W0 := W0_5 (i := 60) rfl rfl
theorem tW_5_61 : (Cond.instanceMethod ⟨"java/lang/StringBuilder", "<init>", "()V"⟩) ∈ W0 := W0_5 (i := 61) rfl rfl
theorem tW_5_62 : (Cond.code ⟨"java/lang/StringBuilder", "<init>", "()V"⟩ prog_29_method_1_code (1) (none : Option Jvm.ClassFile.FieldType)) ∈ W0 := W0_5 (i := 62) rfl rfl
theorem tW_5_63 : (Cond.methodLink "java/lang/StringBuilder" (1) ⟨"java/lang/AbstractStringBuilder", "<init>", "(I)V"⟩) ∈ W0 := W0_5 (i := 63) rfl rfl
theorem tW_5_64 : (Cond.instanceMethod ⟨"java/lang/AbstractStringBuilder", "<init>", "(I)V"⟩) ∈ W0 := W0_5 (i := 64) rfl rfl
theorem tW_5_65 : (Cond.code ⟨"java/lang/AbstractStringBuilder", "<init>", "(I)V"⟩ prog_15_method_2_code (2) (none : Option Jvm.ClassFile.FieldType)) ∈ W0 := W0_5 (i := 65) rfl rfl
theorem tW_5_66 : (Cond.methodLink "java/lang/AbstractStringBuilder" (3) ⟨"java/lang/Object", "<init>", "()V"⟩) ∈ W0 := W0_5 (i := 66) rfl rfl
theorem tW_5_67 : (Cond.fieldLink "java/lang/AbstractStringBuilder" (18) "java/lang/String" "COMPACT_STRINGS" "Z") ∈ W0 := W0_5 (i := 67) rfl rfl
theorem tW_5_68 : (Cond.methodLink "java/lang/AbstractStringBuilder" (26) ⟨"java/lang/StringUTF16", "newBytesFor", "(I)[B"⟩) ∈ W0 := W0_5 (i := 68) rfl rfl
theorem tW_5_69 : (Cond.static ⟨"java/lang/StringUTF16", "newBytesFor", "(I)[B"⟩) ∈ W0 := W0_5 (i := 69) rfl rfl
theorem tW_5_70 : (Cond.code ⟨"java/lang/StringUTF16", "newBytesFor", "(I)[B"⟩ prog_31_method_2_code (1) (some (FieldType.array FieldType.byte))) ∈ W0 := W0_5 (i := 70) rfl rfl
theorem tW_5_71 : (Cond.methodLink "java/lang/StringUTF16" (11) ⟨"java/lang/StringUTF16", "newBytesLength", "(I)I"⟩) ∈ W0 := W0_5 (i := 71) rfl rfl
theorem tW_5_72 : (Cond.static ⟨"java/lang/StringUTF16", "newBytesLength", "(I)I"⟩) ∈ W0 := W0_5 (i := 72) rfl rfl
theorem tW_5_73 : (Cond.code ⟨"java/lang/StringUTF16", "newBytesLength", "(I)I"⟩ prog_31_method_3_code (1) (some FieldType.int)) ∈ W0 := W0_5 (i := 73) rfl rfl
theorem tW_5_74 : (Cond.constant "java/lang/StringUTF16" (20) (1073741823)) ∈ W0 := W0_5 (i := 74) rfl rfl
theorem tW_5_75 : (Cond.fieldLink "java/lang/AbstractStringBuilder" (15) "java/lang/AbstractStringBuilder" "value" "[B") ∈ W0 := W0_5 (i := 75) rfl rfl
theorem tW_5_76 : (Cond.fieldLink "java/lang/AbstractStringBuilder" (22) "java/lang/AbstractStringBuilder" "coder" "B") ∈ W0 := W0_5 (i := 76) rfl rfl
theorem tW_5_77 : (Cond.fieldLink "java/lang/String" (1048) "java/lang/AbstractStringBuilder" "maybeLatin1" "Z") ∈ W0 := W0_5 (i := 77) rfl rfl
theorem tW_5_78 : (Cond.fieldLink "java/lang/AbstractStringBuilder" (79) "java/lang/AbstractStringBuilder" "count" "I") ∈ W0 := W0_5 (i := 78) rfl rfl
theorem tW_5_79 : (Cond.lays "java/lang/StringBuilder" "java/lang/AbstractStringBuilder" "value" "[B") ∈ W0 := W0_5 (i := 79) rfl rfl
theorem tW_5_81 : (Cond.lays "java/lang/StringBuilder" "java/lang/AbstractStringBuilder" "coder" "B") ∈ W0 := W0_5 (i := 81) rfl rfl
theorem tW_5_83 : (Cond.lays "java/lang/StringBuilder" "java/lang/AbstractStringBuilder" "maybeLatin1" "Z") ∈ W0 := W0_5 (i := 83) rfl rfl
theorem tW_5_85 : (Cond.lays "java/lang/StringBuilder" "java/lang/AbstractStringBuilder" "count" "I") ∈ W0 := W0_5 (i := 85) rfl rfl
theorem tW_5_90 : (Cond.methodLink "WidowWatchLaw" (163) ⟨"java/lang/StringBuilder", "append", "(Ljava/lang/String;)Ljava/lang/StringBuilder;"⟩) ∈ W0 := W0_5 (i := 90) rfl rfl
theorem tW_5_91 : (Cond.instanceMethod ⟨"java/lang/StringBuilder", "append", "(Ljava/lang/String;)Ljava/lang/StringBuilder;"⟩) ∈ W0 := W0_5 (i := 91) rfl rfl
theorem tW_5_92 : (Cond.selects "java/lang/StringBuilder" ⟨"java/lang/StringBuilder", "append", "(Ljava/lang/String;)Ljava/lang/StringBuilder;"⟩ ⟨"java/lang/StringBuilder", "append", "(Ljava/lang/String;)Ljava/lang/StringBuilder;"⟩) ∈ W0 := W0_5 (i := 92) rfl rfl
theorem tW_5_93 : (Cond.code ⟨"java/lang/StringBuilder", "append", "(Ljava/lang/String;)Ljava/lang/StringBuilder;"⟩ prog_29_method_7_code (2) (some (FieldType.object "java/lang/StringBuilder"))) ∈ W0 := W0_5 (i := 93) rfl rfl
theorem tW_5_94 : (Cond.methodLink "java/lang/StringBuilder" (29) ⟨"java/lang/AbstractStringBuilder", "append", "(Ljava/lang/String;)Ljava/lang/AbstractStringBuilder;"⟩) ∈ W0 := W0_5 (i := 94) rfl rfl
theorem tW_5_95 : (Cond.instanceMethod ⟨"java/lang/AbstractStringBuilder", "append", "(Ljava/lang/String;)Ljava/lang/AbstractStringBuilder;"⟩) ∈ W0 := W0_5 (i := 95) rfl rfl
theorem tW_5_96 : (Cond.code ⟨"java/lang/AbstractStringBuilder", "append", "(Ljava/lang/String;)Ljava/lang/AbstractStringBuilder;"⟩ prog_15_method_22_code (3) (some (FieldType.object "java/lang/AbstractStringBuilder"))) ∈ W0 := W0_5 (i := 96) rfl rfl
theorem tW_5_97 : (Cond.methodLink "java/lang/AbstractStringBuilder" (204) ⟨"java/lang/AbstractStringBuilder", "appendNull", "()Ljava/lang/AbstractStringBuilder;"⟩) ∈ W0 := W0_5 (i := 97) rfl rfl
theorem tW_5_99 : (Cond.instanceMethod ⟨"java/lang/AbstractStringBuilder", "appendNull", "()Ljava/lang/AbstractStringBuilder;"⟩) ∈ W0 := W0_5 (i := 99) rfl rfl
theorem tW_5_100 : (Cond.code ⟨"java/lang/AbstractStringBuilder", "appendNull", "()Ljava/lang/AbstractStringBuilder;"⟩ prog_15_method_26_code (3) (some (FieldType.object "java/lang/AbstractStringBuilder"))) ∈ W0 := W0_5 (i := 100) rfl rfl
theorem tW_5_101 : (Cond.methodLink "java/lang/AbstractStringBuilder" (100) ⟨"java/lang/AbstractStringBuilder", "ensureCapacityInternal", "(I)V"⟩) ∈ W0 := W0_5 (i := 101) rfl rfl
theorem tW_5_103 : (Cond.instanceMethod ⟨"java/lang/AbstractStringBuilder", "ensureCapacityInternal", "(I)V"⟩) ∈ W0 := W0_5 (i := 103) rfl rfl
theorem tW_5_104 : (Cond.code ⟨"java/lang/AbstractStringBuilder", "ensureCapacityInternal", "(I)V"⟩ prog_15_method_9_code (3) (none : Option Jvm.ClassFile.FieldType)) ∈ W0 := W0_5 (i := 104) rfl rfl
theorem tW_5_105 : (Cond.methodLink "java/lang/AbstractStringBuilder" (104) ⟨"java/lang/AbstractStringBuilder", "newCapacity", "(I)I"⟩) ∈ W0 := W0_5 (i := 105) rfl rfl
theorem tW_5_107 : (Cond.instanceMethod ⟨"java/lang/AbstractStringBuilder", "newCapacity", "(I)I"⟩) ∈ W0 := W0_5 (i := 107) rfl rfl
theorem tW_5_108 : (Cond.code ⟨"java/lang/AbstractStringBuilder", "newCapacity", "(I)I"⟩ prog_15_method_10_code (6) (some FieldType.int)) ∈ W0 := W0_5 (i := 108) rfl rfl
theorem tW_5_109 : (Cond.methodLink "java/lang/AbstractStringBuilder" (114) ⟨"jdk/internal/util/ArraysSupport", "newLength", "(III)I"⟩) ∈ W0 := W0_5 (i := 109) rfl rfl
theorem tW_5_110 : (Cond.static ⟨"jdk/internal/util/ArraysSupport", "newLength", "(III)I"⟩) ∈ W0 := W0_5 (i := 110) rfl rfl
theorem tW_5_111 : (Cond.code ⟨"jdk/internal/util/ArraysSupport", "newLength", "(III)I"⟩ prog_38_method_27_code (4) (some FieldType.int)) ∈ W0 := W0_5 (i := 111) rfl rfl
theorem tW_5_112 : (Cond.methodLink "jdk/internal/util/ArraysSupport" (194) ⟨"java/lang/Math", "max", "(II)I"⟩) ∈ W0 := W0_5 (i := 112) rfl rfl
theorem tW_5_113 : (Cond.static ⟨"java/lang/Math", "max", "(II)I"⟩) ∈ W0 := W0_5 (i := 113) rfl rfl
theorem tW_5_114 : (Cond.code ⟨"java/lang/Math", "max", "(II)I"⟩ prog_25_method_65_code (2) (some FieldType.int)) ∈ W0 := W0_5 (i := 114) rfl rfl
theorem tW_5_115 : (Cond.constant "jdk/internal/util/ArraysSupport" (200) (2147483639)) ∈ W0 := W0_5 (i := 115) rfl rfl
theorem tW_5_116 : (Cond.methodLink "jdk/internal/util/ArraysSupport" (201) ⟨"jdk/internal/util/ArraysSupport", "hugeLength", "(II)I"⟩) ∈ W0 := W0_5 (i := 116) rfl rfl
theorem tW_5_117 : (Cond.static ⟨"jdk/internal/util/ArraysSupport", "hugeLength", "(II)I"⟩) ∈ W0 := W0_5 (i := 117) rfl rfl
theorem tW_5_118 : (Cond.code ⟨"jdk/internal/util/ArraysSupport", "hugeLength", "(II)I"⟩ prog_38_method_28_code (3) (some FieldType.int)) ∈ W0 := W0_5 (i := 118) rfl rfl
theorem tW_5_119 : (Cond.constant "java/lang/AbstractStringBuilder" (39) (2147483647)) ∈ W0 := W0_5 (i := 119) rfl rfl
theorem tW_5_120 : (Cond.methodLink "java/lang/AbstractStringBuilder" (108) ⟨"java/util/Arrays", "copyOf", "([BI)[B"⟩) ∈ W0 := W0_5 (i := 120) rfl rfl
theorem tW_5_121 : (Cond.static ⟨"java/util/Arrays", "copyOf", "([BI)[B"⟩) ∈ W0 := W0_5 (i := 121) rfl rfl
theorem tW_5_122 : (Cond.code ⟨"java/util/Arrays", "copyOf", "([BI)[B"⟩ prog_36_method_121_code (3) (some (FieldType.array FieldType.byte))) ∈ W0 := W0_5 (i := 122) rfl rfl
theorem tW_5_123 : (Cond.methodLink "java/util/Arrays" (310) ⟨"[B", "clone", "()Ljava/lang/Object;"⟩) ∈ W0 := W0_5 (i := 123) rfl rfl
theorem tW_5_125 : (Cond.selects "[B" ⟨"[B", "clone", "()Ljava/lang/Object;"⟩ ⟨"java/lang/Object", "clone", "()Ljava/lang/Object;"⟩) ∈ W0 := W0_5 (i := 125) rfl rfl
theorem tW_5_127 : (Cond.classLink "java/util/Arrays" (311) "[B") ∈ W0 := W0_5 (i := 127) rfl rfl
theorem tW_5_128 : (Cond.methodLink "java/util/Arrays" (304) ⟨"java/lang/Math", "min", "(II)I"⟩) ∈ W0 := W0_5 (i := 128) rfl rfl
theorem tW_5_129 : (Cond.methodLink "java/util/Arrays" (150) ⟨"java/lang/System", "arraycopy", "(Ljava/lang/Object;ILjava/lang/Object;II)V"⟩) ∈ W0 := W0_5 (i := 129) rfl rfl
theorem tW_5_130 : (Cond.static ⟨"java/lang/System", "arraycopy", "(Ljava/lang/Object;ILjava/lang/Object;II)V"⟩) ∈ W0 := W0_5 (i := 130) rfl rfl
theorem tW_5_132 : (Cond.methodLink "java/lang/AbstractStringBuilder" (83) ⟨"java/lang/AbstractStringBuilder", "isLatin1", "()Z"⟩) ∈ W0 := W0_5 (i := 132) rfl rfl
theorem tW_5_133 : (Cond.instanceMethod ⟨"java/lang/AbstractStringBuilder", "isLatin1", "()Z"⟩) ∈ W0 := W0_5 (i := 133) rfl rfl
theorem tW_5_135 : (Cond.selects "java/lang/StringBuilder" ⟨"java/lang/AbstractStringBuilder", "isLatin1", "()Z"⟩ ⟨"java/lang/AbstractStringBuilder", "isLatin1", "()Z"⟩) ∈ W0 := W0_5 (i := 135) rfl rfl
theorem tW_5_136 : (Cond.code ⟨"java/lang/AbstractStringBuilder", "isLatin1", "()Z"⟩ prog_15_method_68_code (1) (some FieldType.boolean)) ∈ W0 := W0_5 (i := 136) rfl rfl
theorem tW_5_137 : (Cond.methodLink "java/lang/AbstractStringBuilder" (226) ⟨"java/lang/StringUTF16", "putCharsAt", "([BICCCC)I"⟩) ∈ W0 := W0_5 (i := 137) rfl rfl
theorem tW_5_138 : (Cond.static ⟨"java/lang/StringUTF16", "putCharsAt", "([BICCCC)I"⟩) ∈ W0 := W0_5 (i := 138) rfl rfl
theorem tW_5_139 : (Cond.code ⟨"java/lang/StringUTF16", "putCharsAt", "([BICCCC)I"⟩ prog_31_method_81_code (7) (some FieldType.int)) ∈ W0 := W0_5 (i := 139) rfl rfl
theorem tW_5_140 : (Cond.methodLink "java/lang/StringUTF16" (96) ⟨"java/lang/StringUTF16", "checkBoundsBeginEnd", "(II[B)V"⟩) ∈ W0 := W0_5 (i := 140) rfl rfl
theorem tW_5_141 : (Cond.static ⟨"java/lang/StringUTF16", "checkBoundsBeginEnd", "(II[B)V"⟩) ∈ W0 := W0_5 (i := 141) rfl rfl
theorem tW_5_142 : (Cond.code ⟨"java/lang/StringUTF16", "checkBoundsBeginEnd", "(II[B)V"⟩ prog_31_method_93_code (3) (none : Option Jvm.ClassFile.FieldType)) ∈ W0 := W0_5 (i := 142) rfl rfl
theorem tW_5_143 : (Cond.methodLink "java/lang/StringUTF16" (241) ⟨"java/lang/String", "checkBoundsBeginEnd", "(III)V"⟩) ∈ W0 := W0_5 (i := 143) rfl rfl
theorem tW_5_144 : (Cond.static ⟨"java/lang/String", "checkBoundsBeginEnd", "(III)V"⟩) ∈ W0 := W0_5 (i := 144) rfl rfl
theorem tW_5_145 : (Cond.code ⟨"java/lang/String", "checkBoundsBeginEnd", "(III)V"⟩ prog_28_method_158_code (3) (none : Option Jvm.ClassFile.FieldType)) ∈ W0 := W0_5 (i := 145) rfl rfl
theorem tW_5_146 : (Cond.methodLink "java/lang/String" (1062) ⟨"jdk/internal/util/Preconditions", "checkFromToIndex", "(IIILjava/util/function/BiFunction;)I"⟩) ∈ W0 := W0_5 (i := 146) rfl rfl
theorem tW_5_147 : (Cond.static ⟨"jdk/internal/util/Preconditions", "checkFromToIndex", "(IIILjava/util/function/BiFunction;)I"⟩) ∈ W0 := W0_5 (i := 147) rfl rfl
theorem tW_5_148 : (Cond.code ⟨"jdk/internal/util/Preconditions", "checkFromToIndex", "(IIILjava/util/function/BiFunction;)I"⟩ prog_39_method_12_code (4) (some FieldType.int)) ∈ W0 := W0_5 (i := 148) rfl rfl
theorem tW_5_149 : (Cond.methodLink "java/lang/StringUTF16" (111) ⟨"java/lang/StringUTF16", "putChar", "([BII)V"⟩) ∈ W0 := W0_5 (i := 149) rfl rfl
theorem tW_5_150 : (Cond.static ⟨"java/lang/StringUTF16", "putChar", "([BII)V"⟩) ∈ W0 := W0_5 (i := 150) rfl rfl
theorem tW_5_151 : (Cond.code ⟨"java/lang/StringUTF16", "putChar", "([BII)V"⟩ prog_31_method_4_code (3) (none : Option Jvm.ClassFile.FieldType)) ∈ W0 := W0_5 (i := 151) rfl rfl
theorem tW_5_152 : (Cond.methodLink "java/lang/AbstractStringBuilder" (32) ⟨"java/lang/String", "length", "()I"⟩) ∈ W0 := W0_5 (i := 152) rfl rfl
theorem tW_5_153 : (Cond.methodLink "java/lang/AbstractStringBuilder" (208) ⟨"java/lang/AbstractStringBuilder", "putStringAt", "(ILjava/lang/String;)V"⟩) ∈ W0 := W0_5 (i := 153) rfl rfl
theorem tW_5_155 : (Cond.instanceMethod ⟨"java/lang/AbstractStringBuilder", "putStringAt", "(ILjava/lang/String;)V"⟩) ∈ W0 := W0_5 (i := 155) rfl rfl
theorem tW_5_156 : (Cond.code ⟨"java/lang/AbstractStringBuilder", "putStringAt", "(ILjava/lang/String;)V"⟩ prog_15_method_73_code (3) (none : Option Jvm.ClassFile.FieldType)) ∈ W0 := W0_5 (i := 156) rfl rfl
theorem tW_5_157 : (Cond.methodLink "java/lang/AbstractStringBuilder" (397) ⟨"java/lang/AbstractStringBuilder", "inflateIfNeededFor", "(Ljava/lang/String;)V"⟩) ∈ W0 := W0_5 (i := 157) rfl rfl
theorem tW_5_159 : (Cond.instanceMethod ⟨"java/lang/AbstractStringBuilder", "inflateIfNeededFor", "(Ljava/lang/String;)V"⟩) ∈ W0 := W0_5 (i := 159) rfl rfl
theorem tW_5_160 : (Cond.code ⟨"java/lang/AbstractStringBuilder", "inflateIfNeededFor", "(Ljava/lang/String;)V"⟩ prog_15_method_71_code (2) (none : Option Jvm.ClassFile.FieldType)) ∈ W0 := W0_5 (i := 160) rfl rfl
theorem tW_5_161 : (Cond.methodLink "java/lang/AbstractStringBuilder" (40) ⟨"java/lang/String", "coder", "()B"⟩) ∈ W0 := W0_5 (i := 161) rfl rfl
theorem tW_5_162 : (Cond.methodLink "java/lang/AbstractStringBuilder" (195) ⟨"java/lang/AbstractStringBuilder", "inflate", "()V"⟩) ∈ W0 := W0_5 (i := 162) rfl rfl
theorem tW_5_164 : (Cond.instanceMethod ⟨"java/lang/AbstractStringBuilder", "inflate", "()V"⟩) ∈ W0 := W0_5 (i := 164) rfl rfl
theorem tW_5_165 : (Cond.code ⟨"java/lang/AbstractStringBuilder", "inflate", "()V"⟩ prog_15_method_11_code (2) (none : Option Jvm.ClassFile.FieldType)) ∈ W0 := W0_5 (i := 165) rfl rfl
theorem tW_5_166 : (Cond.methodLink "java/lang/AbstractStringBuilder" (125) ⟨"java/lang/StringLatin1", "inflate", "([BI[BII)V"⟩) ∈ W0 := W0_5 (i := 166) rfl rfl
theorem tW_5_167 : (Cond.static ⟨"java/lang/StringLatin1", "inflate", "([BI[BII)V"⟩) ∈ W0 := W0_5 (i := 167) rfl rfl
theorem tW_5_168 : (Cond.code ⟨"java/lang/StringLatin1", "inflate", "([BI[BII)V"⟩ prog_30_method_50_code (5) (none : Option Jvm.ClassFile.FieldType)) ∈ W0 := W0_5 (i := 168) rfl rfl
theorem tW_5_169 : (Cond.methodLink "java/lang/StringLatin1" (240) ⟨"java/lang/StringUTF16", "inflate", "([BI[BII)V"⟩) ∈ W0 := W0_5 (i := 169) rfl rfl
theorem tW_5_170 : (Cond.static ⟨"java/lang/StringUTF16", "inflate", "([BI[BII)V"⟩) ∈ W0 := W0_5 (i := 170) rfl rfl
theorem tW_5_171 : (Cond.code ⟨"java/lang/StringUTF16", "inflate", "([BI[BII)V"⟩ prog_31_method_86_code (6) (none : Option Jvm.ClassFile.FieldType)) ∈ W0 := W0_5 (i := 171) rfl rfl
theorem tW_5_172 : (Cond.methodLink "java/lang/StringUTF16" (173) ⟨"java/lang/StringUTF16", "checkBoundsOffCount", "(II[B)V"⟩) ∈ W0 := W0_5 (i := 172) rfl rfl
theorem tW_5_173 : (Cond.static ⟨"java/lang/StringUTF16", "checkBoundsOffCount", "(II[B)V"⟩) ∈ W0 := W0_5 (i := 173) rfl rfl
theorem tW_5_174 : (Cond.code ⟨"java/lang/StringUTF16", "checkBoundsOffCount", "(II[B)V"⟩ prog_31_method_94_code (3) (none : Option Jvm.ClassFile.FieldType)) ∈ W0 := W0_5 (i := 174) rfl rfl
theorem tW_5_175 : (Cond.methodLink "java/lang/StringUTF16" (419) ⟨"java/lang/String", "checkBoundsOffCount", "(III)I"⟩) ∈ W0 := W0_5 (i := 175) rfl rfl
theorem tW_5_176 : (Cond.static ⟨"java/lang/String", "checkBoundsOffCount", "(III)I"⟩) ∈ W0 := W0_5 (i := 176) rfl rfl
theorem tW_5_177 : (Cond.code ⟨"java/lang/String", "checkBoundsOffCount", "(III)I"⟩ prog_28_method_157_code (3) (some FieldType.int)) ∈ W0 := W0_5 (i := 177) rfl rfl
theorem tW_5_178 : (Cond.methodLink "java/lang/String" (1065) ⟨"jdk/internal/util/Preconditions", "checkFromIndexSize", "(IIILjava/util/function/BiFunction;)I"⟩) ∈ W0 := W0_5 (i := 178) rfl rfl
theorem tW_5_179 : (Cond.static ⟨"jdk/internal/util/Preconditions", "checkFromIndexSize", "(IIILjava/util/function/BiFunction;)I"⟩) ∈ W0 := W0_5 (i := 179) rfl rfl
theorem tW_5_180 : (Cond.code ⟨"jdk/internal/util/Preconditions", "checkFromIndexSize", "(IIILjava/util/function/BiFunction;)I"⟩ prog_39_method_13_code (4) (some FieldType.int)) ∈ W0 := W0_5 (i := 180) rfl rfl
theorem tW_5_181 : (Cond.methodLink "java/lang/AbstractStringBuilder" (399) ⟨"java/lang/String", "getBytes", "([BIB)V"⟩) ∈ W0 := W0_5 (i := 181) rfl rfl
theorem tW_5_182 : (Cond.instanceMethod ⟨"java/lang/String", "getBytes", "([BIB)V"⟩) ∈ W0 := W0_5 (i := 182) rfl rfl
theorem tW_5_183 : (Cond.selects "java/lang/String" ⟨"java/lang/String", "getBytes", "([BIB)V"⟩ ⟨"java/lang/String", "getBytes", "([BIB)V"⟩) ∈ W0 := W0_5 (i := 183) rfl rfl
theorem tW_5_184 : (Cond.code ⟨"java/lang/String", "getBytes", "([BIB)V"⟩ prog_28_method_147_code (4) (none : Option Jvm.ClassFile.FieldType)) ∈ W0 := W0_5 (i := 184) rfl rfl
theorem tW_5_185 : (Cond.methodLink "java/lang/String" (212) ⟨"java/lang/System", "arraycopy", "(Ljava/lang/Object;ILjava/lang/Object;II)V"⟩) ∈ W0 := W0_5 (i := 185) rfl rfl
theorem tW_5_186 : (Cond.methodLink "java/lang/String" (106) ⟨"java/lang/StringLatin1", "inflate", "([BI[BII)V"⟩) ∈ W0 := W0_5 (i := 186) rfl rfl
theorem tW_5_189 : (Cond.methodLink "WidowWatchLaw" (170) ⟨"java/lang/StringBuilder", "toString", "()Ljava/lang/String;"⟩) ∈ W0 := W0_5 (i := 189) rfl rfl
theorem tW_5_190 : (Cond.instanceMethod ⟨"java/lang/StringBuilder", "toString", "()Ljava/lang/String;"⟩) ∈ W0 := W0_5 (i := 190) rfl rfl
theorem tW_5_191 : (Cond.selects "java/lang/StringBuilder" ⟨"java/lang/StringBuilder", "toString", "()Ljava/lang/String;"⟩ ⟨"java/lang/StringBuilder", "toString", "()Ljava/lang/String;"⟩) ∈ W0 := W0_5 (i := 191) rfl rfl
theorem tW_5_192 : (Cond.code ⟨"java/lang/StringBuilder", "toString", "()Ljava/lang/String;"⟩ prog_29_method_42_code (1) (some (FieldType.object "java/lang/String"))) ∈ W0 := W0_5 (i := 192) rfl rfl
theorem tW_5_193 : (Cond.classLink "java/lang/StringBuilder" (18) "java/lang/String") ∈ W0 := W0_5 (i := 193) rfl rfl
theorem tW_5_194 : (Cond.instantiable "java/lang/String" (4)) ∈ W0 := W0_5 (i := 194) rfl rfl
theorem tW_5_195 : (Cond.methodLink "java/lang/StringBuilder" (137) ⟨"java/lang/String", "<init>", "(Ljava/lang/StringBuilder;)V"⟩) ∈ W0 := W0_5 (i := 195) rfl rfl
theorem tW_5_196 : (Cond.instanceMethod ⟨"java/lang/String", "<init>", "(Ljava/lang/StringBuilder;)V"⟩) ∈ W0 := W0_5 (i := 196) rfl rfl
theorem tW_5_197 : (Cond.code ⟨"java/lang/String", "<init>", "(Ljava/lang/StringBuilder;)V"⟩ prog_28_method_53_code (2) (none : Option Jvm.ClassFile.FieldType)) ∈ W0 := W0_5 (i := 197) rfl rfl
theorem tW_5_198 : (Cond.methodLink "java/lang/String" (489) ⟨"java/lang/String", "<init>", "(Ljava/lang/AbstractStringBuilder;Ljava/lang/Void;)V"⟩) ∈ W0 := W0_5 (i := 198) rfl rfl
theorem tW_5_199 : (Cond.instanceMethod ⟨"java/lang/String", "<init>", "(Ljava/lang/AbstractStringBuilder;Ljava/lang/Void;)V"⟩) ∈ W0 := W0_5 (i := 199) rfl rfl
theorem tW_5_200 : (Cond.code ⟨"java/lang/String", "<init>", "(Ljava/lang/AbstractStringBuilder;Ljava/lang/Void;)V"⟩ prog_28_method_150_code (5) (none : Option Jvm.ClassFile.FieldType)) ∈ W0 := W0_5 (i := 200) rfl rfl
theorem tW_5_201 : (Cond.methodLink "java/lang/String" (1) ⟨"java/lang/Object", "<init>", "()V"⟩) ∈ W0 := W0_5 (i := 201) rfl rfl
theorem tW_5_202 : (Cond.methodLink "java/lang/String" (552) ⟨"java/lang/AbstractStringBuilder", "getValue", "()[B"⟩) ∈ W0 := W0_5 (i := 202) rfl rfl
theorem tW_5_203 : (Cond.instanceMethod ⟨"java/lang/AbstractStringBuilder", "getValue", "()[B"⟩) ∈ W0 := W0_5 (i := 203) rfl rfl
theorem tW_5_205 : (Cond.selects "java/lang/StringBuilder" ⟨"java/lang/AbstractStringBuilder", "getValue", "()[B"⟩ ⟨"java/lang/AbstractStringBuilder", "getValue", "()[B"⟩) ∈ W0 := W0_5 (i := 205) rfl rfl
theorem tW_5_206 : (Cond.code ⟨"java/lang/AbstractStringBuilder", "getValue", "()[B"⟩ prog_15_method_64_code (1) (some (FieldType.array FieldType.byte))) ∈ W0 := W0_5 (i := 206) rfl rfl
theorem tW_5_207 : (Cond.methodLink "java/lang/String" (549) ⟨"java/lang/AbstractStringBuilder", "length", "()I"⟩) ∈ W0 := W0_5 (i := 207) rfl rfl
theorem tW_5_208 : (Cond.instanceMethod ⟨"java/lang/AbstractStringBuilder", "length", "()I"⟩) ∈ W0 := W0_5 (i := 208) rfl rfl
theorem tW_5_210 : (Cond.selects "java/lang/StringBuilder" ⟨"java/lang/AbstractStringBuilder", "length", "()I"⟩ ⟨"java/lang/StringBuilder", "length", "()I"⟩) ∈ W0 := W0_5 (i := 210) rfl rfl
theorem tW_5_211 : (Cond.instanceMethod ⟨"java/lang/StringBuilder", "length", "()I"⟩) ∈ W0 := W0_5 (i := 211) rfl rfl
theorem tW_5_212 : (Cond.code ⟨"java/lang/StringBuilder", "length", "()I"⟩ prog_29_method_93_code (1) (some FieldType.int)) ∈ W0 := W0_5 (i := 212) rfl rfl
theorem tW_5_213 : (Cond.methodLink "java/lang/StringBuilder" (343) ⟨"java/lang/AbstractStringBuilder", "length", "()I"⟩) ∈ W0 := W0_5 (i := 213) rfl rfl
theorem tW_5_214 : (Cond.code ⟨"java/lang/AbstractStringBuilder", "length", "()I"⟩ prog_15_method_6_code (1) (some FieldType.int)) ∈ W0 := W0_5 (i := 214) rfl rfl
theorem tW_5_215 : (Cond.methodLink "java/lang/String" (1047) ⟨"java/lang/AbstractStringBuilder", "isLatin1", "()Z"⟩) ∈ W0 := W0_5 (i := 215) rfl rfl
theorem tW_5_216 : (Cond.methodLink "java/lang/String" (54) ⟨"java/util/Arrays", "copyOfRange", "([BII)[B"⟩) ∈ W0 := W0_5 (i := 216) rfl rfl
theorem tW_5_217 : (Cond.static ⟨"java/util/Arrays", "copyOfRange", "([BII)[B"⟩) ∈ W0 := W0_5 (i := 217) rfl rfl
theorem tW_5_218 : (Cond.code ⟨"java/util/Arrays", "copyOfRange", "([BII)[B"⟩ prog_36_method_132_code (3) (some (FieldType.array FieldType.byte))) ∈ W0 := W0_5 (i := 218) rfl rfl
theorem tW_5_219 : (Cond.methodLink "java/util/Arrays" (339) ⟨"java/util/Arrays", "copyOfRangeByte", "([BII)[B"⟩) ∈ W0 := W0_5 (i := 219) rfl rfl
theorem tW_5_220 : (Cond.static ⟨"java/util/Arrays", "copyOfRangeByte", "([BII)[B"⟩) ∈ W0 := W0_5 (i := 220) rfl rfl
theorem tW_5_221 : (Cond.code ⟨"java/util/Arrays", "copyOfRangeByte", "([BII)[B"⟩ prog_36_method_133_code (5) (some (FieldType.array FieldType.byte))) ∈ W0 := W0_5 (i := 221) rfl rfl
theorem tW_5_222 : (Cond.methodLink "java/util/Arrays" (343) ⟨"java/util/Arrays", "checkLength", "(II)V"⟩) ∈ W0 := W0_5 (i := 222) rfl rfl
theorem tW_5_223 : (Cond.static ⟨"java/util/Arrays", "checkLength", "(II)V"⟩) ∈ W0 := W0_5 (i := 223) rfl rfl
theorem tW_5_224 : (Cond.code ⟨"java/util/Arrays", "checkLength", "(II)V"⟩ prog_36_method_131_code (2) (none : Option Jvm.ClassFile.FieldType)) ∈ W0 := W0_5 (i := 224) rfl rfl
theorem tW_5_225 : (Cond.classLink "java/util/Arrays" (43) "java/lang/IllegalArgumentException") ∈ W0 := W0_5 (i := 225) rfl rfl
theorem tW_5_226 : (Cond.classLink "java/util/Arrays" (45) "java/lang/StringBuilder") ∈ W0 := W0_5 (i := 226) rfl rfl
theorem tW_5_227 : (Cond.methodLink "java/util/Arrays" (47) ⟨"java/lang/StringBuilder", "<init>", "()V"⟩) ∈ W0 := W0_5 (i := 227) rfl rfl
theorem tW_5_228 : (Cond.methodLink "java/util/Arrays" (54) ⟨"java/lang/StringBuilder", "append", "(I)Ljava/lang/StringBuilder;"⟩) ∈ W0 := W0_5 (i := 228) rfl rfl
theorem tW_5_229 : (Cond.instanceMethod ⟨"java/lang/StringBuilder", "append", "(I)Ljava/lang/StringBuilder;"⟩) ∈ W0 := W0_5 (i := 229) rfl rfl
theorem tW_5_230 : (Cond.selects "java/lang/StringBuilder" ⟨"java/lang/StringBuilder", "append", "(I)Ljava/lang/StringBuilder;"⟩ ⟨"java/lang/StringBuilder", "append", "(I)Ljava/lang/StringBuilder;"⟩) ∈ W0 := W0_5 (i := 230) rfl rfl
theorem tW_5_231 : (Cond.code ⟨"java/lang/StringBuilder", "append", "(I)Ljava/lang/StringBuilder;"⟩ prog_29_method_15_code (2) (some (FieldType.object "java/lang/StringBuilder"))) ∈ W0 := W0_5 (i := 231) rfl rfl
theorem tW_5_232 : (Cond.methodLink "java/lang/StringBuilder" (53) ⟨"java/lang/AbstractStringBuilder", "append", "(I)Ljava/lang/AbstractStringBuilder;"⟩) ∈ W0 := W0_5 (i := 232) rfl rfl
theorem tW_5_233 : (Cond.instanceMethod ⟨"java/lang/AbstractStringBuilder", "append", "(I)Ljava/lang/AbstractStringBuilder;"⟩) ∈ W0 := W0_5 (i := 233) rfl rfl
theorem tW_5_234 : (Cond.code ⟨"java/lang/AbstractStringBuilder", "append", "(I)Ljava/lang/AbstractStringBuilder;"⟩ prog_15_method_32_code (4) (some (FieldType.object "java/lang/AbstractStringBuilder"))) ∈ W0 := W0_5 (i := 234) rfl rfl
theorem tW_5_235 : (Cond.methodLink "java/lang/AbstractStringBuilder" (245) ⟨"java/lang/Integer", "stringSize", "(I)I"⟩) ∈ W0 := W0_5 (i := 235) rfl rfl
theorem tW_5_236 : (Cond.static ⟨"java/lang/Integer", "stringSize", "(I)I"⟩) ∈ W0 := W0_5 (i := 236) rfl rfl
theorem tW_5_237 : (Cond.code ⟨"java/lang/Integer", "stringSize", "(I)I"⟩ prog_24_method_13_code (4) (some FieldType.int)) ∈ W0 := W0_5 (i := 237) rfl rfl
theorem tW_5_238 : (Cond.methodLink "java/lang/AbstractStringBuilder" (248) ⟨"java/lang/Integer", "getChars", "(II[B)I"⟩) ∈ W0 := W0_5 (i := 238) rfl rfl
theorem tW_5_239 : (Cond.static ⟨"java/lang/Integer", "getChars", "(II[B)I"⟩) ∈ W0 := W0_5 (i := 239) rfl rfl
theorem tW_6_0 : (Cond.code ⟨"java/lang/Integer", "getChars", "(II[B)I"⟩ prog_24_method_12_code (7) (some FieldType.int)) ∈ W0 := W0_6 (i := 0) rfl rfl
theorem tW_6_1 : (Cond.fieldLink "java/lang/Integer" (83) "java/lang/Integer" "DigitOnes" "[B") ∈ W0 := W0_6 (i := 1) rfl rfl
theorem tW_6_3 : (Cond.fieldLink "java/lang/Integer" (87) "java/lang/Integer" "DigitTens" "[B") ∈ W0 := W0_6 (i := 3) rfl rfl
theorem tW_6_5 : (Cond.methodLink "java/lang/AbstractStringBuilder" (251) ⟨"java/lang/StringUTF16", "getChars", "(III[B)I"⟩) ∈ W0 := W0_6 (i := 5) rfl rfl
theorem tW_6_6 : (Cond.static ⟨"java/lang/StringUTF16", "getChars", "(III[B)I"⟩) ∈ W0 := W0_6 (i := 6) rfl rfl
theorem tW_6_7 : (Cond.code ⟨"java/lang/StringUTF16", "getChars", "(III[B)I"⟩ prog_31_method_77_code (5) (some FieldType.int)) ∈ W0 := W0_6 (i := 7) rfl rfl
theorem tW_6_8 : (Cond.methodLink "java/lang/StringUTF16" (393) ⟨"java/lang/StringUTF16", "getChars", "(II[B)I"⟩) ∈ W0 := W0_6 (i := 8) rfl rfl
theorem tW_6_9 : (Cond.static ⟨"java/lang/StringUTF16", "getChars", "(II[B)I"⟩) ∈ W0 := W0_6 (i := 9) rfl rfl
theorem tW_6_10 : (Cond.code ⟨"java/lang/StringUTF16", "getChars", "(II[B)I"⟩ prog_31_method_89_code (7) (some FieldType.int)) ∈ W0 := W0_6 (i := 10) rfl rfl
theorem tW_6_11 : (Cond.fieldLink "java/lang/StringUTF16" (403) "java/lang/Integer" "DigitOnes" "[B") ∈ W0 := W0_6 (i := 11) rfl rfl
theorem tW_6_12 : (Cond.fieldLink "java/lang/StringUTF16" (407) "java/lang/Integer" "DigitTens" "[B") ∈ W0 := W0_6 (i := 12) rfl rfl
theorem tW_6_14 : (Cond.methodLink "java/util/Arrays" (50) ⟨"java/lang/StringBuilder", "append", "(Ljava/lang/String;)Ljava/lang/StringBuilder;"⟩) ∈ W0 := W0_6 (i := 14) rfl rfl
theorem tW_6_15 : (Cond.methodLink "java/util/Arrays" (61) ⟨"java/lang/StringBuilder", "toString", "()Ljava/lang/String;"⟩) ∈ W0 := W0_6 (i := 15) rfl rfl
theorem tW_6_16 : (Cond.methodLink "java/util/Arrays" (65) ⟨"java/lang/IllegalArgumentException", "<init>", "(Ljava/lang/String;)V"⟩) ∈ W0 := W0_6 (i := 16) rfl rfl
theorem tW_6_17 : (Cond.methodLink "java/lang/String" (1051) ⟨"java/lang/StringUTF16", "compress", "([BII)[B"⟩) ∈ W0 := W0_6 (i := 17) rfl rfl
theorem tW_6_18 : (Cond.static ⟨"java/lang/StringUTF16", "compress", "([BII)[B"⟩) ∈ W0 := W0_6 (i := 18) rfl rfl
theorem tW_6_19 : (Cond.code ⟨"java/lang/StringUTF16", "compress", "([BII)[B"⟩ prog_31_method_17_code (6) (some (FieldType.array FieldType.byte))) ∈ W0 := W0_6 (i := 19) rfl rfl
theorem tW_6_20 : (Cond.methodLink "java/lang/StringUTF16" (123) ⟨"java/lang/StringUTF16", "compress", "([BI[BII)I"⟩) ∈ W0 := W0_6 (i := 20) rfl rfl
theorem tW_6_21 : (Cond.static ⟨"java/lang/StringUTF16", "compress", "([BI[BII)I"⟩) ∈ W0 := W0_6 (i := 21) rfl rfl
theorem tW_6_22 : (Cond.code ⟨"java/lang/StringUTF16", "compress", "([BI[BII)I"⟩ prog_31_method_22_code (7) (some FieldType.int)) ∈ W0 := W0_6 (i := 22) rfl rfl
theorem tW_6_23 : (Cond.methodLink "java/lang/StringUTF16" (126) ⟨"java/util/Arrays", "copyOfRange", "([BII)[B"⟩) ∈ W0 := W0_6 (i := 23) rfl rfl
theorem tW_6_24 : (Cond.methodLink "java/lang/String" (47) ⟨"java/lang/StringUTF16", "coderFromArrayLen", "([BI)B"⟩) ∈ W0 := W0_6 (i := 24) rfl rfl
theorem tW_6_25 : (Cond.static ⟨"java/lang/StringUTF16", "coderFromArrayLen", "([BI)B"⟩) ∈ W0 := W0_6 (i := 25) rfl rfl
theorem tW_6_26 : (Cond.code ⟨"java/lang/StringUTF16", "coderFromArrayLen", "([BI)B"⟩ prog_31_method_15_code (2) (some FieldType.byte)) ∈ W0 := W0_6 (i := 26) rfl rfl
theorem tW_6_27 : (Cond.fieldLink "java/lang/String" (9) "java/lang/String" "value" "[B") ∈ W0 := W0_6 (i := 27) rfl rfl
theorem tW_6_28 : (Cond.fieldLink "java/lang/String" (15) "java/lang/String" "coder" "B") ∈ W0 := W0_6 (i := 28) rfl rfl
theorem tW_6_29 : (Cond.laysFinal "java/lang/String" "java/lang/String" "value" "[B") ∈ W0 := W0_6 (i := 29) rfl rfl
theorem tW_6_31 : (Cond.laysFinal "java/lang/String" "java/lang/String" "coder" "B") ∈ W0 := W0_6 (i := 31) rfl rfl
theorem tW_6_33 : (Cond.lays "java/lang/String" "java/lang/String" "hash" "I") ∈ W0 := W0_6 (i := 33) rfl rfl
theorem tW_6_35 : (Cond.lays "java/lang/String" "java/lang/String" "hashIsZero" "Z") ∈ W0 := W0_6 (i := 35) rfl rfl
theorem tW_6_39 : (Cond.methodLink "WidowWatchLaw" (182) ⟨"WidowWatchLaw", "loadText", "(LWidowWatch;[I)I"⟩) ∈ W0 := W0_6 (i := 39) rfl rfl
theorem tW_6_40 : (Cond.static ⟨"WidowWatchLaw", "loadText", "(LWidowWatch;[I)I"⟩) ∈ W0 := W0_6 (i := 40) rfl rfl
theorem tW_6_41 : (Cond.code ⟨"WidowWatchLaw", "loadText", "(LWidowWatch;[I)I"⟩ method_4_code (3) (some FieldType.int)) ∈ W0 := W0_6 (i := 41) rfl rfl
theorem tW_6_42 : (Cond.methodLink "WidowWatchLaw" (210) ⟨"WidowWatchLaw", "agrees", "(LWidowWatch;LWidowWatchLaw$Book;)Z"⟩) ∈ W0 := W0_6 (i := 42) rfl rfl
theorem tW_6_43 : (Cond.static ⟨"WidowWatchLaw", "agrees", "(LWidowWatch;LWidowWatchLaw$Book;)Z"⟩) ∈ W0 := W0_6 (i := 43) rfl rfl
theorem tW_6_44 : (Cond.code ⟨"WidowWatchLaw", "agrees", "(LWidowWatch;LWidowWatchLaw$Book;)Z"⟩ method_26_code (4) (some FieldType.boolean)) ∈ W0 := W0_6 (i := 44) rfl rfl
theorem tW_6_45 : (Cond.methodLink "WidowWatchLaw" (186) ⟨"WidowWatch", "checksum", "()J"⟩) ∈ W0 := W0_6 (i := 45) rfl rfl
theorem tW_6_46 : (Cond.instanceMethod ⟨"WidowWatch", "checksum", "()J"⟩) ∈ W0 := W0_6 (i := 46) rfl rfl
theorem tW_6_47 : (Cond.selects "WidowWatch" ⟨"WidowWatch", "checksum", "()J"⟩ ⟨"WidowWatch", "checksum", "()J"⟩) ∈ W0 := W0_6 (i := 47) rfl rfl
theorem tW_6_48 : (Cond.code ⟨"WidowWatch", "checksum", "()J"⟩ prog_1_method_22_code (7) (some FieldType.long)) ∈ W0 := W0_6 (i := 48) rfl rfl
theorem tW_6_49 : (Cond.constantLong "WidowWatch" (245) (31)) ∈ W0 := W0_6 (i := 49) rfl rfl
theorem tW_6_50 : (Cond.methodLink "WidowWatch" (116) ⟨"WidowWatch$Book", "numberOf", "(I)I"⟩) ∈ W0 := W0_6 (i := 50) rfl rfl
theorem tW_6_51 : (Cond.instanceMethod ⟨"WidowWatch$Book", "numberOf", "(I)I"⟩) ∈ W0 := W0_6 (i := 51) rfl rfl
theorem tW_6_52 : (Cond.selects "WidowWatch$Book" ⟨"WidowWatch$Book", "numberOf", "(I)I"⟩ ⟨"WidowWatch$Book", "numberOf", "(I)I"⟩) ∈ W0 := W0_6 (i := 52) rfl rfl
theorem tW_6_53 : (Cond.code ⟨"WidowWatch$Book", "numberOf", "(I)I"⟩ prog_2_method_4_code (2) (some FieldType.int)) ∈ W0 := W0_6 (i := 53) rfl rfl
theorem tW_6_54 : (Cond.methodLink "WidowWatch$Book" (44) ⟨"WidowWatch$Book", "allWords", "()I"⟩) ∈ W0 := W0_6 (i := 54) rfl rfl
theorem tW_6_55 : (Cond.instanceMethod ⟨"WidowWatch$Book", "allWords", "()I"⟩) ∈ W0 := W0_6 (i := 55) rfl rfl
theorem tW_6_56 : (Cond.selects "WidowWatch$Book" ⟨"WidowWatch$Book", "allWords", "()I"⟩ ⟨"WidowWatch$Book", "allWords", "()I"⟩) ∈ W0 := W0_6 (i := 56) rfl rfl
theorem tW_6_57 : (Cond.code ⟨"WidowWatch$Book", "allWords", "()I"⟩ prog_2_method_5_code (3) (some FieldType.int)) ∈ W0 := W0_6 (i := 57) rfl rfl
theorem tW_6_58 : (Cond.methodLink "WidowWatch$Book" (48) ⟨"WidowWatch$Book", "allFixed", "()I"⟩) ∈ W0 := W0_6 (i := 58) rfl rfl
theorem tW_6_59 : (Cond.instanceMethod ⟨"WidowWatch$Book", "allFixed", "()I"⟩) ∈ W0 := W0_6 (i := 59) rfl rfl
theorem tW_6_60 : (Cond.selects "WidowWatch$Book" ⟨"WidowWatch$Book", "allFixed", "()I"⟩ ⟨"WidowWatch$Book", "allFixed", "()I"⟩) ∈ W0 := W0_6 (i := 60) rfl rfl
theorem tW_6_61 : (Cond.code ⟨"WidowWatch$Book", "allFixed", "()I"⟩ prog_2_method_6_code (3) (some FieldType.int)) ∈ W0 := W0_6 (i := 61) rfl rfl
theorem tW_6_62 : (Cond.methodLink "WidowWatch$Book" (58) ⟨"WidowWatch$Book", "fixedTo", "(I)I"⟩) ∈ W0 := W0_6 (i := 62) rfl rfl
theorem tW_6_63 : (Cond.methodLink "WidowWatch" (130) ⟨"WidowWatch", "paragraphNumber", "(II)I"⟩) ∈ W0 := W0_6 (i := 63) rfl rfl
theorem tW_6_65 : (Cond.instanceMethod ⟨"WidowWatch", "paragraphNumber", "(II)I"⟩) ∈ W0 := W0_6 (i := 65) rfl rfl
theorem tW_6_66 : (Cond.code ⟨"WidowWatch", "paragraphNumber", "(II)I"⟩ prog_1_method_28_code (3) (some FieldType.int)) ∈ W0 := W0_6 (i := 66) rfl rfl
theorem tW_6_67 : (Cond.methodLink "WidowWatch" (264) ⟨"WidowWatch$Book", "isHeading", "(I)Z"⟩) ∈ W0 := W0_6 (i := 67) rfl rfl
theorem tW_6_68 : (Cond.methodLink "WidowWatch" (127) ⟨"WidowWatch$Plan", "settingOf", "(I)I"⟩) ∈ W0 := W0_6 (i := 68) rfl rfl
theorem tW_6_69 : (Cond.methodLink "WidowWatch" (247) ⟨"WidowWatch", "withPlan", "(JLWidowWatch$Plan;)J"⟩) ∈ W0 := W0_6 (i := 69) rfl rfl
theorem tW_6_71 : (Cond.instanceMethod ⟨"WidowWatch", "withPlan", "(JLWidowWatch$Plan;)J"⟩) ∈ W0 := W0_6 (i := 71) rfl rfl
theorem tW_6_72 : (Cond.code ⟨"WidowWatch", "withPlan", "(JLWidowWatch$Plan;)J"⟩ prog_1_method_23_code (8) (some FieldType.long)) ∈ W0 := W0_6 (i := 72) rfl rfl
theorem tW_6_73 : (Cond.methodLink "WidowWatchLaw" (190) ⟨"WidowWatchLaw$Book", "checksum", "()J"⟩) ∈ W0 := W0_6 (i := 73) rfl rfl
theorem tW_6_74 : (Cond.instanceMethod ⟨"WidowWatchLaw$Book", "checksum", "()J"⟩) ∈ W0 := W0_6 (i := 74) rfl rfl
theorem tW_6_75 : (Cond.selects "WidowWatchLaw$Book" ⟨"WidowWatchLaw$Book", "checksum", "()J"⟩ ⟨"WidowWatchLaw$Book", "checksum", "()J"⟩) ∈ W0 := W0_6 (i := 75) rfl rfl
theorem tW_6_76 : (Cond.code ⟨"WidowWatchLaw$Book", "checksum", "()J"⟩ prog_9_method_21_code (8) (some FieldType.long)) ∈ W0 := W0_6 (i := 76) rfl rfl
theorem tW_6_77 : (Cond.methodLink "WidowWatchLaw$Book" (97) ⟨"WidowWatchLaw$Book", "best", "()LWidowWatchLaw$Plan;"⟩) ∈ W0 := W0_6 (i := 77) rfl rfl
theorem tW_6_78 : (Cond.instanceMethod ⟨"WidowWatchLaw$Book", "best", "()LWidowWatchLaw$Plan;"⟩) ∈ W0 := W0_6 (i := 78) rfl rfl
theorem tW_6_79 : (Cond.selects "WidowWatchLaw$Book" ⟨"WidowWatchLaw$Book", "best", "()LWidowWatchLaw$Plan;"⟩ ⟨"WidowWatchLaw$Book", "best", "()LWidowWatchLaw$Plan;"⟩) ∈ W0 := W0_6 (i := 79) rfl rfl
theorem tW_6_80 : (Cond.code ⟨"WidowWatchLaw$Book", "best", "()LWidowWatchLaw$Plan;"⟩ prog_9_method_10_code (1) (some (FieldType.object "WidowWatchLaw$Plan"))) ∈ W0 := W0_6 (i := 80) rfl rfl
theorem tW_6_81 : (Cond.methodLink "WidowWatchLaw$Book" (86) ⟨"WidowWatchLaw$Book", "paragraph", "(IIII)V"⟩) ∈ W0 := W0_6 (i := 81) rfl rfl
theorem tW_6_83 : (Cond.instanceMethod ⟨"WidowWatchLaw$Book", "paragraph", "(IIII)V"⟩) ∈ W0 := W0_6 (i := 83) rfl rfl
theorem tW_6_84 : (Cond.code ⟨"WidowWatchLaw$Book", "paragraph", "(IIII)V"⟩ prog_9_method_8_code (7) (none : Option Jvm.ClassFile.FieldType)) ∈ W0 := W0_6 (i := 84) rfl rfl
theorem tW_6_85 : (Cond.classLink "WidowWatchLaw$Book" (63) "WidowWatchLaw$Plan") ∈ W0 := W0_6 (i := 85) rfl rfl
theorem tW_6_86 : (Cond.instantiable "WidowWatchLaw$Plan" (3)) ∈ W0 := W0_6 (i := 86) rfl rfl
theorem tW_6_88 : (Cond.instanceMethod ⟨"WidowWatchLaw$Plan", "<init>", "()V"⟩) ∈ W0 := W0_6 (i := 88) rfl rfl
theorem tW_6_89 : (Cond.code ⟨"WidowWatchLaw$Plan", "<init>", "()V"⟩ prog_11_method_1_code (1) (none : Option Jvm.ClassFile.FieldType)) ∈ W0 := W0_6 (i := 89) rfl rfl
theorem tW_6_90 : (Cond.methodLink "WidowWatchLaw$Plan" (1) ⟨"java/lang/Object", "<init>", "()V"⟩) ∈ W0 := W0_6 (i := 90) rfl rfl
theorem tW_6_91 : (Cond.fieldLink "WidowWatchLaw$Book" (62) "WidowWatchLaw$Plan" "costs" "I") ∈ W0 := W0_6 (i := 91) rfl rfl
theorem tW_6_92 : (Cond.fieldLink "WidowWatchLaw$Plan" (7) "WidowWatchLaw$Plan" "settings" "[I") ∈ W0 := W0_6 (i := 92) rfl rfl
theorem tW_6_93 : (Cond.fieldLink "WidowWatchLaw$Book" (70) "WidowWatchLaw$Plan" "settings" "[I") ∈ W0 := W0_6 (i := 93) rfl rfl
theorem tW_6_94 : (Cond.fieldLink "WidowWatchLaw$Plan" (13) "WidowWatchLaw$Plan" "starts" "[I") ∈ W0 := W0_6 (i := 94) rfl rfl
theorem tW_6_95 : (Cond.fieldLink "WidowWatchLaw$Book" (74) "WidowWatchLaw$Plan" "starts" "[I") ∈ W0 := W0_6 (i := 95) rfl rfl
theorem tW_6_96 : (Cond.lays "WidowWatchLaw$Plan" "WidowWatchLaw$Plan" "costs" "I") ∈ W0 := W0_6 (i := 96) rfl rfl
theorem tW_6_98 : (Cond.lays "WidowWatchLaw$Plan" "WidowWatchLaw$Plan" "settings" "[I") ∈ W0 := W0_6 (i := 98) rfl rfl
theorem tW_6_100 : (Cond.lays "WidowWatchLaw$Plan" "WidowWatchLaw$Plan" "starts" "[I") ∈ W0 := W0_6 (i := 100) rfl rfl
theorem tW_6_103 : (Cond.methodLink "WidowWatchLaw$Book" (78) ⟨"WidowWatchLaw$Book", "many", "(II)I"⟩) ∈ W0 := W0_6 (i := 103) rfl rfl
theorem tW_6_104 : (Cond.methodLink "WidowWatchLaw$Book" (82) ⟨"WidowWatchLaw$Book", "line", "(IIIIII)V"⟩) ∈ W0 := W0_6 (i := 104) rfl rfl
theorem tW_6_106 : (Cond.instanceMethod ⟨"WidowWatchLaw$Book", "line", "(IIIIII)V"⟩) ∈ W0 := W0_6 (i := 106) rfl rfl
theorem tW_6_107 : (Cond.code ⟨"WidowWatchLaw$Book", "line", "(IIIIII)V"⟩ prog_9_method_9_code (8) (none : Option Jvm.ClassFile.FieldType)) ∈ W0 := W0_6 (i := 107) rfl rfl
theorem tW_6_108 : (Cond.methodLink "WidowWatchLaw$Book" (93) ⟨"WidowWatchLaw$Book", "beginning", "(III)I"⟩) ∈ W0 := W0_6 (i := 108) rfl rfl
theorem tW_6_109 : (Cond.instanceMethod ⟨"WidowWatchLaw$Book", "beginning", "(III)I"⟩) ∈ W0 := W0_6 (i := 109) rfl rfl
theorem tW_6_110 : (Cond.selects "WidowWatchLaw$Book" ⟨"WidowWatchLaw$Book", "beginning", "(III)I"⟩ ⟨"WidowWatchLaw$Book", "beginning", "(III)I"⟩) ∈ W0 := W0_6 (i := 110) rfl rfl
theorem tW_6_111 : (Cond.code ⟨"WidowWatchLaw$Book", "beginning", "(III)I"⟩ prog_9_method_7_code (5) (some FieldType.int)) ∈ W0 := W0_6 (i := 111) rfl rfl
theorem tW_6_112 : (Cond.constantLong "WidowWatchLaw$Book" (120) (31)) ∈ W0 := W0_6 (i := 112) rfl rfl
theorem tW_6_113 : (Cond.methodLink "WidowWatchLaw$Book" (122) ⟨"WidowWatchLaw$Book", "told", "(I)I"⟩) ∈ W0 := W0_6 (i := 113) rfl rfl
theorem tW_6_114 : (Cond.instanceMethod ⟨"WidowWatchLaw$Book", "told", "(I)I"⟩) ∈ W0 := W0_6 (i := 114) rfl rfl
theorem tW_6_115 : (Cond.selects "WidowWatchLaw$Book" ⟨"WidowWatchLaw$Book", "told", "(I)I"⟩ ⟨"WidowWatchLaw$Book", "told", "(I)I"⟩) ∈ W0 := W0_6 (i := 115) rfl rfl
theorem tW_6_116 : (Cond.code ⟨"WidowWatchLaw$Book", "told", "(I)I"⟩ prog_9_method_19_code (8) (some FieldType.int)) ∈ W0 := W0_6 (i := 116) rfl rfl
theorem tW_6_117 : (Cond.methodLink "WidowWatchLaw$Book" (126) ⟨"WidowWatchLaw$Book", "of", "(IILWidowWatchLaw$Plan;)I"⟩) ∈ W0 := W0_6 (i := 117) rfl rfl
theorem tW_6_118 : (Cond.instanceMethod ⟨"WidowWatchLaw$Book", "of", "(IILWidowWatchLaw$Plan;)I"⟩) ∈ W0 := W0_6 (i := 118) rfl rfl
theorem tW_6_119 : (Cond.selects "WidowWatchLaw$Book" ⟨"WidowWatchLaw$Book", "of", "(IILWidowWatchLaw$Plan;)I"⟩ ⟨"WidowWatchLaw$Book", "of", "(IILWidowWatchLaw$Plan;)I"⟩) ∈ W0 := W0_6 (i := 119) rfl rfl
theorem tW_6_120 : (Cond.code ⟨"WidowWatchLaw$Book", "of", "(IILWidowWatchLaw$Plan;)I"⟩ prog_9_method_20_code (5) (some FieldType.int)) ∈ W0 := W0_6 (i := 120) rfl rfl
theorem tW_6_121 : (Cond.methodLink "WidowWatchLaw$Book" (116) ⟨"WidowWatchLaw$Book", "plan", "(Z)LWidowWatchLaw$Plan;"⟩) ∈ W0 := W0_6 (i := 121) rfl rfl
theorem tW_6_122 : (Cond.instanceMethod ⟨"WidowWatchLaw$Book", "plan", "(Z)LWidowWatchLaw$Plan;"⟩) ∈ W0 := W0_6 (i := 122) rfl rfl
theorem tW_6_123 : (Cond.selects "WidowWatchLaw$Book" ⟨"WidowWatchLaw$Book", "plan", "(Z)LWidowWatchLaw$Plan;"⟩ ⟨"WidowWatchLaw$Book", "plan", "(Z)LWidowWatchLaw$Plan;"⟩) ∈ W0 := W0_6 (i := 123) rfl rfl
theorem tW_6_124 : (Cond.code ⟨"WidowWatchLaw$Book", "plan", "(Z)LWidowWatchLaw$Plan;"⟩ prog_9_method_12_code (2) (some (FieldType.object "WidowWatchLaw$Plan"))) ∈ W0 := W0_6 (i := 124) rfl rfl
theorem tW_6_125 : (Cond.methodLink "WidowWatchLaw$Book" (100) ⟨"WidowWatchLaw$Book", "plain", "([I)LWidowWatchLaw$Plan;"⟩) ∈ W0 := W0_6 (i := 125) rfl rfl
theorem tW_6_126 : (Cond.instanceMethod ⟨"WidowWatchLaw$Book", "plain", "([I)LWidowWatchLaw$Plan;"⟩) ∈ W0 := W0_6 (i := 126) rfl rfl
theorem tW_6_127 : (Cond.selects "WidowWatchLaw$Book" ⟨"WidowWatchLaw$Book", "plain", "([I)LWidowWatchLaw$Plan;"⟩ ⟨"WidowWatchLaw$Book", "plain", "([I)LWidowWatchLaw$Plan;"⟩) ∈ W0 := W0_6 (i := 127) rfl rfl
theorem tW_6_128 : (Cond.code ⟨"WidowWatchLaw$Book", "plain", "([I)LWidowWatchLaw$Plan;"⟩ prog_9_method_11_code (9) (some (FieldType.object "WidowWatchLaw$Plan"))) ∈ W0 := W0_6 (i := 128) rfl rfl
theorem tW_6_130 : (Cond.methodLink "WidowWatchLaw$Book" (130) ⟨"WidowWatchLaw$Book", "ofPlan", "(LWidowWatchLaw$Plan;I)I"⟩) ∈ W0 := W0_6 (i := 130) rfl rfl
theorem tW_6_131 : (Cond.instanceMethod ⟨"WidowWatchLaw$Book", "ofPlan", "(LWidowWatchLaw$Plan;I)I"⟩) ∈ W0 := W0_6 (i := 131) rfl rfl
theorem tW_6_132 : (Cond.selects "WidowWatchLaw$Book" ⟨"WidowWatchLaw$Book", "ofPlan", "(LWidowWatchLaw$Plan;I)I"⟩ ⟨"WidowWatchLaw$Book", "ofPlan", "(LWidowWatchLaw$Plan;I)I"⟩) ∈ W0 := W0_6 (i := 132) rfl rfl
theorem tW_6_133 : (Cond.code ⟨"WidowWatchLaw$Book", "ofPlan", "(LWidowWatchLaw$Plan;I)I"⟩ prog_9_method_17_code (6) (some FieldType.int)) ∈ W0 := W0_6 (i := 133) rfl rfl
theorem tW_6_134 : (Cond.methodLink "WidowWatchLaw$Book" (104) ⟨"WidowWatchLaw$Book", "place", "(LWidowWatchLaw$Plan;I)I"⟩) ∈ W0 := W0_6 (i := 134) rfl rfl
theorem tW_6_135 : (Cond.instanceMethod ⟨"WidowWatchLaw$Book", "place", "(LWidowWatchLaw$Plan;I)I"⟩) ∈ W0 := W0_6 (i := 135) rfl rfl
theorem tW_6_136 : (Cond.selects "WidowWatchLaw$Book" ⟨"WidowWatchLaw$Book", "place", "(LWidowWatchLaw$Plan;I)I"⟩ ⟨"WidowWatchLaw$Book", "place", "(LWidowWatchLaw$Plan;I)I"⟩) ∈ W0 := W0_6 (i := 136) rfl rfl
theorem tW_6_137 : (Cond.code ⟨"WidowWatchLaw$Book", "place", "(LWidowWatchLaw$Plan;I)I"⟩ prog_9_method_13_code (6) (some FieldType.int)) ∈ W0 := W0_6 (i := 137) rfl rfl
theorem tW_6_138 : (Cond.methodLink "WidowWatchLaw$Book" (112) ⟨"WidowWatchLaw$Book", "isWidow", "(LWidowWatchLaw$Plan;I)Z"⟩) ∈ W0 := W0_6 (i := 138) rfl rfl
theorem tW_6_139 : (Cond.instanceMethod ⟨"WidowWatchLaw$Book", "isWidow", "(LWidowWatchLaw$Plan;I)Z"⟩) ∈ W0 := W0_6 (i := 139) rfl rfl
theorem tW_6_140 : (Cond.selects "WidowWatchLaw$Book" ⟨"WidowWatchLaw$Book", "isWidow", "(LWidowWatchLaw$Plan;I)Z"⟩ ⟨"WidowWatchLaw$Book", "isWidow", "(LWidowWatchLaw$Plan;I)Z"⟩) ∈ W0 := W0_6 (i := 140) rfl rfl
theorem tW_6_141 : (Cond.code ⟨"WidowWatchLaw$Book", "isWidow", "(LWidowWatchLaw$Plan;I)Z"⟩ prog_9_method_15_code (5) (some FieldType.boolean)) ∈ W0 := W0_6 (i := 141) rfl rfl
theorem tW_6_142 : (Cond.methodLink "WidowWatchLaw$Book" (108) ⟨"WidowWatchLaw$Book", "allLines", "(LWidowWatchLaw$Plan;)I"⟩) ∈ W0 := W0_6 (i := 142) rfl rfl
theorem tW_6_143 : (Cond.instanceMethod ⟨"WidowWatchLaw$Book", "allLines", "(LWidowWatchLaw$Plan;)I"⟩) ∈ W0 := W0_6 (i := 143) rfl rfl
theorem tW_6_144 : (Cond.selects "WidowWatchLaw$Book" ⟨"WidowWatchLaw$Book", "allLines", "(LWidowWatchLaw$Plan;)I"⟩ ⟨"WidowWatchLaw$Book", "allLines", "(LWidowWatchLaw$Plan;)I"⟩) ∈ W0 := W0_6 (i := 144) rfl rfl
theorem tW_6_145 : (Cond.code ⟨"WidowWatchLaw$Book", "allLines", "(LWidowWatchLaw$Plan;)I"⟩ prog_9_method_14_code (4) (some FieldType.int)) ∈ W0 := W0_6 (i := 145) rfl rfl
theorem tW_6_146 : (Cond.methodLink "WidowWatchLaw$Book" (133) ⟨"WidowWatchLaw$Book", "ofPage", "(LWidowWatchLaw$Plan;II)I"⟩) ∈ W0 := W0_6 (i := 146) rfl rfl
theorem tW_6_147 : (Cond.instanceMethod ⟨"WidowWatchLaw$Book", "ofPage", "(LWidowWatchLaw$Plan;II)I"⟩) ∈ W0 := W0_6 (i := 147) rfl rfl
theorem tW_6_148 : (Cond.selects "WidowWatchLaw$Book" ⟨"WidowWatchLaw$Book", "ofPage", "(LWidowWatchLaw$Plan;II)I"⟩ ⟨"WidowWatchLaw$Book", "ofPage", "(LWidowWatchLaw$Plan;II)I"⟩) ∈ W0 := W0_6 (i := 148) rfl rfl
theorem tW_6_149 : (Cond.code ⟨"WidowWatchLaw$Book", "ofPage", "(LWidowWatchLaw$Plan;II)I"⟩ prog_9_method_16_code (7) (some FieldType.int)) ∈ W0 := W0_6 (i := 149) rfl rfl
theorem tW_6_150 : (Cond.methodLink "WidowWatchLaw" (191) ⟨"WidowWatchLaw", "state", "(LWidowWatch;I)I"⟩) ∈ W0 := W0_6 (i := 150) rfl rfl
theorem tW_6_151 : (Cond.static ⟨"WidowWatchLaw", "state", "(LWidowWatch;I)I"⟩) ∈ W0 := W0_6 (i := 151) rfl rfl
theorem tW_6_153 : (Cond.methodLink "WidowWatchLaw" (43) ⟨"WidowWatch", "state", "(I)I"⟩) ∈ W0 := W0_6 (i := 153) rfl rfl
theorem tW_6_154 : (Cond.instanceMethod ⟨"WidowWatch", "state", "(I)I"⟩) ∈ W0 := W0_6 (i := 154) rfl rfl
theorem tW_6_155 : (Cond.selects "WidowWatch" ⟨"WidowWatch", "state", "(I)I"⟩ ⟨"WidowWatch", "state", "(I)I"⟩) ∈ W0 := W0_6 (i := 155) rfl rfl
theorem tW_6_156 : (Cond.code ⟨"WidowWatch", "state", "(I)I"⟩ prog_1_method_5_code (2) (some FieldType.int)) ∈ W0 := W0_6 (i := 156) rfl rfl
theorem tW_6_157 : (Cond.methodLink "WidowWatchLaw" (197) ⟨"WidowWatchLaw", "paragraph", "(LWidowWatch;II)I"⟩) ∈ W0 := W0_6 (i := 157) rfl rfl
theorem tW_6_158 : (Cond.static ⟨"WidowWatchLaw", "paragraph", "(LWidowWatch;II)I"⟩) ∈ W0 := W0_6 (i := 158) rfl rfl
theorem tW_6_160 : (Cond.methodLink "WidowWatchLaw" (46) ⟨"WidowWatch", "paragraph", "(II)I"⟩) ∈ W0 := W0_6 (i := 160) rfl rfl
theorem tW_6_161 : (Cond.instanceMethod ⟨"WidowWatch", "paragraph", "(II)I"⟩) ∈ W0 := W0_6 (i := 161) rfl rfl
theorem tW_6_162 : (Cond.selects "WidowWatch" ⟨"WidowWatch", "paragraph", "(II)I"⟩ ⟨"WidowWatch", "paragraph", "(II)I"⟩) ∈ W0 := W0_6 (i := 162) rfl rfl
theorem tW_6_163 : (Cond.code ⟨"WidowWatch", "paragraph", "(II)I"⟩ prog_1_method_6_code (3) (some FieldType.int)) ∈ W0 := W0_6 (i := 163) rfl rfl
theorem tW_6_164 : (Cond.methodLink "WidowWatchLaw" (203) ⟨"WidowWatchLaw$Book", "told", "(I)I"⟩) ∈ W0 := W0_6 (i := 164) rfl rfl
theorem tW_6_165 : (Cond.methodLink "WidowWatchLaw" (251) ⟨"[I", "clone", "()Ljava/lang/Object;"⟩) ∈ W0 := W0_6 (i := 165) rfl rfl
theorem tW_6_167 : (Cond.classLink "WidowWatchLaw" (252) "[I") ∈ W0 := W0_6 (i := 167) rfl rfl
theorem tW_0_0 : (Cond.selects "WidowWatch" ⟨"WidowWatch", "noteChange", "()V"⟩ ⟨"WidowWatch", "noteChange", "()V"⟩) ∈ W0 := W0_0 (i := 0) rfl rfl
theorem tW_0_1 : (Cond.selects "java/lang/Throwable" ⟨"java/lang/Throwable", "fillInStackTrace", "(I)Ljava/lang/Throwable;"⟩ ⟨"java/lang/Throwable", "fillInStackTrace", "(I)Ljava/lang/Throwable;"⟩) ∈ W0 := W0_0 (i := 1) rfl rfl
theorem tW_0_2 : (Cond.selects "WidowWatch" ⟨"WidowWatch", "requireParagraph", "(I)V"⟩ ⟨"WidowWatch", "requireParagraph", "(I)V"⟩) ∈ W0 := W0_0 (i := 2) rfl rfl
theorem tW_0_3 : (Cond.selects "WidowWatch" ⟨"WidowWatch", "upToDate", "(Z)LWidowWatch$Plan;"⟩ ⟨"WidowWatch", "upToDate", "(Z)LWidowWatch$Plan;"⟩) ∈ W0 := W0_0 (i := 3) rfl rfl
theorem tW_0_4 : (Cond.selects "WidowWatch" ⟨"WidowWatch", "layPlain", "(LWidowWatch$Plan;II)V"⟩ ⟨"WidowWatch", "layPlain", "(LWidowWatch$Plan;II)V"⟩) ∈ W0 := W0_0 (i := 4) rfl rfl
theorem tW_0_5 : (Cond.selects "WidowWatch" ⟨"WidowWatch", "helps", "(III)Z"⟩ ⟨"WidowWatch", "helps", "(III)Z"⟩) ∈ W0 := W0_0 (i := 5) rfl rfl
theorem tW_0_6 : (Cond.selects "WidowWatch" ⟨"WidowWatch", "addBytes", "(I)V"⟩ ⟨"WidowWatch", "addBytes", "(I)V"⟩) ∈ W0 := W0_0 (i := 6) rfl rfl
theorem tW_0_7 : (Cond.selects "WidowWatch" ⟨"WidowWatch", "paragraphNumber", "(II)I"⟩ ⟨"WidowWatch", "paragraphNumber", "(II)I"⟩) ∈ W0 := W0_0 (i := 7) rfl rfl
theorem tW_0_8 : (Cond.selects "WidowWatch" ⟨"WidowWatch", "withPlan", "(JLWidowWatch$Plan;)J"⟩ ⟨"WidowWatch", "withPlan", "(JLWidowWatch$Plan;)J"⟩) ∈ W0 := W0_0 (i := 8) rfl rfl
theorem tW_0_9 : (Cond.selects "WidowWatchLaw$Book" ⟨"WidowWatchLaw$Book", "paragraph", "(IIII)V"⟩ ⟨"WidowWatchLaw$Book", "paragraph", "(IIII)V"⟩) ∈ W0 := W0_0 (i := 9) rfl rfl
theorem tW_0_10 : (Cond.selects "WidowWatchLaw$Book" ⟨"WidowWatchLaw$Book", "line", "(IIIIII)V"⟩ ⟨"WidowWatchLaw$Book", "line", "(IIIIII)V"⟩) ∈ W0 := W0_0 (i := 10) rfl rfl
