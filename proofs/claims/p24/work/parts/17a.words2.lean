theorem tX_1_85 : (Cond.superclass "WidowWatch$Book" "java/lang/Object") ∈ W0 := W0_1 (i := 85) rfl rfl
theorem tX_1_106 : (Cond.superclass "WidowWatch$History" "java/lang/Object") ∈ W0 := W0_1 (i := 106) rfl rfl
theorem tX_1_142 : (Cond.superclass "WidowWatch$Reader" "java/lang/Object") ∈ W0 := W0_1 (i := 142) rfl rfl
theorem tX_1_155 : (Cond.superclass "WidowWatch$Lines" "java/lang/Object") ∈ W0 := W0_1 (i := 155) rfl rfl
theorem tX_1_174 : (Cond.superclass "WidowWatch$Planner" "java/lang/Object") ∈ W0 := W0_1 (i := 174) rfl rfl
theorem tX_1_203 : (Cond.superclass "WidowWatch$Plan" "java/lang/Object") ∈ W0 := W0_1 (i := 203) rfl rfl
theorem tX_2_3 : (Cond.superclass "WidowWatch" "java/lang/Object") ∈ W0 := W0_2 (i := 3) rfl rfl
theorem tX_2_98 : (Cond.superclass "WidowWatchLaw$Book" "java/lang/Object") ∈ W0 := W0_2 (i := 98) rfl rfl
theorem tX_2_107 : (Cond.native ⟨"java/lang/Object", "clone", "()Ljava/lang/Object;"⟩) ∈ W0 := W0_2 (i := 107) rfl rfl
theorem tX_2_142 : (Cond.superclass "WidowWatchLaw$Para" "java/lang/Object") ∈ W0 := W0_2 (i := 142) rfl rfl
theorem tX_2_166 : (Cond.superclass "WidowWatchLaw$Random" "java/lang/Object") ∈ W0 := W0_2 (i := 166) rfl rfl
theorem tX_2_202 : (Cond.superclass "java/lang/Throwable" "java/lang/Object") ∈ W0 := W0_2 (i := 202) rfl rfl
theorem tX_2_216 : (Cond.codeSync ⟨"java/lang/Throwable", "fillInStackTrace", "()Ljava/lang/Throwable;"⟩ prog_33_method_18_code (1) (some (FieldType.object "java/lang/Throwable"))) ∈ W0 := W0_2 (i := 216) rfl rfl
theorem tX_2_221 : (Cond.native ⟨"java/lang/Throwable", "fillInStackTrace", "(I)Ljava/lang/Throwable;"⟩) ∈ W0 := W0_2 (i := 221) rfl rfl
theorem tX_3_7 : (Cond.superclass "java/lang/IllegalArgumentException" "java/lang/RuntimeException") ∈ W0 := W0_3 (i := 7) rfl rfl
theorem tX_3_184 : (Cond.superclass "java/lang/IndexOutOfBoundsException" "java/lang/RuntimeException") ∈ W0 := W0_3 (i := 184) rfl rfl
theorem tX_3_201 : (Cond.superclass "java/util/NoSuchElementException" "java/lang/RuntimeException") ∈ W0 := W0_3 (i := 201) rfl rfl
theorem tX_4_221 : (Cond.superclass "java/lang/IllegalStateException" "java/lang/RuntimeException") ∈ W0 := W0_4 (i := 221) rfl rfl
theorem tX_5_87 : (Cond.superclass "java/lang/StringBuilder" "java/lang/AbstractStringBuilder") ∈ W0 := W0_5 (i := 87) rfl rfl
theorem tX_5_131 : (Cond.native ⟨"java/lang/System", "arraycopy", "(Ljava/lang/Object;ILjava/lang/Object;II)V"⟩) ∈ W0 := W0_5 (i := 131) rfl rfl
theorem tX_6_37 : (Cond.superclass "java/lang/String" "java/lang/Object") ∈ W0 := W0_6 (i := 37) rfl rfl
theorem tX_6_102 : (Cond.superclass "WidowWatchLaw$Plan" "java/lang/Object") ∈ W0 := W0_6 (i := 102) rfl rfl
