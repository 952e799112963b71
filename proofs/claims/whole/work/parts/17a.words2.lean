theorem tX_1_76 : (Cond.superclass "WidowWatch$Book" "java/lang/Object") ∈ W0 := W0_1 (i := 76) rfl rfl
theorem tX_1_97 : (Cond.superclass "WidowWatch$History" "java/lang/Object") ∈ W0 := W0_1 (i := 97) rfl rfl
theorem tX_1_133 : (Cond.superclass "WidowWatch$Reader" "java/lang/Object") ∈ W0 := W0_1 (i := 133) rfl rfl
theorem tX_1_146 : (Cond.superclass "WidowWatch$Lines" "java/lang/Object") ∈ W0 := W0_1 (i := 146) rfl rfl
theorem tX_1_165 : (Cond.superclass "WidowWatch$Planner" "java/lang/Object") ∈ W0 := W0_1 (i := 165) rfl rfl
theorem tX_1_194 : (Cond.superclass "WidowWatch$Plan" "java/lang/Object") ∈ W0 := W0_1 (i := 194) rfl rfl
theorem tX_1_234 : (Cond.superclass "WidowWatch" "java/lang/Object") ∈ W0 := W0_1 (i := 234) rfl rfl
theorem tX_3_37 : (Cond.superclass "java/lang/Throwable" "java/lang/Object") ∈ W0 := W0_3 (i := 37) rfl rfl
theorem tX_3_51 : (Cond.codeSync ⟨"java/lang/Throwable", "fillInStackTrace", "()Ljava/lang/Throwable;"⟩ prog_22_method_18_code (1) (some (FieldType.object "java/lang/Throwable"))) ∈ W0 := W0_3 (i := 51) rfl rfl
theorem tX_3_56 : (Cond.native ⟨"java/lang/Throwable", "fillInStackTrace", "(I)Ljava/lang/Throwable;"⟩) ∈ W0 := W0_3 (i := 56) rfl rfl
theorem tX_3_82 : (Cond.superclass "java/lang/IllegalArgumentException" "java/lang/RuntimeException") ∈ W0 := W0_3 (i := 82) rfl rfl
theorem tX_4_27 : (Cond.superclass "java/lang/IndexOutOfBoundsException" "java/lang/RuntimeException") ∈ W0 := W0_4 (i := 27) rfl rfl
theorem tX_4_51 : (Cond.superclass "java/util/NoSuchElementException" "java/lang/RuntimeException") ∈ W0 := W0_4 (i := 51) rfl rfl
theorem tX_4_150 : (Cond.superclass "java/lang/IllegalStateException" "java/lang/RuntimeException") ∈ W0 := W0_4 (i := 150) rfl rfl
theorem tX_5_39 : (Cond.superclass "WidowWatchModel" "java/lang/Object") ∈ W0 := W0_5 (i := 39) rfl rfl
