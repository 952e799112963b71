/-! WidowWatchLaw$Book.paragraph(IIII)V -/
theorem dX7_paragraph_0 : decode cX7_paragraph 0 = .ok (.aload_n 0, 1) := by decide +kernel
theorem dX7_paragraph_1 : decode cX7_paragraph 1 = .ok (.getfield 58, 3) := by decide +kernel
theorem dX7_paragraph_4 : decode cX7_paragraph 4 = .ok (.ifnull 16, 3) := by decide +kernel
theorem dX7_paragraph_7 : decode cX7_paragraph 7 = .ok (.iload 4, 2) := by decide +kernel
theorem dX7_paragraph_9 : decode cX7_paragraph 9 = .ok (.aload_n 0, 1) := by decide +kernel
theorem dX7_paragraph_10 : decode cX7_paragraph 10 = .ok (.getfield 58, 3) := by decide +kernel
theorem dX7_paragraph_13 : decode cX7_paragraph 13 = .ok (.getfield 62, 3) := by decide +kernel
theorem dX7_paragraph_16 : decode cX7_paragraph 16 = .ok (.if_icmp .lt 4, 3) := by decide +kernel
theorem dX7_paragraph_19 : decode cX7_paragraph 19 = .ok (.return_, 1) := by decide +kernel
theorem dX7_paragraph_20 : decode cX7_paragraph 20 = .ok (.iload_n 1, 1) := by decide +kernel
theorem dX7_paragraph_21 : decode cX7_paragraph 21 = .ok (.aload_n 0, 1) := by decide +kernel
theorem dX7_paragraph_22 : decode cX7_paragraph 22 = .ok (.getfield 28, 3) := by decide +kernel
theorem dX7_paragraph_25 : decode cX7_paragraph 25 = .ok (.arraylength, 1) := by decide +kernel
theorem dX7_paragraph_26 : decode cX7_paragraph 26 = .ok (.if_icmp .ne 89, 3) := by decide +kernel
theorem dX7_paragraph_29 : decode cX7_paragraph 29 = .ok (.aload_n 0, 1) := by decide +kernel
theorem dX7_paragraph_30 : decode cX7_paragraph 30 = .ok (.new 63, 3) := by decide +kernel
theorem dX7_paragraph_33 : decode cX7_paragraph 33 = .ok (.dup, 1) := by decide +kernel
theorem dX7_paragraph_34 : decode cX7_paragraph 34 = .ok (.invokespecial 66, 3) := by decide +kernel
theorem dX7_paragraph_37 : decode cX7_paragraph 37 = .ok (.putfield 58, 3) := by decide +kernel
theorem dX7_paragraph_40 : decode cX7_paragraph 40 = .ok (.aload_n 0, 1) := by decide +kernel
theorem dX7_paragraph_41 : decode cX7_paragraph 41 = .ok (.getfield 58, 3) := by decide +kernel
theorem dX7_paragraph_44 : decode cX7_paragraph 44 = .ok (.iload 4, 2) := by decide +kernel
theorem dX7_paragraph_46 : decode cX7_paragraph 46 = .ok (.putfield 62, 3) := by decide +kernel
theorem dX7_paragraph_49 : decode cX7_paragraph 49 = .ok (.aload_n 0, 1) := by decide +kernel
theorem dX7_paragraph_50 : decode cX7_paragraph 50 = .ok (.getfield 58, 3) := by decide +kernel
theorem dX7_paragraph_53 : decode cX7_paragraph 53 = .ok (.aload_n 0, 1) := by decide +kernel
theorem dX7_paragraph_54 : decode cX7_paragraph 54 = .ok (.getfield 67, 3) := by decide +kernel
theorem dX7_paragraph_57 : decode cX7_paragraph 57 = .ok (.invokevirtual 36, 3) := by decide +kernel
theorem dX7_paragraph_60 : decode cX7_paragraph 60 = .ok (.checkcast 37, 3) := by decide +kernel
theorem dX7_paragraph_63 : decode cX7_paragraph 63 = .ok (.putfield 70, 3) := by decide +kernel
theorem dX7_paragraph_66 : decode cX7_paragraph 66 = .ok (.aload_n 0, 1) := by decide +kernel
theorem dX7_paragraph_67 : decode cX7_paragraph 67 = .ok (.getfield 58, 3) := by decide +kernel
theorem dX7_paragraph_70 : decode cX7_paragraph 70 = .ok (.aload_n 0, 1) := by decide +kernel
theorem dX7_paragraph_71 : decode cX7_paragraph 71 = .ok (.getfield 71, 3) := by decide +kernel
theorem dX7_paragraph_74 : decode cX7_paragraph 74 = .ok (.newarray .int, 2) := by decide +kernel
theorem dX7_paragraph_76 : decode cX7_paragraph 76 = .ok (.putfield 74, 3) := by decide +kernel
theorem dX7_paragraph_79 : decode cX7_paragraph 79 = .ok (.iconst 0, 1) := by decide +kernel
theorem dX7_paragraph_80 : decode cX7_paragraph 80 = .ok (.istore 5, 2) := by decide +kernel
theorem dX7_paragraph_82 : decode cX7_paragraph 82 = .ok (.iload 5, 2) := by decide +kernel
theorem dX7_paragraph_84 : decode cX7_paragraph 84 = .ok (.aload_n 0, 1) := by decide +kernel
theorem dX7_paragraph_85 : decode cX7_paragraph 85 = .ok (.getfield 71, 3) := by decide +kernel
theorem dX7_paragraph_88 : decode cX7_paragraph 88 = .ok (.if_icmp .ge 26, 3) := by decide +kernel
theorem dX7_paragraph_91 : decode cX7_paragraph 91 = .ok (.aload_n 0, 1) := by decide +kernel
theorem dX7_paragraph_92 : decode cX7_paragraph 92 = .ok (.getfield 58, 3) := by decide +kernel
theorem dX7_paragraph_95 : decode cX7_paragraph 95 = .ok (.getfield 74, 3) := by decide +kernel
theorem dX7_paragraph_98 : decode cX7_paragraph 98 = .ok (.iload 5, 2) := by decide +kernel
theorem dX7_paragraph_100 : decode cX7_paragraph 100 = .ok (.aload_n 0, 1) := by decide +kernel
theorem dX7_paragraph_101 : decode cX7_paragraph 101 = .ok (.getfield 32, 3) := by decide +kernel
theorem dX7_paragraph_104 : decode cX7_paragraph 104 = .ok (.iload 5, 2) := by decide +kernel
theorem dX7_paragraph_106 : decode cX7_paragraph 106 = .ok (.iaload, 1) := by decide +kernel
theorem dX7_paragraph_107 : decode cX7_paragraph 107 = .ok (.iastore, 1) := by decide +kernel
theorem dX7_paragraph_108 : decode cX7_paragraph 108 = .ok (.iinc 5 1, 3) := by decide +kernel
theorem dX7_paragraph_111 : decode cX7_paragraph 111 = .ok (.goto (-29), 3) := by decide +kernel
theorem dX7_paragraph_114 : decode cX7_paragraph 114 = .ok (.return_, 1) := by decide +kernel
theorem dX7_paragraph_115 : decode cX7_paragraph 115 = .ok (.iconst 0, 1) := by decide +kernel
theorem dX7_paragraph_116 : decode cX7_paragraph 116 = .ok (.istore 5, 2) := by decide +kernel
theorem dX7_paragraph_118 : decode cX7_paragraph 118 = .ok (.iload 5, 2) := by decide +kernel
theorem dX7_paragraph_120 : decode cX7_paragraph 120 = .ok (.iconst 3, 1) := by decide +kernel
theorem dX7_paragraph_121 : decode cX7_paragraph 121 = .ok (.if_icmp .ge 89, 3) := by decide +kernel
theorem dX7_paragraph_124 : decode cX7_paragraph 124 = .ok (.aload_n 0, 1) := by decide +kernel
theorem dX7_paragraph_125 : decode cX7_paragraph 125 = .ok (.getfield 28, 3) := by decide +kernel
theorem dX7_paragraph_128 : decode cX7_paragraph 128 = .ok (.iload_n 1, 1) := by decide +kernel
theorem dX7_paragraph_129 : decode cX7_paragraph 129 = .ok (.aaload, 1) := by decide +kernel
theorem dX7_paragraph_130 : decode cX7_paragraph 130 = .ok (.getfield 75, 3) := by decide +kernel
theorem dX7_paragraph_133 : decode cX7_paragraph 133 = .ok (.ifCond .lt 20, 3) := by decide +kernel
theorem dX7_paragraph_136 : decode cX7_paragraph 136 = .ok (.aload_n 0, 1) := by decide +kernel
theorem dX7_paragraph_137 : decode cX7_paragraph 137 = .ok (.getfield 28, 3) := by decide +kernel
theorem dX7_paragraph_140 : decode cX7_paragraph 140 = .ok (.iload_n 1, 1) := by decide +kernel
theorem dX7_paragraph_141 : decode cX7_paragraph 141 = .ok (.aaload, 1) := by decide +kernel
theorem dX7_paragraph_142 : decode cX7_paragraph 142 = .ok (.getfield 75, 3) := by decide +kernel
theorem dX7_paragraph_145 : decode cX7_paragraph 145 = .ok (.iload 5, 2) := by decide +kernel
theorem dX7_paragraph_147 : decode cX7_paragraph 147 = .ok (.if_icmp .eq 6, 3) := by decide +kernel
theorem dX7_paragraph_150 : decode cX7_paragraph 150 = .ok (.goto 54, 3) := by decide +kernel
theorem dX7_paragraph_153 : decode cX7_paragraph 153 = .ok (.aload_n 0, 1) := by decide +kernel
theorem dX7_paragraph_154 : decode cX7_paragraph 154 = .ok (.getfield 67, 3) := by decide +kernel
theorem dX7_paragraph_157 : decode cX7_paragraph 157 = .ok (.iload_n 1, 1) := by decide +kernel
theorem dX7_paragraph_158 : decode cX7_paragraph 158 = .ok (.iload 5, 2) := by decide +kernel
theorem dX7_paragraph_160 : decode cX7_paragraph 160 = .ok (.iastore, 1) := by decide +kernel
theorem dX7_paragraph_161 : decode cX7_paragraph 161 = .ok (.aload_n 0, 1) := by decide +kernel
theorem dX7_paragraph_162 : decode cX7_paragraph 162 = .ok (.iload_n 1, 1) := by decide +kernel
theorem dX7_paragraph_163 : decode cX7_paragraph 163 = .ok (.iload 5, 2) := by decide +kernel
theorem dX7_paragraph_165 : decode cX7_paragraph 165 = .ok (.invokevirtual 78, 3) := by decide +kernel
theorem dX7_paragraph_168 : decode cX7_paragraph 168 = .ok (.istore 6, 2) := by decide +kernel
theorem dX7_paragraph_170 : decode cX7_paragraph 170 = .ok (.aload_n 0, 1) := by decide +kernel
theorem dX7_paragraph_171 : decode cX7_paragraph 171 = .ok (.iload_n 1, 1) := by decide +kernel
theorem dX7_paragraph_172 : decode cX7_paragraph 172 = .ok (.iconst 0, 1) := by decide +kernel
theorem dX7_paragraph_173 : decode cX7_paragraph 173 = .ok (.iload 6, 2) := by decide +kernel
theorem dX7_paragraph_175 : decode cX7_paragraph 175 = .ok (.iload_n 2, 1) := by decide +kernel
theorem dX7_paragraph_176 : decode cX7_paragraph 176 = .ok (.iload_n 3, 1) := by decide +kernel
theorem dX7_paragraph_177 : decode cX7_paragraph 177 = .ok (.iload 4, 2) := by decide +kernel
theorem dX7_paragraph_179 : decode cX7_paragraph 179 = .ok (.iload 5, 2) := by decide +kernel
theorem dX7_paragraph_181 : decode cX7_paragraph 181 = .ok (.ifCond .ne 7, 3) := by decide +kernel
theorem dX7_paragraph_184 : decode cX7_paragraph 184 = .ok (.iconst 0, 1) := by decide +kernel
theorem dX7_paragraph_185 : decode cX7_paragraph 185 = .ok (.goto 15, 3) := by decide +kernel
theorem dX7_paragraph_188 : decode cX7_paragraph 188 = .ok (.iload 6, 2) := by decide +kernel
theorem dX7_paragraph_190 : decode cX7_paragraph 190 = .ok (.aload_n 0, 1) := by decide +kernel
theorem dX7_paragraph_191 : decode cX7_paragraph 191 = .ok (.getfield 22, 3) := by decide +kernel
theorem dX7_paragraph_194 : decode cX7_paragraph 194 = .ok (.iload 5, 2) := by decide +kernel
theorem dX7_paragraph_196 : decode cX7_paragraph 196 = .ok (.iconst 1, 1) := by decide +kernel
theorem dX7_paragraph_197 : decode cX7_paragraph 197 = .ok (.isub, 1) := by decide +kernel
theorem dX7_paragraph_198 : decode cX7_paragraph 198 = .ok (.iaload, 1) := by decide +kernel
theorem dX7_paragraph_199 : decode cX7_paragraph 199 = .ok (.imul, 1) := by decide +kernel
theorem dX7_paragraph_200 : decode cX7_paragraph 200 = .ok (.iadd, 1) := by decide +kernel
theorem dX7_paragraph_201 : decode cX7_paragraph 201 = .ok (.invokevirtual 82, 3) := by decide +kernel
theorem dX7_paragraph_204 : decode cX7_paragraph 204 = .ok (.iinc 5 1, 3) := by decide +kernel
theorem dX7_paragraph_207 : decode cX7_paragraph 207 = .ok (.goto (-89), 3) := by decide +kernel
theorem dX7_paragraph_210 : decode cX7_paragraph 210 = .ok (.return_, 1) := by decide +kernel
theorem okX7_paragraph : okY yX7_paragraph 4 := ⟨by decide +kernel, by decide +kernel, by decide +kernel⟩
/-! WidowWatchLaw$Book.line(IIIIII)V -/
theorem dX7_line_0 : decode cX7_line 0 = .ok (.iload_n 2, 1) := by decide +kernel
theorem dX7_line_1 : decode cX7_line 1 = .ok (.iload_n 3, 1) := by decide +kernel
theorem dX7_line_2 : decode cX7_line 2 = .ok (.if_icmp .ne 17, 3) := by decide +kernel
theorem dX7_line_5 : decode cX7_line 5 = .ok (.aload_n 0, 1) := by decide +kernel
theorem dX7_line_6 : decode cX7_line 6 = .ok (.iload_n 1, 1) := by decide +kernel
theorem dX7_line_7 : decode cX7_line 7 = .ok (.iconst 1, 1) := by decide +kernel
theorem dX7_line_8 : decode cX7_line 8 = .ok (.iadd, 1) := by decide +kernel
theorem dX7_line_9 : decode cX7_line 9 = .ok (.iload 4, 2) := by decide +kernel
theorem dX7_line_11 : decode cX7_line 11 = .ok (.iload 5, 2) := by decide +kernel
theorem dX7_line_13 : decode cX7_line 13 = .ok (.iload 6, 2) := by decide +kernel
theorem dX7_line_15 : decode cX7_line 15 = .ok (.invokevirtual 86, 3) := by decide +kernel
theorem dX7_line_18 : decode cX7_line 18 = .ok (.return_, 1) := by decide +kernel
theorem dX7_line_19 : decode cX7_line 19 = .ok (.iload_n 2, 1) := by decide +kernel
theorem dX7_line_20 : decode cX7_line 20 = .ok (.ifCond .ne 19, 3) := by decide +kernel
theorem dX7_line_23 : decode cX7_line 23 = .ok (.aload_n 0, 1) := by decide +kernel
theorem dX7_line_24 : decode cX7_line 24 = .ok (.getfield 28, 3) := by decide +kernel
theorem dX7_line_27 : decode cX7_line 27 = .ok (.iload_n 1, 1) := by decide +kernel
theorem dX7_line_28 : decode cX7_line 28 = .ok (.aaload, 1) := by decide +kernel
theorem dX7_line_29 : decode cX7_line 29 = .ok (.getfield 90, 3) := by decide +kernel
theorem dX7_line_32 : decode cX7_line 32 = .ok (.ifCond .eq 7, 3) := by decide +kernel
theorem dX7_line_35 : decode cX7_line 35 = .ok (.iconst 1, 1) := by decide +kernel
theorem dX7_line_36 : decode cX7_line 36 = .ok (.goto 4, 3) := by decide +kernel
theorem dX7_line_39 : decode cX7_line 39 = .ok (.iconst 0, 1) := by decide +kernel
theorem dX7_line_40 : decode cX7_line 40 = .ok (.istore 7, 2) := by decide +kernel
theorem dX7_line_42 : decode cX7_line 42 = .ok (.iload 5, 2) := by decide +kernel
theorem dX7_line_44 : decode cX7_line 44 = .ok (.ifCond .ne 29, 3) := by decide +kernel
theorem dX7_line_47 : decode cX7_line 47 = .ok (.aload_n 0, 1) := by decide +kernel
theorem dX7_line_48 : decode cX7_line 48 = .ok (.getfield 32, 3) := by decide +kernel
theorem dX7_line_51 : decode cX7_line 51 = .ok (.iconst 0, 1) := by decide +kernel
theorem dX7_line_52 : decode cX7_line 52 = .ok (.iconst 0, 1) := by decide +kernel
theorem dX7_line_53 : decode cX7_line 53 = .ok (.iastore, 1) := by decide +kernel
theorem dX7_line_54 : decode cX7_line 54 = .ok (.aload_n 0, 1) := by decide +kernel
theorem dX7_line_55 : decode cX7_line 55 = .ok (.iconst 1, 1) := by decide +kernel
theorem dX7_line_56 : decode cX7_line 56 = .ok (.putfield 71, 3) := by decide +kernel
theorem dX7_line_59 : decode cX7_line 59 = .ok (.aload_n 0, 1) := by decide +kernel
theorem dX7_line_60 : decode cX7_line 60 = .ok (.iload_n 1, 1) := by decide +kernel
theorem dX7_line_61 : decode cX7_line 61 = .ok (.iload_n 2, 1) := by decide +kernel
theorem dX7_line_62 : decode cX7_line 62 = .ok (.iconst 1, 1) := by decide +kernel
theorem dX7_line_63 : decode cX7_line 63 = .ok (.iadd, 1) := by decide +kernel
theorem dX7_line_64 : decode cX7_line 64 = .ok (.iload_n 3, 1) := by decide +kernel
theorem dX7_line_65 : decode cX7_line 65 = .ok (.iconst 1, 1) := by decide +kernel
theorem dX7_line_66 : decode cX7_line 66 = .ok (.iconst 1, 1) := by decide +kernel
theorem dX7_line_67 : decode cX7_line 67 = .ok (.iload 6, 2) := by decide +kernel
theorem dX7_line_69 : decode cX7_line 69 = .ok (.invokevirtual 82, 3) := by decide +kernel
theorem dX7_line_72 : decode cX7_line 72 = .ok (.return_, 1) := by decide +kernel
theorem dX7_line_73 : decode cX7_line 73 = .ok (.iload 5, 2) := by decide +kernel
theorem dX7_line_75 : decode cX7_line 75 = .ok (.aload_n 0, 1) := by decide +kernel
theorem dX7_line_76 : decode cX7_line 76 = .ok (.getfield 13, 3) := by decide +kernel
theorem dX7_line_79 : decode cX7_line 79 = .ok (.if_icmp .ge 27, 3) := by decide +kernel
theorem dX7_line_82 : decode cX7_line 82 = .ok (.iload 7, 2) := by decide +kernel
theorem dX7_line_84 : decode cX7_line 84 = .ok (.ifCond .ne 22, 3) := by decide +kernel
theorem dX7_line_87 : decode cX7_line 87 = .ok (.aload_n 0, 1) := by decide +kernel
theorem dX7_line_88 : decode cX7_line 88 = .ok (.iload_n 1, 1) := by decide +kernel
theorem dX7_line_89 : decode cX7_line 89 = .ok (.iload_n 2, 1) := by decide +kernel
theorem dX7_line_90 : decode cX7_line 90 = .ok (.iconst 1, 1) := by decide +kernel
theorem dX7_line_91 : decode cX7_line 91 = .ok (.iadd, 1) := by decide +kernel
theorem dX7_line_92 : decode cX7_line 92 = .ok (.iload_n 3, 1) := by decide +kernel
theorem dX7_line_93 : decode cX7_line 93 = .ok (.iload 4, 2) := by decide +kernel
theorem dX7_line_95 : decode cX7_line 95 = .ok (.iconst 1, 1) := by decide +kernel
theorem dX7_line_96 : decode cX7_line 96 = .ok (.iadd, 1) := by decide +kernel
theorem dX7_line_97 : decode cX7_line 97 = .ok (.iload 5, 2) := by decide +kernel
theorem dX7_line_99 : decode cX7_line 99 = .ok (.iconst 1, 1) := by decide +kernel
theorem dX7_line_100 : decode cX7_line 100 = .ok (.iadd, 1) := by decide +kernel
theorem dX7_line_101 : decode cX7_line 101 = .ok (.iload 6, 2) := by decide +kernel
theorem dX7_line_103 : decode cX7_line 103 = .ok (.invokevirtual 82, 3) := by decide +kernel
theorem dX7_line_106 : decode cX7_line 106 = .ok (.iload 5, 2) := by decide +kernel
theorem dX7_line_108 : decode cX7_line 108 = .ok (.aload_n 0, 1) := by decide +kernel
theorem dX7_line_109 : decode cX7_line 109 = .ok (.getfield 13, 3) := by decide +kernel
theorem dX7_line_112 : decode cX7_line 112 = .ok (.if_icmp .ge 23, 3) := by decide +kernel
theorem dX7_line_115 : decode cX7_line 115 = .ok (.iload 7, 2) := by decide +kernel
theorem dX7_line_117 : decode cX7_line 117 = .ok (.ifCond .ne 18, 3) := by decide +kernel
theorem dX7_line_120 : decode cX7_line 120 = .ok (.aload_n 0, 1) := by decide +kernel
theorem dX7_line_121 : decode cX7_line 121 = .ok (.getfield 13, 3) := by decide +kernel
theorem dX7_line_124 : decode cX7_line 124 = .ok (.iload 5, 2) := by decide +kernel
theorem dX7_line_126 : decode cX7_line 126 = .ok (.isub, 1) := by decide +kernel
theorem dX7_line_127 : decode cX7_line 127 = .ok (.aload_n 0, 1) := by decide +kernel
theorem dX7_line_128 : decode cX7_line 128 = .ok (.getfield 19, 3) := by decide +kernel
theorem dX7_line_131 : decode cX7_line 131 = .ok (.if_icmp .le 4, 3) := by decide +kernel
theorem dX7_line_134 : decode cX7_line 134 = .ok (.return_, 1) := by decide +kernel
theorem dX7_line_135 : decode cX7_line 135 = .ok (.aload_n 0, 1) := by decide +kernel
theorem dX7_line_136 : decode cX7_line 136 = .ok (.getfield 32, 3) := by decide +kernel
theorem dX7_line_139 : decode cX7_line 139 = .ok (.aload_n 0, 1) := by decide +kernel
theorem dX7_line_140 : decode cX7_line 140 = .ok (.getfield 71, 3) := by decide +kernel
theorem dX7_line_143 : decode cX7_line 143 = .ok (.iload 4, 2) := by decide +kernel
theorem dX7_line_145 : decode cX7_line 145 = .ok (.iastore, 1) := by decide +kernel
theorem dX7_line_146 : decode cX7_line 146 = .ok (.aload_n 0, 1) := by decide +kernel
theorem dX7_line_147 : decode cX7_line 147 = .ok (.dup, 1) := by decide +kernel
theorem dX7_line_148 : decode cX7_line 148 = .ok (.getfield 71, 3) := by decide +kernel
theorem dX7_line_151 : decode cX7_line 151 = .ok (.iconst 1, 1) := by decide +kernel
theorem dX7_line_152 : decode cX7_line 152 = .ok (.iadd, 1) := by decide +kernel
theorem dX7_line_153 : decode cX7_line 153 = .ok (.putfield 71, 3) := by decide +kernel
theorem dX7_line_156 : decode cX7_line 156 = .ok (.aload_n 0, 1) := by decide +kernel
theorem dX7_line_157 : decode cX7_line 157 = .ok (.iload_n 1, 1) := by decide +kernel
theorem dX7_line_158 : decode cX7_line 158 = .ok (.iload_n 2, 1) := by decide +kernel
theorem dX7_line_159 : decode cX7_line 159 = .ok (.iconst 1, 1) := by decide +kernel
theorem dX7_line_160 : decode cX7_line 160 = .ok (.iadd, 1) := by decide +kernel
theorem dX7_line_161 : decode cX7_line 161 = .ok (.iload_n 3, 1) := by decide +kernel
theorem dX7_line_162 : decode cX7_line 162 = .ok (.iload 4, 2) := by decide +kernel
theorem dX7_line_164 : decode cX7_line 164 = .ok (.iconst 1, 1) := by decide +kernel
theorem dX7_line_165 : decode cX7_line 165 = .ok (.iadd, 1) := by decide +kernel
theorem dX7_line_166 : decode cX7_line 166 = .ok (.iconst 1, 1) := by decide +kernel
theorem dX7_line_167 : decode cX7_line 167 = .ok (.iload 6, 2) := by decide +kernel
theorem dX7_line_169 : decode cX7_line 169 = .ok (.iload 7, 2) := by decide +kernel
theorem dX7_line_171 : decode cX7_line 171 = .ok (.ifCond .eq 7, 3) := by decide +kernel
theorem dX7_line_174 : decode cX7_line 174 = .ok (.iconst 0, 1) := by decide +kernel
theorem dX7_line_175 : decode cX7_line 175 = .ok (.goto 17, 3) := by decide +kernel
theorem dX7_line_178 : decode cX7_line 178 = .ok (.aload_n 0, 1) := by decide +kernel
theorem dX7_line_179 : decode cX7_line 179 = .ok (.getfield 13, 3) := by decide +kernel
theorem dX7_line_182 : decode cX7_line 182 = .ok (.iload 5, 2) := by decide +kernel
theorem dX7_line_184 : decode cX7_line 184 = .ok (.isub, 1) := by decide +kernel
theorem dX7_line_185 : decode cX7_line 185 = .ok (.aload_n 0, 1) := by decide +kernel
theorem dX7_line_186 : decode cX7_line 186 = .ok (.getfield 22, 3) := by decide +kernel
theorem dX7_line_189 : decode cX7_line 189 = .ok (.iconst 2, 1) := by decide +kernel
theorem dX7_line_190 : decode cX7_line 190 = .ok (.iaload, 1) := by decide +kernel
theorem dX7_line_191 : decode cX7_line 191 = .ok (.imul, 1) := by decide +kernel
theorem dX7_line_192 : decode cX7_line 192 = .ok (.iadd, 1) := by decide +kernel
theorem dX7_line_193 : decode cX7_line 193 = .ok (.aload_n 0, 1) := by decide +kernel
theorem dX7_line_194 : decode cX7_line 194 = .ok (.iload_n 1, 1) := by decide +kernel
theorem dX7_line_195 : decode cX7_line 195 = .ok (.iload_n 2, 1) := by decide +kernel
theorem dX7_line_196 : decode cX7_line 196 = .ok (.iload_n 3, 1) := by decide +kernel
theorem dX7_line_197 : decode cX7_line 197 = .ok (.invokevirtual 93, 3) := by decide +kernel
theorem dX7_line_200 : decode cX7_line 200 = .ok (.iadd, 1) := by decide +kernel
theorem dX7_line_201 : decode cX7_line 201 = .ok (.invokevirtual 82, 3) := by decide +kernel
theorem dX7_line_204 : decode cX7_line 204 = .ok (.aload_n 0, 1) := by decide +kernel
theorem dX7_line_205 : decode cX7_line 205 = .ok (.dup, 1) := by decide +kernel
theorem dX7_line_206 : decode cX7_line 206 = .ok (.getfield 71, 3) := by decide +kernel
theorem dX7_line_209 : decode cX7_line 209 = .ok (.iconst 1, 1) := by decide +kernel
theorem dX7_line_210 : decode cX7_line 210 = .ok (.isub, 1) := by decide +kernel
theorem dX7_line_211 : decode cX7_line 211 = .ok (.putfield 71, 3) := by decide +kernel
theorem dX7_line_214 : decode cX7_line 214 = .ok (.return_, 1) := by decide +kernel
theorem okX7_line : okY yX7_line 6 := ⟨by decide +kernel, by decide +kernel, by decide +kernel⟩
def wpX7_paragraph_b204 (WX7_paragraph : Nat → Mu → Nat → Int32 → Int32 → Int32 → Int32 → (Mu → Prop) → Prop) (WX7_line : Nat → Mu → Nat → Int32 → Int32 → Int32 → Int32 → Int32 → Int32 → (Mu → Prop) → Prop) (cB : Nat) (Post : Mu → Prop) (K118 : Mu → Nat → Nat → Int32 → Int32 → Int32 → Int32 → Int32 → Prop) (mu : Mu) (u : Nat) (v0 : Nat) (v1 : Int32) (v2 : Int32) (v3 : Int32) (v4 : Int32) (v5 : Int32) : Prop := K118 mu u v0 v1 v2 v3 v4 (v5 + (1 : Int32))
def wpX7_paragraph_b200 (WX7_paragraph : Nat → Mu → Nat → Int32 → Int32 → Int32 → Int32 → (Mu → Prop) → Prop) (WX7_line : Nat → Mu → Nat → Int32 → Int32 → Int32 → Int32 → Int32 → Int32 → (Mu → Prop) → Prop) (cB : Nat) (Post : Mu → Prop) (K118 : Mu → Nat → Nat → Int32 → Int32 → Int32 → Int32 → Int32 → Prop) (mu : Mu) (u : Nat) (v0 : Nat) (v1 : Int32) (v2 : Int32) (v3 : Int32) (v4 : Int32) (v5 : Int32) (s0 : Nat) (s1 : Int32) (s2 : Int32) (s3 : Int32) (s4 : Int32) (s5 : Int32) (s6 : Int32) (s7 : Int32) : Prop := ∃ x14, mB mu s0 = some x14 ∧ ∃ q16, u + q16 ≤ cB ∧ WX7_line q16 mu s0 s1 s2 s3 s4 s5 (s6 + s7) (fun mu17 => wpX7_paragraph_b204 WX7_paragraph WX7_line cB Post K118 mu17 (u + q16) v0 v1 v2 v3 v4 v5)
def wpX7_paragraph_b153 (WX7_paragraph : Nat → Mu → Nat → Int32 → Int32 → Int32 → Int32 → (Mu → Prop) → Prop) (WX7_line : Nat → Mu → Nat → Int32 → Int32 → Int32 → Int32 → Int32 → Int32 → (Mu → Prop) → Prop) (cB : Nat) (Post : Mu → Prop) (K118 : Mu → Nat → Nat → Int32 → Int32 → Int32 → Int32 → Int32 → Prop) (mu : Mu) (u : Nat) (v0 : Nat) (v1 : Int32) (v2 : Int32) (v3 : Int32) (v4 : Int32) (v5 : Int32) : Prop := ∃ x7, mB mu v0 = some x7 ∧ ∃ a7, x7.2.2.2.2.2.2.2.1 = some a7 ∧ ∃ n8 f8 k8, mI mu a7 = some (n8, f8) ∧ v1 = nI k8 ∧ k8 < n8 ∧ n8 ≤ 1000 ∧ ∀ mu9, mu9 = sI mu a7 (n8, upd f8 k8 v5) → ∃ x10, mB mu9 v0 = some x10 ∧ u ≤ cB ∧ wpX7_many mu9 v0 v1 v5 (fun r11 => (¬ v5 = 0 → ∃ x12, mB mu9 v0 = some x12 ∧ ∃ a12, x12.2.2.2.2.1 = some a12 ∧ ∃ n13 f13 k13, mI mu9 a12 = some (n13, f13) ∧ v5 - (1 : Int32) = nI k13 ∧ k13 < n13 ∧ n13 ≤ 1000 ∧ wpX7_paragraph_b200 WX7_paragraph WX7_line cB Post K118 mu9 u v0 v1 v2 v3 v4 v5 v0 v1 (0 : Int32) r11 v2 v3 v4 (r11 * (f13 k13))) ∧ (v5 = 0 → wpX7_paragraph_b200 WX7_paragraph WX7_line cB Post K118 mu9 u v0 v1 v2 v3 v4 v5 v0 v1 (0 : Int32) r11 v2 v3 v4 (0 : Int32)))
def wpX7_paragraph_L118 (WX7_paragraph : Nat → Mu → Nat → Int32 → Int32 → Int32 → Int32 → (Mu → Prop) → Prop) (WX7_line : Nat → Mu → Nat → Int32 → Int32 → Int32 → Int32 → Int32 → Int32 → (Mu → Prop) → Prop) (cB : Nat) (Post : Mu → Prop)  : Nat → Mu → Nat → Nat → Int32 → Int32 → Int32 → Int32 → Int32 → Prop
  | 0 => fun _ _ _ _ _ _ _ _ => False
  | nn118 + 1 => fun mu u v0 v1 v2 v3 v4 v5 => ((3 : Int32) ≤ v5 → u ≤ cB ∧ Post mu) ∧ (¬ (3 : Int32) ≤ v5 → ∃ x4, mB mu v0 = some x4 ∧ ∃ a4, x4.2.2.2.2.2.1 = some a4 ∧ ∃ n5 f5 k5, mQ mu a4 = some (2, n5, f5) ∧ v1 = nI k5 ∧ k5 < n5 ∧ n5 ≤ 1000 ∧ ∃ a5, f5 k5 = some a5 ∧ ∃ x6, mP mu a5 = some x6 ∧ (x6.2.2.1 < 0 → wpX7_paragraph_b153 WX7_paragraph WX7_line cB Post (wpX7_paragraph_L118 WX7_paragraph WX7_line cB Post  nn118) mu u v0 v1 v2 v3 v4 v5) ∧ (¬ x6.2.2.1 < 0 → ∃ x18, mB mu v0 = some x18 ∧ ∃ a18, x18.2.2.2.2.2.1 = some a18 ∧ ∃ n19 f19 k19, mQ mu a18 = some (2, n19, f19) ∧ v1 = nI k19 ∧ k19 < n19 ∧ n19 ≤ 1000 ∧ ∃ a19, f19 k19 = some a19 ∧ ∃ x20, mP mu a19 = some x20 ∧ (x20.2.2.1 = v5 → wpX7_paragraph_b153 WX7_paragraph WX7_line cB Post (wpX7_paragraph_L118 WX7_paragraph WX7_line cB Post  nn118) mu u v0 v1 v2 v3 v4 v5) ∧ (¬ x20.2.2.1 = v5 → wpX7_paragraph_b204 WX7_paragraph WX7_line cB Post (wpX7_paragraph_L118 WX7_paragraph WX7_line cB Post  nn118) mu u v0 v1 v2 v3 v4 v5)))
def wpX7_paragraph_L82 (WX7_paragraph : Nat → Mu → Nat → Int32 → Int32 → Int32 → Int32 → (Mu → Prop) → Prop) (WX7_line : Nat → Mu → Nat → Int32 → Int32 → Int32 → Int32 → Int32 → Int32 → (Mu → Prop) → Prop) (cB : Nat) (Post : Mu → Prop)  : Nat → Mu → Nat → Nat → Int32 → Prop
  | 0 => fun _ _ _ _ => False
  | nn82 + 1 => fun mu u v0 v5 => ∃ x43, mB mu v0 = some x43 ∧ (x43.2.2.2.2.2.2.2.2.2 ≤ v5 → u ≤ cB ∧ Post mu) ∧ (¬ x43.2.2.2.2.2.2.2.2.2 ≤ v5 → ∃ x44, mB mu v0 = some x44 ∧ ∃ a44, x44.2.2.2.2.2.2.1 = some a44 ∧ ∃ x45, mL mu a44 = some x45 ∧ ∃ a45, x45.2.2 = some a45 ∧ ∃ x46, mB mu v0 = some x46 ∧ ∃ a46, x46.2.2.2.2.2.2.2.2.1 = some a46 ∧ ∃ n47 f47 k47, mI mu a46 = some (n47, f47) ∧ v5 = nI k47 ∧ k47 < n47 ∧ n47 ≤ 1000 ∧ ∃ n48 f48 k48, mI mu a45 = some (n48, f48) ∧ v5 = nI k48 ∧ k48 < n48 ∧ n48 ≤ 1000 ∧ ∀ mu49, mu49 = sI mu a45 (n48, upd f48 k48 (f47 k47)) → (wpX7_paragraph_L82 WX7_paragraph WX7_line cB Post  nn82) mu49 u v0 (v5 + (1 : Int32)))
def wpX7_paragraph_b20 (WX7_paragraph : Nat → Mu → Nat → Int32 → Int32 → Int32 → Int32 → (Mu → Prop) → Prop) (WX7_line : Nat → Mu → Nat → Int32 → Int32 → Int32 → Int32 → Int32 → Int32 → (Mu → Prop) → Prop) (cB : Nat) (Post : Mu → Prop)  (mu : Mu) (u : Nat) (v0 : Nat) (v1 : Int32) (v2 : Int32) (v3 : Int32) (v4 : Int32) : Prop := ∃ x2, mB mu v0 = some x2 ∧ ∃ a2, x2.2.2.2.2.2.1 = some a2 ∧ ∃ n3 f3, mQ mu a2 = some (2, n3, f3) ∧ (¬ v1 = (nI n3) → ∃ m_, wpX7_paragraph_L118 WX7_paragraph WX7_line cB Post  m_ mu u v0 v1 v2 v3 v4 (0 : Int32)) ∧ (v1 = (nI n3) → u + 1 ≤ cB ∧ ∀ a21, frM mu a21 → ∀ mu22, mu22 = sL mu a21 (0, none, none) → ∃ q24, (u + 1) + q24 ≤ cB ∧ wpX9_init q24 mu22 a21 (fun mu25 => ∃ x26, mB mu25 v0 = some x26 ∧ ∀ mu27, mu27 = sB mu25 v0 (x26.1, x26.2.1, x26.2.2.1, x26.2.2.2.1, x26.2.2.2.2.1, x26.2.2.2.2.2.1, some a21, x26.2.2.2.2.2.2.2.1, x26.2.2.2.2.2.2.2.2.1, x26.2.2.2.2.2.2.2.2.2) → ∃ x28, mB mu27 v0 = some x28 ∧ ∃ a28, x28.2.2.2.2.2.2.1 = some a28 ∧ ∃ x29, mL mu27 a28 = some x29 ∧ ∀ mu30, mu30 = sL mu27 a28 (v4, x29.2.1, x29.2.2) → ∃ x31, mB mu30 v0 = some x31 ∧ ∃ a31, x31.2.2.2.2.2.2.1 = some a31 ∧ ∃ x32, mB mu30 v0 = some x32 ∧ ∃ a32, x32.2.2.2.2.2.2.2.1 = some a32 ∧ ∃ n33 f33, mI mu30 a32 = some (n33, f33) ∧ n33 ≤ 1000 ∧ ((u + 1) + q24) + (1 + n33 / 16) ≤ cB ∧ ∀ a33, frM mu30 a33 → ∀ mu34, mu34 = sI mu30 a33 (n33, f33) → ∃ x35, mL mu34 a31 = some x35 ∧ ∀ mu36, mu36 = sL mu34 a31 (x35.1, some a33, x35.2.2) → ∃ x37, mB mu36 v0 = some x37 ∧ ∃ a37, x37.2.2.2.2.2.2.1 = some a37 ∧ ∃ x38, mB mu36 v0 = some x38 ∧ ∃ n39, x38.2.2.2.2.2.2.2.2.2 = nI n39 ∧ n39 ≤ 1000 ∧ (((u + 1) + q24) + (1 + n33 / 16)) + (1 + n39 / 16) ≤ cB ∧ ∀ a39, frM mu36 a39 → ∀ mu40, mu40 = sI mu36 a39 (n39, fun _ => 0) → ∃ x41, mL mu40 a37 = some x41 ∧ ∀ mu42, mu42 = sL mu40 a37 (x41.1, x41.2.1, some a39) → ∃ m_, wpX7_paragraph_L82 WX7_paragraph WX7_line cB Post  m_ mu42 ((((u + 1) + q24) + (1 + n33 / 16)) + (1 + n39 / 16)) v0 (0 : Int32)))
def wpX7_paragraph_R (WX7_paragraph : Nat → Mu → Nat → Int32 → Int32 → Int32 → Int32 → (Mu → Prop) → Prop) (WX7_line : Nat → Mu → Nat → Int32 → Int32 → Int32 → Int32 → Int32 → Int32 → (Mu → Prop) → Prop) (cB : Nat) (mu : Mu) (v0 : Nat) (v1 : Int32) (v2 : Int32) (v3 : Int32) (v4 : Int32) (Post : Mu → Prop) : Prop := ∃ x1, mB mu v0 = some x1 ∧ (x1.2.2.2.2.2.2.1 = none → wpX7_paragraph_b20 WX7_paragraph WX7_line cB Post  mu 0 v0 v1 v2 v3 v4) ∧ (¬ x1.2.2.2.2.2.2.1 = none → ∃ x50, mB mu v0 = some x50 ∧ ∃ a50, x50.2.2.2.2.2.2.1 = some a50 ∧ ∃ x51, mL mu a50 = some x51 ∧ (v4 < x51.1 → wpX7_paragraph_b20 WX7_paragraph WX7_line cB Post  mu 0 v0 v1 v2 v3 v4) ∧ (¬ v4 < x51.1 → 0 ≤ cB ∧ Post mu))
set_option maxHeartbeats 4000000 in
set_option maxRecDepth 100000 in
theorem bodyX7_paragraph (l : Launch) (D : va_G) (cA : Nat → ClassId) (f0 k0 : Nat) (WX7_paragraph : Nat → Mu → Nat → Int32 → Int32 → Int32 → Int32 → (Mu → Prop) → Prop) (WX7_line : Nat → Mu → Nat → Int32 → Int32 → Int32 → Int32 → Int32 → Int32 → (Mu → Prop) → Prop) (hRec_X7_paragraph : ∀ (cB : Nat) (mu : Mu) (v0 : Nat) (v1 : Int32) (v2 : Int32) (v3 : Int32) (v4 : Int32) (Post : Mu → Prop), WX7_paragraph cB mu v0 v1 v2 v3 v4 Post → ∀ {w0 ws0 : va_W}, LR cA w0 ws0 mu → ConN l D cA yX7_paragraph (wm yX7_paragraph cX7_paragraph 7 none) { frames := f0, cells := cB, slots := 16 * cB, locals := k0 } ws0 [.ref v0, .int v1, .int v2, .int v3, .int v4] cB (16 * cB) (PV (fun w1 => ∃ m1, LR cA w0 w1 m1 ∧ Post m1))) (hRec_X7_line : ∀ (cB : Nat) (mu : Mu) (v0 : Nat) (v1 : Int32) (v2 : Int32) (v3 : Int32) (v4 : Int32) (v5 : Int32) (v6 : Int32) (Post : Mu → Prop), WX7_line cB mu v0 v1 v2 v3 v4 v5 v6 Post → ∀ {w0 ws0 : va_W}, LR cA w0 ws0 mu → ConN l D cA yX7_line (wm yX7_line cX7_line 8 none) { frames := f0, cells := cB, slots := 16 * cB, locals := k0 } ws0 [.ref v0, .int v1, .int v2, .int v3, .int v4, .int v5, .int v6] cB (16 * cB) (PV (fun w1 => ∃ m1, LR cA w0 w1 m1 ∧ Post m1))) (cB : Nat) (mu : Mu) (v0 : Nat) (v1 : Int32) (v2 : Int32) (v3 : Int32) (v4 : Int32) (Post : Mu → Prop) (H : wpX7_paragraph_R WX7_paragraph WX7_line cB mu v0 v1 v2 v3 v4 Post) {w0 ws0 : va_W} (hR : LR cA w0 ws0 mu) : ConN l D cA yX7_paragraph (wm yX7_paragraph cX7_paragraph 7 none) { frames := f0 + 3, cells := cB, slots := 16 * cB, locals := k0 + 60 } ws0 [.ref v0, .int v1, .int v2, .int v3, .int v4] cB (16 * cB) (PV (fun w1 => ∃ m1, LR cA w0 w1 m1 ∧ Post m1)) := by
  refine ConN.of (by decide) (Nat.le_of_ble_eq_true rfl) ?_
  intro p e s m args below meth c C hF hr hini
  have B204 : ∀ (K118 : Mu → Nat → Nat → Int32 → Int32 → Int32 → Int32 → Int32 → Prop) (hK118 : ∀ (ws : va_W) (mu : Mu) (u : Nat) (v0 : Nat) (v1 : Int32) (v2 : Int32) (v3 : Int32) (v4 : Int32) (v5 : Int32), LR cA w0 ws mu → K118 mu u v0 v1 v2 v3 v4 v5 → Kf p l e { frames := f0 + 3, cells := cB, slots := 16 * cB, locals := k0 + 60 } s m args below meth c D (va_A ws0 s.heap.size) 7 u (16 * u) (MQ below (QC D ws0 s.heap.size (PV (fun w1 => ∃ m1, LR cA w0 w1 m1 ∧ Post m1))) args s cB (16 * cB) (va_A ws0 s.heap.size)) ws 118 [(0, .ref v0), (1, .int v1), (2, .int v2), (3, .int v3), (4, .int v4), (5, .int v5)] []) (ws : va_W) (mu : Mu) (u : Nat) (v0 : Nat) (v1 : Int32) (v2 : Int32) (v3 : Int32) (v4 : Int32) (v5 : Int32), LR cA w0 ws mu → wpX7_paragraph_b204 WX7_paragraph WX7_line cB Post K118 mu u v0 v1 v2 v3 v4 v5 → Kf p l e { frames := f0 + 3, cells := cB, slots := 16 * cB, locals := k0 + 60 } s m args below meth c D (va_A ws0 s.heap.size) 7 u (16 * u) (MQ below (QC D ws0 s.heap.size (PV (fun w1 => ∃ m1, LR cA w0 w1 m1 ∧ Post m1))) args s cB (16 * cB) (va_A ws0 s.heap.size)) ws 204 [(0, .ref v0), (1, .int v1), (2, .int v2), (3, .int v3), (4, .int v4), (5, .int v5)] [] := by
    intro K118 hK118 ws mu u v0 v1 v2 v3 v4 v5 hR H
    have H : K118 mu u v0 v1 v2 v3 v4 (v5 + (1 : Int32)) := H
    refine k_iinc C (pc := 204) (k := 5) (v := v5 + (1 : Int32)) dX7_paragraph_204 rfl rfl (Nat.lt_of_lt_of_le (Nat.lt_succ_self _) (Nat.le_of_ble_eq_true rfl)) (lv' := [(5, .int (v5 + (1 : Int32))), (0, .ref v0), (1, .int v1), (2, .int v2), (3, .int v3), (4, .int v4)]) rfl ?_
    refine k_goto C (pc := 207) (tgt := 118) dX7_paragraph_207 (by decide) ?_
    refine k_lv (pc := 118) [1, 2, 3, 4, 5, 0] (lv' := [(0, .ref v0), (1, .int v1), (2, .int v2), (3, .int v3), (4, .int v4), (5, .int (v5 + (1 : Int32)))]) rfl ?_
    exact hK118 _ mu u v0 v1 v2 v3 v4 (v5 + (1 : Int32)) hR H
  have B200 : ∀ (K118 : Mu → Nat → Nat → Int32 → Int32 → Int32 → Int32 → Int32 → Prop) (hK118 : ∀ (ws : va_W) (mu : Mu) (u : Nat) (v0 : Nat) (v1 : Int32) (v2 : Int32) (v3 : Int32) (v4 : Int32) (v5 : Int32), LR cA w0 ws mu → K118 mu u v0 v1 v2 v3 v4 v5 → Kf p l e { frames := f0 + 3, cells := cB, slots := 16 * cB, locals := k0 + 60 } s m args below meth c D (va_A ws0 s.heap.size) 7 u (16 * u) (MQ below (QC D ws0 s.heap.size (PV (fun w1 => ∃ m1, LR cA w0 w1 m1 ∧ Post m1))) args s cB (16 * cB) (va_A ws0 s.heap.size)) ws 118 [(0, .ref v0), (1, .int v1), (2, .int v2), (3, .int v3), (4, .int v4), (5, .int v5)] []) (ws : va_W) (mu : Mu) (u : Nat) (v0 : Nat) (v1 : Int32) (v2 : Int32) (v3 : Int32) (v4 : Int32) (v5 : Int32) (s0 : Nat) (s1 : Int32) (s2 : Int32) (s3 : Int32) (s4 : Int32) (s5 : Int32) (s6 : Int32) (s7 : Int32), LR cA w0 ws mu → wpX7_paragraph_b200 WX7_paragraph WX7_line cB Post K118 mu u v0 v1 v2 v3 v4 v5 s0 s1 s2 s3 s4 s5 s6 s7 → Kf p l e { frames := f0 + 3, cells := cB, slots := 16 * cB, locals := k0 + 60 } s m args below meth c D (va_A ws0 s.heap.size) 7 u (16 * u) (MQ below (QC D ws0 s.heap.size (PV (fun w1 => ∃ m1, LR cA w0 w1 m1 ∧ Post m1))) args s cB (16 * cB) (va_A ws0 s.heap.size)) ws 200 [(0, .ref v0), (1, .int v1), (2, .int v2), (3, .int v3), (4, .int v4), (5, .int v5)] [.int s7, .int s6, .int s5, .int s4, .int s3, .int s2, .int s1, .ref s0] := by
    intro K118 hK118 ws mu u v0 v1 v2 v3 v4 v5 s0 s1 s2 s3 s4 s5 s6 s7 hR H
    have H : ∃ x14, mB mu s0 = some x14 ∧ ∃ q16, u + q16 ≤ cB ∧ WX7_line q16 mu s0 s1 s2 s3 s4 s5 (s6 + s7) (fun mu17 => wpX7_paragraph_b204 WX7_paragraph WX7_line cB Post K118 mu17 (u + q16) v0 v1 v2 v3 v4 v5) := H
    refine k_iadd C (pc := 200) dX7_paragraph_200 ?_
    obtain ⟨x14, hx14, H⟩ := H
    obtain ⟨i14, hi14⟩ := List.getElem?_of_mem (hR.B hx14)
    obtain ⟨q16, hc_, H⟩ := H
    refine k_callAv C (pc := 201) (l_runV C hF (As := [.int s1, .int s2, .int s3, .int s4, .int s5, .int (s6 + s7)]) (rest := []) (ci := 7) (q0 := i14) (hRec_X7_line q16 mu s0 s1 s2 s3 s4 s5 (s6 + s7) _  H hR) ⟨k_cwB C tW_6_107 tW_6_104 tW_1_9 okX7_line rfl rfl ⟨(by show f0 + 1 ≤ f0 + 3; omega), (by show 8 + (8 + 11) + k0 ≤ k0 + 60; omega)⟩, C.w tW_6_106, C.w tW_0_10⟩ hi14 rfl rfl rfl rfl (Nat.le_of_ble_eq_true rfl) dX7_paragraph_201 ⟨hc_, by show 16 * (u) + 16 * q16 ≤ 16 * cB; omega⟩) (fun w1 hw_ => ?_)
    obtain ⟨mu17, hR, H⟩ := hw_
    refine k_sl ?_
    refine k_lv (pc := 204) [0, 1, 2, 3, 4, 5] (lv' := [(0, .ref v0), (1, .int v1), (2, .int v2), (3, .int v3), (4, .int v4), (5, .int v5)]) rfl ?_
    exact B204 K118 hK118 _ mu17 (u + q16) v0 v1 v2 v3 v4 v5 hR H
  have B153 : ∀ (K118 : Mu → Nat → Nat → Int32 → Int32 → Int32 → Int32 → Int32 → Prop) (hK118 : ∀ (ws : va_W) (mu : Mu) (u : Nat) (v0 : Nat) (v1 : Int32) (v2 : Int32) (v3 : Int32) (v4 : Int32) (v5 : Int32), LR cA w0 ws mu → K118 mu u v0 v1 v2 v3 v4 v5 → Kf p l e { frames := f0 + 3, cells := cB, slots := 16 * cB, locals := k0 + 60 } s m args below meth c D (va_A ws0 s.heap.size) 7 u (16 * u) (MQ below (QC D ws0 s.heap.size (PV (fun w1 => ∃ m1, LR cA w0 w1 m1 ∧ Post m1))) args s cB (16 * cB) (va_A ws0 s.heap.size)) ws 118 [(0, .ref v0), (1, .int v1), (2, .int v2), (3, .int v3), (4, .int v4), (5, .int v5)] []) (ws : va_W) (mu : Mu) (u : Nat) (v0 : Nat) (v1 : Int32) (v2 : Int32) (v3 : Int32) (v4 : Int32) (v5 : Int32), LR cA w0 ws mu → wpX7_paragraph_b153 WX7_paragraph WX7_line cB Post K118 mu u v0 v1 v2 v3 v4 v5 → Kf p l e { frames := f0 + 3, cells := cB, slots := 16 * cB, locals := k0 + 60 } s m args below meth c D (va_A ws0 s.heap.size) 7 u (16 * u) (MQ below (QC D ws0 s.heap.size (PV (fun w1 => ∃ m1, LR cA w0 w1 m1 ∧ Post m1))) args s cB (16 * cB) (va_A ws0 s.heap.size)) ws 153 [(0, .ref v0), (1, .int v1), (2, .int v2), (3, .int v3), (4, .int v4), (5, .int v5)] [] := by
    intro K118 hK118 ws mu u v0 v1 v2 v3 v4 v5 hR H
    have H : ∃ x7, mB mu v0 = some x7 ∧ ∃ a7, x7.2.2.2.2.2.2.2.1 = some a7 ∧ ∃ n8 f8 k8, mI mu a7 = some (n8, f8) ∧ v1 = nI k8 ∧ k8 < n8 ∧ n8 ≤ 1000 ∧ ∀ mu9, mu9 = sI mu a7 (n8, upd f8 k8 v5) → ∃ x10, mB mu9 v0 = some x10 ∧ u ≤ cB ∧ wpX7_many mu9 v0 v1 v5 (fun r11 => (¬ v5 = 0 → ∃ x12, mB mu9 v0 = some x12 ∧ ∃ a12, x12.2.2.2.2.1 = some a12 ∧ ∃ n13 f13 k13, mI mu9 a12 = some (n13, f13) ∧ v5 - (1 : Int32) = nI k13 ∧ k13 < n13 ∧ n13 ≤ 1000 ∧ wpX7_paragraph_b200 WX7_paragraph WX7_line cB Post K118 mu9 u v0 v1 v2 v3 v4 v5 v0 v1 (0 : Int32) r11 v2 v3 v4 (r11 * (f13 k13))) ∧ (v5 = 0 → wpX7_paragraph_b200 WX7_paragraph WX7_line cB Post K118 mu9 u v0 v1 v2 v3 v4 v5 v0 v1 (0 : Int32) r11 v2 v3 v4 (0 : Int32))) := H
    refine k_aload_n C 0 (pc := 153) dX7_paragraph_153 rfl rfl ?_
    obtain ⟨x7, hx7, H⟩ := H
    obtain ⟨a7, ha7, H⟩ := H
    refine l_getB C hR (pc := 154) hx7 7 (Nat.lt_of_lt_of_le (Nat.lt_succ_self _) (Nat.le_of_ble_eq_true rfl)) (ref := "WidowWatchLaw$Book") tW_2_75 rfl (v := .ref a7) (by show some (va_rf x7.2.2.2.2.2.2.2.1) = _; rw [ha7]; rfl) dX7_paragraph_154 ?_
    refine k_iload_n C 1 (pc := 157) dX7_paragraph_157 rfl rfl ?_
    refine k_iload C 5 (pc := 158) dX7_paragraph_158 rfl ?_
    obtain ⟨n8, f8, k8, hx_, hk_, hl_, hn_, H⟩ := H
    refine k_eq (pc := 160) (st' := [.int v5, .int (nI k8), .ref a7]) rfl rfl (by rw [hk_]) ?_
    refine l_iast C hR (pc := 160) hx_ hl_ hn_ dX7_paragraph_160 (fun w1 hR => ?_)
    obtain ⟨mu9, hm9⟩ : ∃ m_, m_ = sI mu a7 (n8, upd f8 k8 v5) := ⟨_, rfl⟩
    rw [← hm9] at hR
    have H := H mu9 hm9
    refine k_aload_n C 0 (pc := 161) dX7_paragraph_161 rfl rfl ?_
    refine k_iload_n C 1 (pc := 162) dX7_paragraph_162 rfl rfl ?_
    refine k_iload C 5 (pc := 163) dX7_paragraph_163 rfl ?_
    obtain ⟨x10, hx10, H⟩ := H
    obtain ⟨i10, hi10⟩ := List.getElem?_of_mem (hR.B hx10)
    obtain ⟨hc_, H⟩ := H
    refine k_callAi C (pc := 165) (l_runV C hF (As := [.int v1, .int v5]) (rest := []) (ci := 7) (q0 := i10) (conX7_many l D cA mu9 v0 v1 v5 _  H hR) ⟨k_cwB C tW_2_154 tW_6_103 tW_1_9 okX7_many rfl rfl ⟨(by show 0 + 1 ≤ f0 + 3; omega), (by show 8 + (11 + 11) + 0 ≤ k0 + 60; omega)⟩, C.w tW_2_152, C.w tW_2_153⟩ hi10 rfl rfl rfl rfl (Nat.le_of_ble_eq_true rfl) dX7_paragraph_165 ⟨hc_, (by show 16 * (u) + 0 ≤ 16 * cB; omega)⟩) (fun r11 w1 hw_ => ?_)
    obtain ⟨rfl, H⟩ := hw_
    refine k_istore C (pc := 168) dX7_paragraph_168 (Nat.lt_of_lt_of_le (Nat.lt_succ_self _) (Nat.le_of_ble_eq_true rfl)) (lv' := [(6, .int r11), (0, .ref v0), (1, .int v1), (2, .int v2), (3, .int v3), (4, .int v4), (5, .int v5)]) rfl ?_
    refine k_aload_n C 1 (pc := 170) dX7_paragraph_170 rfl rfl ?_
    refine k_iload_n C 2 (pc := 171) dX7_paragraph_171 rfl rfl ?_
    refine k_iconst C (pc := 172) (v := (0 : Int32)) dX7_paragraph_172 rfl ?_
    refine k_iload C 0 (pc := 173) dX7_paragraph_173 rfl ?_
    refine k_iload_n C 3 (pc := 175) dX7_paragraph_175 rfl rfl ?_
    refine k_iload_n C 4 (pc := 176) dX7_paragraph_176 rfl rfl ?_
    refine k_iload C 5 (pc := 177) dX7_paragraph_177 rfl ?_
    refine k_iload C 6 (pc := 179) dX7_paragraph_179 rfl ?_
    refine k_if_ne C (pc := 181) (tgt := 188) dX7_paragraph_181 (by decide) (fun c_181 => ?_) (fun c_181 => ?_)
    · have H := H.1 c_181
      refine k_iload C 0 (pc := 188) dX7_paragraph_188 rfl ?_
      refine k_aload_n C 1 (pc := 190) dX7_paragraph_190 rfl rfl ?_
      obtain ⟨x12, hx12, H⟩ := H
      obtain ⟨a12, ha12, H⟩ := H
      refine l_getB C hR (pc := 191) hx12 4 (Nat.lt_of_lt_of_le (Nat.lt_succ_self _) (Nat.le_of_ble_eq_true rfl)) (ref := "WidowWatchLaw$Book") tW_2_70 rfl (v := .ref a12) (by show some (va_rf x12.2.2.2.2.1) = _; rw [ha12]; rfl) dX7_paragraph_191 ?_
      refine k_iload C 6 (pc := 194) dX7_paragraph_194 rfl ?_
      refine k_iconst C (pc := 196) (v := (1 : Int32)) dX7_paragraph_196 rfl ?_
      refine k_isub C (pc := 197) dX7_paragraph_197 ?_
      obtain ⟨n13, f13, k13, hx_, hk_, hl_, hn_, H⟩ := H
      refine k_eq (pc := 198) (st' := [.int (nI k13), .ref a12, .int r11, .int v4, .int v3, .int v2, .int r11, .int (0 : Int32), .int v1, .ref v0]) rfl rfl (by rw [hk_]) ?_
      refine l_iald C hR (pc := 198) hx_ hl_ hn_ dX7_paragraph_198 ?_
      refine k_imul C (pc := 199) dX7_paragraph_199 ?_
      refine k_lv (pc := 200) [1, 2, 3, 4, 5, 6] (lv' := [(0, .ref v0), (1, .int v1), (2, .int v2), (3, .int v3), (4, .int v4), (5, .int v5)]) rfl ?_
      exact B200 K118 hK118 _ mu9 u v0 v1 v2 v3 v4 v5 v0 v1 (0 : Int32) r11 v2 v3 v4 (r11 * (f13 k13)) hR H
    · have H := H.2 c_181
      refine k_iconst C (pc := 184) (v := (0 : Int32)) dX7_paragraph_184 rfl ?_
      refine k_goto C (pc := 185) (tgt := 200) dX7_paragraph_185 (by decide) ?_
      refine k_lv (pc := 200) [1, 2, 3, 4, 5, 6] (lv' := [(0, .ref v0), (1, .int v1), (2, .int v2), (3, .int v3), (4, .int v4), (5, .int v5)]) rfl ?_
      exact B200 K118 hK118 _ mu9 u v0 v1 v2 v3 v4 v5 v0 v1 (0 : Int32) r11 v2 v3 v4 (0 : Int32) hR H
  have B118 : ∀  (n : Nat) (ws : va_W) (mu : Mu) (u : Nat) (v0 : Nat) (v1 : Int32) (v2 : Int32) (v3 : Int32) (v4 : Int32) (v5 : Int32), LR cA w0 ws mu → wpX7_paragraph_L118 WX7_paragraph WX7_line cB Post  n mu u v0 v1 v2 v3 v4 v5 → Kf p l e { frames := f0 + 3, cells := cB, slots := 16 * cB, locals := k0 + 60 } s m args below meth c D (va_A ws0 s.heap.size) 7 u (16 * u) (MQ below (QC D ws0 s.heap.size (PV (fun w1 => ∃ m1, LR cA w0 w1 m1 ∧ Post m1))) args s cB (16 * cB) (va_A ws0 s.heap.size)) ws 118 [(0, .ref v0), (1, .int v1), (2, .int v2), (3, .int v3), (4, .int v4), (5, .int v5)] [] := by
    intro  n
    induction n with
    | zero =>
      intro ws mu u v0 v1 v2 v3 v4 v5 hR H
      exact H.elim
    | succ nn118 ih118 =>
      intro ws mu u v0 v1 v2 v3 v4 v5 hR H
      have H : ((3 : Int32) ≤ v5 → u ≤ cB ∧ Post mu) ∧ (¬ (3 : Int32) ≤ v5 → ∃ x4, mB mu v0 = some x4 ∧ ∃ a4, x4.2.2.2.2.2.1 = some a4 ∧ ∃ n5 f5 k5, mQ mu a4 = some (2, n5, f5) ∧ v1 = nI k5 ∧ k5 < n5 ∧ n5 ≤ 1000 ∧ ∃ a5, f5 k5 = some a5 ∧ ∃ x6, mP mu a5 = some x6 ∧ (x6.2.2.1 < 0 → wpX7_paragraph_b153 WX7_paragraph WX7_line cB Post (wpX7_paragraph_L118 WX7_paragraph WX7_line cB Post  nn118) mu u v0 v1 v2 v3 v4 v5) ∧ (¬ x6.2.2.1 < 0 → ∃ x18, mB mu v0 = some x18 ∧ ∃ a18, x18.2.2.2.2.2.1 = some a18 ∧ ∃ n19 f19 k19, mQ mu a18 = some (2, n19, f19) ∧ v1 = nI k19 ∧ k19 < n19 ∧ n19 ≤ 1000 ∧ ∃ a19, f19 k19 = some a19 ∧ ∃ x20, mP mu a19 = some x20 ∧ (x20.2.2.1 = v5 → wpX7_paragraph_b153 WX7_paragraph WX7_line cB Post (wpX7_paragraph_L118 WX7_paragraph WX7_line cB Post  nn118) mu u v0 v1 v2 v3 v4 v5) ∧ (¬ x20.2.2.1 = v5 → wpX7_paragraph_b204 WX7_paragraph WX7_line cB Post (wpX7_paragraph_L118 WX7_paragraph WX7_line cB Post  nn118) mu u v0 v1 v2 v3 v4 v5))) := H
      refine k_iload C 5 (pc := 118) dX7_paragraph_118 rfl ?_
      refine k_iconst C (pc := 120) (v := (3 : Int32)) dX7_paragraph_120 rfl ?_
      refine k_icmp_ge C (pc := 121) (tgt := 210) dX7_paragraph_121 (by decide) (fun c_121 => ?_) (fun c_121 => ?_)
      · have H := H.1 c_121
        obtain ⟨hc_, H⟩ := H
        refine k_widen (k := cB) (n := 16 * cB) hc_ (Nat.mul_le_mul_left 16 hc_) ?_
        exact k_vret C (pc := 210) hr dX7_paragraph_210 ⟨mu, hR, H⟩
      · have H := H.2 c_121
        refine k_aload_n C 0 (pc := 124) dX7_paragraph_124 rfl rfl ?_
        obtain ⟨x4, hx4, H⟩ := H
        obtain ⟨a4, ha4, H⟩ := H
        refine l_getB C hR (pc := 125) hx4 5 (Nat.lt_of_lt_of_le (Nat.lt_succ_self _) (Nat.le_of_ble_eq_true rfl)) (ref := "WidowWatchLaw$Book") tW_2_72 rfl (v := .ref a4) (by show some (va_rf x4.2.2.2.2.2.1) = _; rw [ha4]; rfl) dX7_paragraph_125 ?_
        refine k_iload_n C 1 (pc := 128) dX7_paragraph_128 rfl rfl ?_
        obtain ⟨n5, f5, k5, hx_, hk_, hl_, hn_, H⟩ := H
        refine k_eq (pc := 129) (st' := [.int (nI k5), .ref a4]) rfl rfl (by rw [hk_]) ?_
        obtain ⟨a5, ha5, H⟩ := H
        refine l_aald C hR (pc := 129) (Or.inl rfl) hx_ hl_ hn_ dX7_paragraph_129 ?_
        refine k_eq (pc := 130) (st' := [.ref a5]) rfl rfl (by rw [ha5]; rfl) ?_
        obtain ⟨x6, hx6, H⟩ := H
        refine l_getP C hR (pc := 130) hx6 2 (Nat.lt_of_lt_of_le (Nat.lt_succ_self _) (Nat.le_of_ble_eq_true rfl)) (ref := "WidowWatchLaw$Para") tW_2_129 rfl (v := .int x6.2.2.1) rfl dX7_paragraph_130 ?_
        refine k_if_lt C (pc := 133) (tgt := 153) dX7_paragraph_133 (by decide) (fun c_133 => ?_) (fun c_133 => ?_)
        · have H := H.1 c_133
          refine k_lv (pc := 153) [0, 1, 2, 3, 4, 5] (lv' := [(0, .ref v0), (1, .int v1), (2, .int v2), (3, .int v3), (4, .int v4), (5, .int v5)]) rfl ?_
          exact B153 (wpX7_paragraph_L118 WX7_paragraph WX7_line cB Post  nn118) ih118 _ mu u v0 v1 v2 v3 v4 v5 hR H
        · have H := H.2 c_133
          refine k_aload_n C 0 (pc := 136) dX7_paragraph_136 rfl rfl ?_
          obtain ⟨x18, hx18, H⟩ := H
          obtain ⟨a18, ha18, H⟩ := H
          refine l_getB C hR (pc := 137) hx18 5 (Nat.lt_of_lt_of_le (Nat.lt_succ_self _) (Nat.le_of_ble_eq_true rfl)) (ref := "WidowWatchLaw$Book") tW_2_72 rfl (v := .ref a18) (by show some (va_rf x18.2.2.2.2.2.1) = _; rw [ha18]; rfl) dX7_paragraph_137 ?_
          refine k_iload_n C 1 (pc := 140) dX7_paragraph_140 rfl rfl ?_
          obtain ⟨n19, f19, k19, hx_, hk_, hl_, hn_, H⟩ := H
          refine k_eq (pc := 141) (st' := [.int (nI k19), .ref a18]) rfl rfl (by rw [hk_]) ?_
          obtain ⟨a19, ha19, H⟩ := H
          refine l_aald C hR (pc := 141) (Or.inl rfl) hx_ hl_ hn_ dX7_paragraph_141 ?_
          refine k_eq (pc := 142) (st' := [.ref a19]) rfl rfl (by rw [ha19]; rfl) ?_
          obtain ⟨x20, hx20, H⟩ := H
          refine l_getP C hR (pc := 142) hx20 2 (Nat.lt_of_lt_of_le (Nat.lt_succ_self _) (Nat.le_of_ble_eq_true rfl)) (ref := "WidowWatchLaw$Para") tW_2_129 rfl (v := .int x20.2.2.1) rfl dX7_paragraph_142 ?_
          refine k_iload C 5 (pc := 145) dX7_paragraph_145 rfl ?_
          refine k_icmp_eq C (pc := 147) (tgt := 153) dX7_paragraph_147 (by decide) (fun c_147 => ?_) (fun c_147 => ?_)
          · have H := H.1 c_147
            refine k_lv (pc := 153) [0, 1, 2, 3, 4, 5] (lv' := [(0, .ref v0), (1, .int v1), (2, .int v2), (3, .int v3), (4, .int v4), (5, .int v5)]) rfl ?_
            exact B153 (wpX7_paragraph_L118 WX7_paragraph WX7_line cB Post  nn118) ih118 _ mu u v0 v1 v2 v3 v4 v5 hR H
          · have H := H.2 c_147
            refine k_goto C (pc := 150) (tgt := 204) dX7_paragraph_150 (by decide) ?_
            refine k_lv (pc := 204) [0, 1, 2, 3, 4, 5] (lv' := [(0, .ref v0), (1, .int v1), (2, .int v2), (3, .int v3), (4, .int v4), (5, .int v5)]) rfl ?_
            exact B204 (wpX7_paragraph_L118 WX7_paragraph WX7_line cB Post  nn118) ih118 _ mu u v0 v1 v2 v3 v4 v5 hR H
  have B82 : ∀  (n : Nat) (ws : va_W) (mu : Mu) (u : Nat) (v0 : Nat) (v5 : Int32), LR cA w0 ws mu → wpX7_paragraph_L82 WX7_paragraph WX7_line cB Post  n mu u v0 v5 → Kf p l e { frames := f0 + 3, cells := cB, slots := 16 * cB, locals := k0 + 60 } s m args below meth c D (va_A ws0 s.heap.size) 7 u (16 * u) (MQ below (QC D ws0 s.heap.size (PV (fun w1 => ∃ m1, LR cA w0 w1 m1 ∧ Post m1))) args s cB (16 * cB) (va_A ws0 s.heap.size)) ws 82 [(0, .ref v0), (5, .int v5)] [] := by
    intro  n
    induction n with
    | zero =>
      intro ws mu u v0 v5 hR H
      exact H.elim
    | succ nn82 ih82 =>
      intro ws mu u v0 v5 hR H
      have H : ∃ x43, mB mu v0 = some x43 ∧ (x43.2.2.2.2.2.2.2.2.2 ≤ v5 → u ≤ cB ∧ Post mu) ∧ (¬ x43.2.2.2.2.2.2.2.2.2 ≤ v5 → ∃ x44, mB mu v0 = some x44 ∧ ∃ a44, x44.2.2.2.2.2.2.1 = some a44 ∧ ∃ x45, mL mu a44 = some x45 ∧ ∃ a45, x45.2.2 = some a45 ∧ ∃ x46, mB mu v0 = some x46 ∧ ∃ a46, x46.2.2.2.2.2.2.2.2.1 = some a46 ∧ ∃ n47 f47 k47, mI mu a46 = some (n47, f47) ∧ v5 = nI k47 ∧ k47 < n47 ∧ n47 ≤ 1000 ∧ ∃ n48 f48 k48, mI mu a45 = some (n48, f48) ∧ v5 = nI k48 ∧ k48 < n48 ∧ n48 ≤ 1000 ∧ ∀ mu49, mu49 = sI mu a45 (n48, upd f48 k48 (f47 k47)) → (wpX7_paragraph_L82 WX7_paragraph WX7_line cB Post  nn82) mu49 u v0 (v5 + (1 : Int32))) := H
      refine k_iload C 1 (pc := 82) dX7_paragraph_82 rfl ?_
      refine k_aload_n C 0 (pc := 84) dX7_paragraph_84 rfl rfl ?_
      obtain ⟨x43, hx43, H⟩ := H
      refine l_getB C hR (pc := 85) hx43 9 (Nat.lt_of_lt_of_le (Nat.lt_succ_self _) (Nat.le_of_ble_eq_true rfl)) (ref := "WidowWatchLaw$Book") tW_2_77 rfl (v := .int x43.2.2.2.2.2.2.2.2.2) rfl dX7_paragraph_85 ?_
      refine k_icmp_ge C (pc := 88) (tgt := 114) dX7_paragraph_88 (by decide) (fun c_88 => ?_) (fun c_88 => ?_)
      · have H := H.1 c_88
        obtain ⟨hc_, H⟩ := H
        refine k_widen (k := cB) (n := 16 * cB) hc_ (Nat.mul_le_mul_left 16 hc_) ?_
        exact k_vret C (pc := 114) hr dX7_paragraph_114 ⟨mu, hR, H⟩
      · have H := H.2 c_88
        refine k_aload_n C 0 (pc := 91) dX7_paragraph_91 rfl rfl ?_
        obtain ⟨x44, hx44, H⟩ := H
        obtain ⟨a44, ha44, H⟩ := H
        refine l_getB C hR (pc := 92) hx44 6 (Nat.lt_of_lt_of_le (Nat.lt_succ_self _) (Nat.le_of_ble_eq_true rfl)) (ref := "WidowWatchLaw$Book") tW_2_74 rfl (v := .ref a44) (by show some (va_rf x44.2.2.2.2.2.2.1) = _; rw [ha44]; rfl) dX7_paragraph_92 ?_
        obtain ⟨x45, hx45, H⟩ := H
        obtain ⟨a45, ha45, H⟩ := H
        refine l_getL C hR (pc := 95) hx45 2 (Nat.lt_of_lt_of_le (Nat.lt_succ_self _) (Nat.le_of_ble_eq_true rfl)) (ref := "WidowWatchLaw$Plan") tW_6_95 rfl (v := .ref a45) (by show some (va_rf x45.2.2) = _; rw [ha45]; rfl) dX7_paragraph_95 ?_
        refine k_iload C 1 (pc := 98) dX7_paragraph_98 rfl ?_
        refine k_aload_n C 0 (pc := 100) dX7_paragraph_100 rfl rfl ?_
        obtain ⟨x46, hx46, H⟩ := H
        obtain ⟨a46, ha46, H⟩ := H
        refine l_getB C hR (pc := 101) hx46 8 (Nat.lt_of_lt_of_le (Nat.lt_succ_self _) (Nat.le_of_ble_eq_true rfl)) (ref := "WidowWatchLaw$Book") tW_2_76 rfl (v := .ref a46) (by show some (va_rf x46.2.2.2.2.2.2.2.2.1) = _; rw [ha46]; rfl) dX7_paragraph_101 ?_
        refine k_iload C 1 (pc := 104) dX7_paragraph_104 rfl ?_
        obtain ⟨n47, f47, k47, hx_, hk_, hl_, hn_, H⟩ := H
        refine k_eq (pc := 106) (st' := [.int (nI k47), .ref a46, .int v5, .ref a45]) rfl rfl (by rw [hk_]) ?_
        refine l_iald C hR (pc := 106) hx_ hl_ hn_ dX7_paragraph_106 ?_
        obtain ⟨n48, f48, k48, hx_, hk_, hl_, hn_, H⟩ := H
        refine k_eq (pc := 107) (st' := [.int (f47 k47), .int (nI k48), .ref a45]) rfl rfl (by rw [hk_]) ?_
        refine l_iast C hR (pc := 107) hx_ hl_ hn_ dX7_paragraph_107 (fun w1 hR => ?_)
        obtain ⟨mu49, hm49⟩ : ∃ m_, m_ = sI mu a45 (n48, upd f48 k48 (f47 k47)) := ⟨_, rfl⟩
        rw [← hm49] at hR
        have H := H mu49 hm49
        refine k_iinc C (pc := 108) (k := 1) (v := v5 + (1 : Int32)) dX7_paragraph_108 rfl rfl (Nat.lt_of_lt_of_le (Nat.lt_succ_self _) (Nat.le_of_ble_eq_true rfl)) (lv' := [(5, .int (v5 + (1 : Int32))), (0, .ref v0)]) rfl ?_
        refine k_goto C (pc := 111) (tgt := 82) dX7_paragraph_111 (by decide) ?_
        refine k_lv (pc := 82) [1, 0] (lv' := [(0, .ref v0), (5, .int (v5 + (1 : Int32)))]) rfl ?_
        exact ih82 _ mu49 u v0 (v5 + (1 : Int32)) hR H
  have B20 : ∀  (ws : va_W) (mu : Mu) (u : Nat) (v0 : Nat) (v1 : Int32) (v2 : Int32) (v3 : Int32) (v4 : Int32), LR cA w0 ws mu → wpX7_paragraph_b20 WX7_paragraph WX7_line cB Post  mu u v0 v1 v2 v3 v4 → Kf p l e { frames := f0 + 3, cells := cB, slots := 16 * cB, locals := k0 + 60 } s m args below meth c D (va_A ws0 s.heap.size) 7 u (16 * u) (MQ below (QC D ws0 s.heap.size (PV (fun w1 => ∃ m1, LR cA w0 w1 m1 ∧ Post m1))) args s cB (16 * cB) (va_A ws0 s.heap.size)) ws 20 [(0, .ref v0), (1, .int v1), (2, .int v2), (3, .int v3), (4, .int v4)] [] := by
    intro  ws mu u v0 v1 v2 v3 v4 hR H
    have H : ∃ x2, mB mu v0 = some x2 ∧ ∃ a2, x2.2.2.2.2.2.1 = some a2 ∧ ∃ n3 f3, mQ mu a2 = some (2, n3, f3) ∧ (¬ v1 = (nI n3) → ∃ m_, wpX7_paragraph_L118 WX7_paragraph WX7_line cB Post  m_ mu u v0 v1 v2 v3 v4 (0 : Int32)) ∧ (v1 = (nI n3) → u + 1 ≤ cB ∧ ∀ a21, frM mu a21 → ∀ mu22, mu22 = sL mu a21 (0, none, none) → ∃ q24, (u + 1) + q24 ≤ cB ∧ wpX9_init q24 mu22 a21 (fun mu25 => ∃ x26, mB mu25 v0 = some x26 ∧ ∀ mu27, mu27 = sB mu25 v0 (x26.1, x26.2.1, x26.2.2.1, x26.2.2.2.1, x26.2.2.2.2.1, x26.2.2.2.2.2.1, some a21, x26.2.2.2.2.2.2.2.1, x26.2.2.2.2.2.2.2.2.1, x26.2.2.2.2.2.2.2.2.2) → ∃ x28, mB mu27 v0 = some x28 ∧ ∃ a28, x28.2.2.2.2.2.2.1 = some a28 ∧ ∃ x29, mL mu27 a28 = some x29 ∧ ∀ mu30, mu30 = sL mu27 a28 (v4, x29.2.1, x29.2.2) → ∃ x31, mB mu30 v0 = some x31 ∧ ∃ a31, x31.2.2.2.2.2.2.1 = some a31 ∧ ∃ x32, mB mu30 v0 = some x32 ∧ ∃ a32, x32.2.2.2.2.2.2.2.1 = some a32 ∧ ∃ n33 f33, mI mu30 a32 = some (n33, f33) ∧ n33 ≤ 1000 ∧ ((u + 1) + q24) + (1 + n33 / 16) ≤ cB ∧ ∀ a33, frM mu30 a33 → ∀ mu34, mu34 = sI mu30 a33 (n33, f33) → ∃ x35, mL mu34 a31 = some x35 ∧ ∀ mu36, mu36 = sL mu34 a31 (x35.1, some a33, x35.2.2) → ∃ x37, mB mu36 v0 = some x37 ∧ ∃ a37, x37.2.2.2.2.2.2.1 = some a37 ∧ ∃ x38, mB mu36 v0 = some x38 ∧ ∃ n39, x38.2.2.2.2.2.2.2.2.2 = nI n39 ∧ n39 ≤ 1000 ∧ (((u + 1) + q24) + (1 + n33 / 16)) + (1 + n39 / 16) ≤ cB ∧ ∀ a39, frM mu36 a39 → ∀ mu40, mu40 = sI mu36 a39 (n39, fun _ => 0) → ∃ x41, mL mu40 a37 = some x41 ∧ ∀ mu42, mu42 = sL mu40 a37 (x41.1, x41.2.1, some a39) → ∃ m_, wpX7_paragraph_L82 WX7_paragraph WX7_line cB Post  m_ mu42 ((((u + 1) + q24) + (1 + n33 / 16)) + (1 + n39 / 16)) v0 (0 : Int32))) := H
    refine k_iload_n C 1 (pc := 20) dX7_paragraph_20 rfl rfl ?_
    refine k_aload_n C 0 (pc := 21) dX7_paragraph_21 rfl rfl ?_
    obtain ⟨x2, hx2, H⟩ := H
    obtain ⟨a2, ha2, H⟩ := H
    refine l_getB C hR (pc := 22) hx2 5 (Nat.lt_of_lt_of_le (Nat.lt_succ_self _) (Nat.le_of_ble_eq_true rfl)) (ref := "WidowWatchLaw$Book") tW_2_72 rfl (v := .ref a2) (by show some (va_rf x2.2.2.2.2.2.1) = _; rw [ha2]; rfl) dX7_paragraph_22 ?_
    obtain ⟨n3, f3, hx_, H⟩ := H
    refine l_alenQ C hR (pc := 25) (Or.inl rfl) hx_ dX7_paragraph_25 ?_
    refine k_icmp_ne C (pc := 26) (tgt := 115) dX7_paragraph_26 (by decide) (fun c_26 => ?_) (fun c_26 => ?_)
    · have H := H.1 c_26
      refine k_iconst C (pc := 115) (v := (0 : Int32)) dX7_paragraph_115 rfl ?_
      refine k_istore C (pc := 116) dX7_paragraph_116 (Nat.lt_of_lt_of_le (Nat.lt_succ_self _) (Nat.le_of_ble_eq_true rfl)) (lv' := [(5, .int (0 : Int32)), (0, .ref v0), (1, .int v1), (2, .int v2), (3, .int v3), (4, .int v4)]) rfl ?_
      obtain ⟨n_, H⟩ := H
      refine k_lv (pc := 118) [1, 2, 3, 4, 5, 0] (lv' := [(0, .ref v0), (1, .int v1), (2, .int v2), (3, .int v3), (4, .int v4), (5, .int (0 : Int32))]) rfl ?_
      exact B118  n_ _ mu u v0 v1 v2 v3 v4 (0 : Int32) hR H
    · have H := H.2 c_26
      refine k_aload_n C 0 (pc := 29) dX7_paragraph_29 rfl rfl ?_
      obtain ⟨hc_, H⟩ := H
      refine l_newL C hR (u := u) (pc := 30) tW_6_85 tW_6_86 tW_1_10 hc_ (Nat.mul_le_mul_left 16 hc_) dX7_paragraph_30 (fun a21 w1 hf_ hR => ?_)
      have H := H a21 hf_
      obtain ⟨mu22, hm22⟩ : ∃ m_, m_ = sL mu a21 (0, none, none) := ⟨_, rfl⟩
      rw [← hm22] at hR
      have H := H mu22 hm22
      refine k_dup C (pc := 33) dX7_paragraph_33 rfl ?_
      obtain ⟨q24, hc_, H⟩ := H
      refine k_callAv C (pc := 34) (l_runIN C hF (As := []) (rest := [.ref a21, .ref v0]) (conX9_init l D cA q24 mu22 a21 _  H hR) ⟨k_cwN C tW_6_89 (k_n17 C) tW_1_10 okX9_init rfl rfl ⟨(by show 1 + 1 ≤ f0 + 3; omega), (by show 8 + (1 + 11) + 20 ≤ k0 + 60; omega)⟩, rfl, C.w tW_6_88⟩ rfl rfl (Nat.le_of_ble_eq_true rfl) dX7_paragraph_34 ⟨hc_, by show 16 * (u + 1) + 16 * q24 ≤ 16 * cB; omega⟩) (fun w1 hw_ => ?_)
      obtain ⟨mu25, hR, H⟩ := hw_
      refine k_sl ?_
      obtain ⟨x26, hx26, H⟩ := H
      refine l_putB C hR (pc := 37) hx26 6 (Nat.lt_of_lt_of_le (Nat.lt_succ_self _) (Nat.le_of_ble_eq_true rfl)) (ref := "WidowWatchLaw$Book") tW_2_74 rfl rfl  rfl rfl rfl (x1 := ((x26.1, x26.2.1, x26.2.2.1, x26.2.2.2.1, x26.2.2.2.2.1, x26.2.2.2.2.2.1, some a21, x26.2.2.2.2.2.2.2.1, x26.2.2.2.2.2.2.2.2.1, x26.2.2.2.2.2.2.2.2.2))) rfl dX7_paragraph_37 (fun w1 hR => ?_)
      obtain ⟨mu27, hm27⟩ : ∃ m_, m_ = sB mu25 v0 (x26.1, x26.2.1, x26.2.2.1, x26.2.2.2.1, x26.2.2.2.2.1, x26.2.2.2.2.2.1, some a21, x26.2.2.2.2.2.2.2.1, x26.2.2.2.2.2.2.2.2.1, x26.2.2.2.2.2.2.2.2.2) := ⟨_, rfl⟩
      rw [← hm27] at hR
      have H := H mu27 hm27
      refine k_aload_n C 0 (pc := 40) dX7_paragraph_40 rfl rfl ?_
      obtain ⟨x28, hx28, H⟩ := H
      obtain ⟨a28, ha28, H⟩ := H
      refine l_getB C hR (pc := 41) hx28 6 (Nat.lt_of_lt_of_le (Nat.lt_succ_self _) (Nat.le_of_ble_eq_true rfl)) (ref := "WidowWatchLaw$Book") tW_2_74 rfl (v := .ref a28) (by show some (va_rf x28.2.2.2.2.2.2.1) = _; rw [ha28]; rfl) dX7_paragraph_41 ?_
      refine k_iload C 4 (pc := 44) dX7_paragraph_44 rfl ?_
      obtain ⟨x29, hx29, H⟩ := H
      refine l_putL C hR (pc := 46) hx29 0 (Nat.lt_of_lt_of_le (Nat.lt_succ_self _) (Nat.le_of_ble_eq_true rfl)) (ref := "WidowWatchLaw$Plan") tW_6_91 rfl rfl  (ty := .int) rfl rfl rfl (x1 := ((v4, x29.2.1, x29.2.2))) rfl dX7_paragraph_46 (fun w1 hR => ?_)
      obtain ⟨mu30, hm30⟩ : ∃ m_, m_ = sL mu27 a28 (v4, x29.2.1, x29.2.2) := ⟨_, rfl⟩
      rw [← hm30] at hR
      have H := H mu30 hm30
      refine k_aload_n C 0 (pc := 49) dX7_paragraph_49 rfl rfl ?_
      obtain ⟨x31, hx31, H⟩ := H
      obtain ⟨a31, ha31, H⟩ := H
      refine l_getB C hR (pc := 50) hx31 6 (Nat.lt_of_lt_of_le (Nat.lt_succ_self _) (Nat.le_of_ble_eq_true rfl)) (ref := "WidowWatchLaw$Book") tW_2_74 rfl (v := .ref a31) (by show some (va_rf x31.2.2.2.2.2.2.1) = _; rw [ha31]; rfl) dX7_paragraph_50 ?_
      refine k_aload_n C 0 (pc := 53) dX7_paragraph_53 rfl rfl ?_
      obtain ⟨x32, hx32, H⟩ := H
      obtain ⟨a32, ha32, H⟩ := H
      refine l_getB C hR (pc := 54) hx32 7 (Nat.lt_of_lt_of_le (Nat.lt_succ_self _) (Nat.le_of_ble_eq_true rfl)) (ref := "WidowWatchLaw$Book") tW_2_75 rfl (v := .ref a32) (by show some (va_rf x32.2.2.2.2.2.2.2.1) = _; rw [ha32]; rfl) dX7_paragraph_54 ?_
      obtain ⟨n33, f33, hx_, hn_, hc_, H⟩ := H
      refine l_clone C hR hF (u := (u + 1) + q24) (pc := 57) hx_ hn_ tW_2_105 (Nat.le_of_ble_eq_true rfl) (by show 1 ≤ f0 + 3; omega) (by show 22 ≤ k0 + 60; omega) hc_ (Nat.mul_le_mul_left 16 hc_) dX7_paragraph_57 (fun a33 w1 hf_ hR => ?_)
      have H := H a33 hf_
      obtain ⟨mu34, hm34⟩ : ∃ m_, m_ = sI mu30 a33 (n33, f33) := ⟨_, rfl⟩
      rw [← hm34] at hR
      have H := H mu34 hm34
      have hcx_ : mI mu34 a33 = some (n33, f33) := by rw [hm34]; exact up_s
      refine l_castI C hR (pc := 60) tW_2_111 hcx_ dX7_paragraph_60 ?_
      obtain ⟨x35, hx35, H⟩ := H
      refine l_putL C hR (pc := 63) hx35 1 (Nat.lt_of_lt_of_le (Nat.lt_succ_self _) (Nat.le_of_ble_eq_true rfl)) (ref := "WidowWatchLaw$Plan") tW_6_93 rfl rfl  rfl rfl rfl (x1 := ((x35.1, some a33, x35.2.2))) rfl dX7_paragraph_63 (fun w1 hR => ?_)
      obtain ⟨mu36, hm36⟩ : ∃ m_, m_ = sL mu34 a31 (x35.1, some a33, x35.2.2) := ⟨_, rfl⟩
      rw [← hm36] at hR
      have H := H mu36 hm36
      refine k_aload_n C 0 (pc := 66) dX7_paragraph_66 rfl rfl ?_
      obtain ⟨x37, hx37, H⟩ := H
      obtain ⟨a37, ha37, H⟩ := H
      refine l_getB C hR (pc := 67) hx37 6 (Nat.lt_of_lt_of_le (Nat.lt_succ_self _) (Nat.le_of_ble_eq_true rfl)) (ref := "WidowWatchLaw$Book") tW_2_74 rfl (v := .ref a37) (by show some (va_rf x37.2.2.2.2.2.2.1) = _; rw [ha37]; rfl) dX7_paragraph_67 ?_
      refine k_aload_n C 0 (pc := 70) dX7_paragraph_70 rfl rfl ?_
      obtain ⟨x38, hx38, H⟩ := H
      refine l_getB C hR (pc := 71) hx38 9 (Nat.lt_of_lt_of_le (Nat.lt_succ_self _) (Nat.le_of_ble_eq_true rfl)) (ref := "WidowWatchLaw$Book") tW_2_77 rfl (v := .int x38.2.2.2.2.2.2.2.2.2) rfl dX7_paragraph_71 ?_
      obtain ⟨n39, hk_, hn_, hc_, H⟩ := H
      refine k_eq (pc := 74) (st' := [.int (nI n39), .ref a37]) rfl rfl (by rw [hk_]) ?_
      refine l_newI C hR (u := ((u + 1) + q24) + (1 + n33 / 16)) (pc := 74) hn_ hc_ (Nat.mul_le_mul_left 16 hc_) dX7_paragraph_74 (fun a39 w1 hf_ hR => ?_)
      have H := H a39 hf_
      obtain ⟨mu40, hm40⟩ : ∃ m_, m_ = sI mu36 a39 (n39, fun _ => 0) := ⟨_, rfl⟩
      rw [← hm40] at hR
      have H := H mu40 hm40
      obtain ⟨x41, hx41, H⟩ := H
      refine l_putL C hR (pc := 76) hx41 2 (Nat.lt_of_lt_of_le (Nat.lt_succ_self _) (Nat.le_of_ble_eq_true rfl)) (ref := "WidowWatchLaw$Plan") tW_6_95 rfl rfl  rfl rfl rfl (x1 := ((x41.1, x41.2.1, some a39))) rfl dX7_paragraph_76 (fun w1 hR => ?_)
      obtain ⟨mu42, hm42⟩ : ∃ m_, m_ = sL mu40 a37 (x41.1, x41.2.1, some a39) := ⟨_, rfl⟩
      rw [← hm42] at hR
      have H := H mu42 hm42
      refine k_iconst C (pc := 79) (v := (0 : Int32)) dX7_paragraph_79 rfl ?_
      refine k_istore C (pc := 80) dX7_paragraph_80 (Nat.lt_of_lt_of_le (Nat.lt_succ_self _) (Nat.le_of_ble_eq_true rfl)) (lv' := [(5, .int (0 : Int32)), (0, .ref v0), (1, .int v1), (2, .int v2), (3, .int v3), (4, .int v4)]) rfl ?_
      obtain ⟨n_, H⟩ := H
      refine k_lv (pc := 82) [1, 0] (lv' := [(0, .ref v0), (5, .int (0 : Int32))]) rfl ?_
      exact B82  n_ _ mu42 ((((u + 1) + q24) + (1 + n33 / 16)) + (1 + n39 / 16)) v0 (0 : Int32) hR H
  refine k_eq (ws' := ws0) (lv' := [(0, .ref v0), (1, .int v1), (2, .int v2), (3, .int v3), (4, .int v4)]) (st' := []) rfl rfl rfl ?_
  have H : ∃ x1, mB mu v0 = some x1 ∧ (x1.2.2.2.2.2.2.1 = none → wpX7_paragraph_b20 WX7_paragraph WX7_line cB Post  mu 0 v0 v1 v2 v3 v4) ∧ (¬ x1.2.2.2.2.2.2.1 = none → ∃ x50, mB mu v0 = some x50 ∧ ∃ a50, x50.2.2.2.2.2.2.1 = some a50 ∧ ∃ x51, mL mu a50 = some x51 ∧ (v4 < x51.1 → wpX7_paragraph_b20 WX7_paragraph WX7_line cB Post  mu 0 v0 v1 v2 v3 v4) ∧ (¬ v4 < x51.1 → 0 ≤ cB ∧ Post mu)) := H
  refine k_widen (k := 0) (n := 16 * 0) (Nat.le_refl _) (Nat.le_refl _) ?_
  refine k_aload_n C 0 (pc := 0) dX7_paragraph_0 rfl rfl ?_
  obtain ⟨x1, hx1, H⟩ := H
  by_cases hz_1 : x1.2.2.2.2.2.2.1 = none
  · have H := H.1 hz_1
    refine l_getB C hR (pc := 1) hx1 6 (Nat.lt_of_lt_of_le (Nat.lt_succ_self _) (Nat.le_of_ble_eq_true rfl)) (ref := "WidowWatchLaw$Book") tW_2_74 rfl (v := .null) (by show some (va_rf x1.2.2.2.2.2.2.1) = _; rw [hz_1]; rfl) dX7_paragraph_1 ?_
    refine l_ifnullN C (pc := 4) (tgt := 20) dX7_paragraph_4 (by decide) ?_
    refine k_lv (pc := 20) [0, 1, 2, 3, 4] (lv' := [(0, .ref v0), (1, .int v1), (2, .int v2), (3, .int v3), (4, .int v4)]) rfl ?_
    exact B20  _ mu 0 v0 v1 v2 v3 v4 hR H
  · have H := H.2 hz_1
    obtain ⟨a1, ha1⟩ := Option.ne_none_iff_exists'.mp hz_1
    refine l_getB C hR (pc := 1) hx1 6 (Nat.lt_of_lt_of_le (Nat.lt_succ_self _) (Nat.le_of_ble_eq_true rfl)) (ref := "WidowWatchLaw$Book") tW_2_74 rfl (v := .ref a1) (by show some (va_rf x1.2.2.2.2.2.2.1) = _; rw [ha1]; rfl) dX7_paragraph_1 ?_
    refine l_ifnull C (pc := 4) dX7_paragraph_4 ?_
    refine k_iload C 4 (pc := 7) dX7_paragraph_7 rfl ?_
    refine k_aload_n C 0 (pc := 9) dX7_paragraph_9 rfl rfl ?_
    obtain ⟨x50, hx50, H⟩ := H
    obtain ⟨a50, ha50, H⟩ := H
    refine l_getB C hR (pc := 10) hx50 6 (Nat.lt_of_lt_of_le (Nat.lt_succ_self _) (Nat.le_of_ble_eq_true rfl)) (ref := "WidowWatchLaw$Book") tW_2_74 rfl (v := .ref a50) (by show some (va_rf x50.2.2.2.2.2.2.1) = _; rw [ha50]; rfl) dX7_paragraph_10 ?_
    obtain ⟨x51, hx51, H⟩ := H
    refine l_getL C hR (pc := 13) hx51 0 (Nat.lt_of_lt_of_le (Nat.lt_succ_self _) (Nat.le_of_ble_eq_true rfl)) (ref := "WidowWatchLaw$Plan") tW_6_91 rfl (v := .int x51.1) rfl dX7_paragraph_13 ?_
    refine k_icmp_lt C (pc := 16) (tgt := 20) dX7_paragraph_16 (by decide) (fun c_16 => ?_) (fun c_16 => ?_)
    · have H := H.1 c_16
      refine k_lv (pc := 20) [0, 1, 2, 3, 4] (lv' := [(0, .ref v0), (1, .int v1), (2, .int v2), (3, .int v3), (4, .int v4)]) rfl ?_
      exact B20  _ mu 0 v0 v1 v2 v3 v4 hR H
    · have H := H.2 c_16
      obtain ⟨hc_, H⟩ := H
      refine k_widen (k := cB) (n := 16 * cB) hc_ (Nat.mul_le_mul_left 16 hc_) ?_
      exact k_vret C (pc := 19) hr dX7_paragraph_19 ⟨mu, hR, H⟩
def wpX7_line_b192 (WX7_paragraph : Nat → Mu → Nat → Int32 → Int32 → Int32 → Int32 → (Mu → Prop) → Prop) (WX7_line : Nat → Mu → Nat → Int32 → Int32 → Int32 → Int32 → Int32 → Int32 → (Mu → Prop) → Prop) (cB : Nat) (Post : Mu → Prop)  (mu : Mu) (u : Nat) (v0 : Nat) (v1 : Int32) (v2 : Int32) (v3 : Int32) (s0 : Nat) (s1 : Int32) (s2 : Int32) (s3 : Int32) (s4 : Int32) (s5 : Int32) (s6 : Int32) (s7 : Int32) : Prop := ∃ x13, mB mu v0 = some x13 ∧ u ≤ cB ∧ wpX7_beginning mu v0 v1 v2 v3 (fun r14 => ∃ x15, mB mu s0 = some x15 ∧ ∃ q17, u + q17 ≤ cB ∧ WX7_line q17 mu s0 s1 s2 s3 s4 s5 ((s6 + s7) + r14) (fun mu18 => ∃ x19, mB mu18 v0 = some x19 ∧ ∃ x20, mB mu18 v0 = some x20 ∧ ∀ mu21, mu21 = sB mu18 v0 (x20.1, x20.2.1, x20.2.2.1, x20.2.2.2.1, x20.2.2.2.2.1, x20.2.2.2.2.2.1, x20.2.2.2.2.2.2.1, x20.2.2.2.2.2.2.2.1, x20.2.2.2.2.2.2.2.2.1, x19.2.2.2.2.2.2.2.2.2 - (1 : Int32)) → (u + q17) ≤ cB ∧ Post mu21))
def wpX7_line_b135 (WX7_paragraph : Nat → Mu → Nat → Int32 → Int32 → Int32 → Int32 → (Mu → Prop) → Prop) (WX7_line : Nat → Mu → Nat → Int32 → Int32 → Int32 → Int32 → Int32 → Int32 → (Mu → Prop) → Prop) (cB : Nat) (Post : Mu → Prop)  (mu : Mu) (u : Nat) (v0 : Nat) (v1 : Int32) (v2 : Int32) (v3 : Int32) (v4 : Int32) (v5 : Int32) (v6 : Int32) (v7 : Int32) : Prop := ∃ x3, mB mu v0 = some x3 ∧ ∃ a3, x3.2.2.2.2.2.2.2.2.1 = some a3 ∧ ∃ x4, mB mu v0 = some x4 ∧ ∃ n5 f5 k5, mI mu a3 = some (n5, f5) ∧ x4.2.2.2.2.2.2.2.2.2 = nI k5 ∧ k5 < n5 ∧ n5 ≤ 1000 ∧ ∀ mu6, mu6 = sI mu a3 (n5, upd f5 k5 v4) → ∃ x7, mB mu6 v0 = some x7 ∧ ∃ x8, mB mu6 v0 = some x8 ∧ ∀ mu9, mu9 = sB mu6 v0 (x8.1, x8.2.1, x8.2.2.1, x8.2.2.2.1, x8.2.2.2.2.1, x8.2.2.2.2.2.1, x8.2.2.2.2.2.2.1, x8.2.2.2.2.2.2.2.1, x8.2.2.2.2.2.2.2.2.1, x7.2.2.2.2.2.2.2.2.2 + (1 : Int32)) → (v7 = 0 → ∃ x10, mB mu9 v0 = some x10 ∧ ∃ x11, mB mu9 v0 = some x11 ∧ ∃ a11, x11.2.2.2.2.1 = some a11 ∧ ∃ n12 f12 k12, mI mu9 a11 = some (n12, f12) ∧ (2 : Int32) = nI k12 ∧ k12 < n12 ∧ n12 ≤ 1000 ∧ wpX7_line_b192 WX7_paragraph WX7_line cB Post  mu9 u v0 v1 v2 v3 v0 v1 (v2 + (1 : Int32)) v3 (v4 + (1 : Int32)) (1 : Int32) v6 ((x10.2.1 - v5) * (f12 k12))) ∧ (¬ v7 = 0 → wpX7_line_b192 WX7_paragraph WX7_line cB Post  mu9 u v0 v1 v2 v3 v0 v1 (v2 + (1 : Int32)) v3 (v4 + (1 : Int32)) (1 : Int32) v6 (0 : Int32))
def wpX7_line_b106 (WX7_paragraph : Nat → Mu → Nat → Int32 → Int32 → Int32 → Int32 → (Mu → Prop) → Prop) (WX7_line : Nat → Mu → Nat → Int32 → Int32 → Int32 → Int32 → Int32 → Int32 → (Mu → Prop) → Prop) (cB : Nat) (Post : Mu → Prop)  (mu : Mu) (u : Nat) (v0 : Nat) (v1 : Int32) (v2 : Int32) (v3 : Int32) (v4 : Int32) (v5 : Int32) (v6 : Int32) (v7 : Int32) : Prop := ∃ x2, mB mu v0 = some x2 ∧ (x2.2.1 ≤ v5 → wpX7_line_b135 WX7_paragraph WX7_line cB Post  mu u v0 v1 v2 v3 v4 v5 v6 v7) ∧ (¬ x2.2.1 ≤ v5 → (¬ v7 = 0 → wpX7_line_b135 WX7_paragraph WX7_line cB Post  mu u v0 v1 v2 v3 v4 v5 v6 v7) ∧ (v7 = 0 → ∃ x22, mB mu v0 = some x22 ∧ ∃ x23, mB mu v0 = some x23 ∧ ((x22.2.1 - v5) ≤ x23.2.2.2.1 → wpX7_line_b135 WX7_paragraph WX7_line cB Post  mu u v0 v1 v2 v3 v4 v5 v6 v7) ∧ (¬ (x22.2.1 - v5) ≤ x23.2.2.2.1 → u ≤ cB ∧ Post mu)))
def wpX7_line_b40 (WX7_paragraph : Nat → Mu → Nat → Int32 → Int32 → Int32 → Int32 → (Mu → Prop) → Prop) (WX7_line : Nat → Mu → Nat → Int32 → Int32 → Int32 → Int32 → Int32 → Int32 → (Mu → Prop) → Prop) (cB : Nat) (Post : Mu → Prop)  (mu : Mu) (u : Nat) (v0 : Nat) (v1 : Int32) (v2 : Int32) (v3 : Int32) (v4 : Int32) (v5 : Int32) (v6 : Int32) (s0 : Int32) : Prop := (¬ v5 = 0 → ∃ x1, mB mu v0 = some x1 ∧ (x1.2.1 ≤ v5 → wpX7_line_b106 WX7_paragraph WX7_line cB Post  mu u v0 v1 v2 v3 v4 v5 v6 s0) ∧ (¬ x1.2.1 ≤ v5 → (¬ s0 = 0 → wpX7_line_b106 WX7_paragraph WX7_line cB Post  mu u v0 v1 v2 v3 v4 v5 v6 s0) ∧ (s0 = 0 → ∃ x24, mB mu v0 = some x24 ∧ ∃ q26, u + q26 ≤ cB ∧ WX7_line q26 mu v0 v1 (v2 + (1 : Int32)) v3 (v4 + (1 : Int32)) (v5 + (1 : Int32)) v6 (fun mu27 => wpX7_line_b106 WX7_paragraph WX7_line cB Post  mu27 (u + q26) v0 v1 v2 v3 v4 v5 v6 s0)))) ∧ (v5 = 0 → ∃ x28, mB mu v0 = some x28 ∧ ∃ a28, x28.2.2.2.2.2.2.2.2.1 = some a28 ∧ ∃ n29 f29 k29, mI mu a28 = some (n29, f29) ∧ (0 : Int32) = nI k29 ∧ k29 < n29 ∧ n29 ≤ 1000 ∧ ∀ mu30, mu30 = sI mu a28 (n29, upd f29 k29 (0 : Int32)) → ∃ x31, mB mu30 v0 = some x31 ∧ ∀ mu32, mu32 = sB mu30 v0 (x31.1, x31.2.1, x31.2.2.1, x31.2.2.2.1, x31.2.2.2.2.1, x31.2.2.2.2.2.1, x31.2.2.2.2.2.2.1, x31.2.2.2.2.2.2.2.1, x31.2.2.2.2.2.2.2.2.1, (1 : Int32)) → ∃ x33, mB mu32 v0 = some x33 ∧ ∃ q35, u + q35 ≤ cB ∧ WX7_line q35 mu32 v0 v1 (v2 + (1 : Int32)) v3 (1 : Int32) (1 : Int32) v6 (fun mu36 => (u + q35) ≤ cB ∧ Post mu36))
def wpX7_line_b39 (WX7_paragraph : Nat → Mu → Nat → Int32 → Int32 → Int32 → Int32 → (Mu → Prop) → Prop) (WX7_line : Nat → Mu → Nat → Int32 → Int32 → Int32 → Int32 → Int32 → Int32 → (Mu → Prop) → Prop) (cB : Nat) (Post : Mu → Prop)  (mu : Mu) (u : Nat) (v0 : Nat) (v1 : Int32) (v2 : Int32) (v3 : Int32) (v4 : Int32) (v5 : Int32) (v6 : Int32) : Prop := wpX7_line_b40 WX7_paragraph WX7_line cB Post  mu u v0 v1 v2 v3 v4 v5 v6 (0 : Int32)
def wpX7_line_R (WX7_paragraph : Nat → Mu → Nat → Int32 → Int32 → Int32 → Int32 → (Mu → Prop) → Prop) (WX7_line : Nat → Mu → Nat → Int32 → Int32 → Int32 → Int32 → Int32 → Int32 → (Mu → Prop) → Prop) (cB : Nat) (mu : Mu) (v0 : Nat) (v1 : Int32) (v2 : Int32) (v3 : Int32) (v4 : Int32) (v5 : Int32) (v6 : Int32) (Post : Mu → Prop) : Prop := (¬ v2 = v3 → (¬ v2 = 0 → wpX7_line_b39 WX7_paragraph WX7_line cB Post  mu 0 v0 v1 v2 v3 v4 v5 v6) ∧ (v2 = 0 → ∃ x37, mB mu v0 = some x37 ∧ ∃ a37, x37.2.2.2.2.2.1 = some a37 ∧ ∃ n38 f38 k38, mQ mu a37 = some (2, n38, f38) ∧ v1 = nI k38 ∧ k38 < n38 ∧ n38 ≤ 1000 ∧ ∃ a38, f38 k38 = some a38 ∧ ∃ x39, mP mu a38 = some x39 ∧ (x39.2.1 = 0 → wpX7_line_b39 WX7_paragraph WX7_line cB Post  mu 0 v0 v1 v2 v3 v4 v5 v6) ∧ (¬ x39.2.1 = 0 → wpX7_line_b40 WX7_paragraph WX7_line cB Post  mu 0 v0 v1 v2 v3 v4 v5 v6 (1 : Int32)))) ∧ (v2 = v3 → ∃ x40, mB mu v0 = some x40 ∧ ∃ q42, 0 + q42 ≤ cB ∧ WX7_paragraph q42 mu v0 (v1 + (1 : Int32)) v4 v5 v6 (fun mu43 => (0 + q42) ≤ cB ∧ Post mu43))
set_option maxHeartbeats 4000000 in
set_option maxRecDepth 100000 in
theorem bodyX7_line (l : Launch) (D : va_G) (cA : Nat → ClassId) (f0 k0 : Nat) (WX7_paragraph : Nat → Mu → Nat → Int32 → Int32 → Int32 → Int32 → (Mu → Prop) → Prop) (WX7_line : Nat → Mu → Nat → Int32 → Int32 → Int32 → Int32 → Int32 → Int32 → (Mu → Prop) → Prop) (hRec_X7_paragraph : ∀ (cB : Nat) (mu : Mu) (v0 : Nat) (v1 : Int32) (v2 : Int32) (v3 : Int32) (v4 : Int32) (Post : Mu → Prop), WX7_paragraph cB mu v0 v1 v2 v3 v4 Post → ∀ {w0 ws0 : va_W}, LR cA w0 ws0 mu → ConN l D cA yX7_paragraph (wm yX7_paragraph cX7_paragraph 7 none) { frames := f0, cells := cB, slots := 16 * cB, locals := k0 } ws0 [.ref v0, .int v1, .int v2, .int v3, .int v4] cB (16 * cB) (PV (fun w1 => ∃ m1, LR cA w0 w1 m1 ∧ Post m1))) (hRec_X7_line : ∀ (cB : Nat) (mu : Mu) (v0 : Nat) (v1 : Int32) (v2 : Int32) (v3 : Int32) (v4 : Int32) (v5 : Int32) (v6 : Int32) (Post : Mu → Prop), WX7_line cB mu v0 v1 v2 v3 v4 v5 v6 Post → ∀ {w0 ws0 : va_W}, LR cA w0 ws0 mu → ConN l D cA yX7_line (wm yX7_line cX7_line 8 none) { frames := f0, cells := cB, slots := 16 * cB, locals := k0 } ws0 [.ref v0, .int v1, .int v2, .int v3, .int v4, .int v5, .int v6] cB (16 * cB) (PV (fun w1 => ∃ m1, LR cA w0 w1 m1 ∧ Post m1))) (cB : Nat) (mu : Mu) (v0 : Nat) (v1 : Int32) (v2 : Int32) (v3 : Int32) (v4 : Int32) (v5 : Int32) (v6 : Int32) (Post : Mu → Prop) (H : wpX7_line_R WX7_paragraph WX7_line cB mu v0 v1 v2 v3 v4 v5 v6 Post) {w0 ws0 : va_W} (hR : LR cA w0 ws0 mu) : ConN l D cA yX7_line (wm yX7_line cX7_line 8 none) { frames := f0 + 3, cells := cB, slots := 16 * cB, locals := k0 + 60 } ws0 [.ref v0, .int v1, .int v2, .int v3, .int v4, .int v5, .int v6] cB (16 * cB) (PV (fun w1 => ∃ m1, LR cA w0 w1 m1 ∧ Post m1)) := by
  refine ConN.of (by decide) (Nat.le_of_ble_eq_true rfl) ?_
  intro p e s m args below meth c C hF hr hini
  have B192 : ∀  (ws : va_W) (mu : Mu) (u : Nat) (v0 : Nat) (v1 : Int32) (v2 : Int32) (v3 : Int32) (s0 : Nat) (s1 : Int32) (s2 : Int32) (s3 : Int32) (s4 : Int32) (s5 : Int32) (s6 : Int32) (s7 : Int32), LR cA w0 ws mu → wpX7_line_b192 WX7_paragraph WX7_line cB Post  mu u v0 v1 v2 v3 s0 s1 s2 s3 s4 s5 s6 s7 → Kf p l e { frames := f0 + 3, cells := cB, slots := 16 * cB, locals := k0 + 60 } s m args below meth c D (va_A ws0 s.heap.size) 8 u (16 * u) (MQ below (QC D ws0 s.heap.size (PV (fun w1 => ∃ m1, LR cA w0 w1 m1 ∧ Post m1))) args s cB (16 * cB) (va_A ws0 s.heap.size)) ws 192 [(0, .ref v0), (1, .int v1), (2, .int v2), (3, .int v3)] [.int s7, .int s6, .int s5, .int s4, .int s3, .int s2, .int s1, .ref s0] := by
    intro  ws mu u v0 v1 v2 v3 s0 s1 s2 s3 s4 s5 s6 s7 hR H
    have H : ∃ x13, mB mu v0 = some x13 ∧ u ≤ cB ∧ wpX7_beginning mu v0 v1 v2 v3 (fun r14 => ∃ x15, mB mu s0 = some x15 ∧ ∃ q17, u + q17 ≤ cB ∧ WX7_line q17 mu s0 s1 s2 s3 s4 s5 ((s6 + s7) + r14) (fun mu18 => ∃ x19, mB mu18 v0 = some x19 ∧ ∃ x20, mB mu18 v0 = some x20 ∧ ∀ mu21, mu21 = sB mu18 v0 (x20.1, x20.2.1, x20.2.2.1, x20.2.2.2.1, x20.2.2.2.2.1, x20.2.2.2.2.2.1, x20.2.2.2.2.2.2.1, x20.2.2.2.2.2.2.2.1, x20.2.2.2.2.2.2.2.2.1, x19.2.2.2.2.2.2.2.2.2 - (1 : Int32)) → (u + q17) ≤ cB ∧ Post mu21)) := H
    refine k_iadd C (pc := 192) dX7_line_192 ?_
    refine k_aload_n C 0 (pc := 193) dX7_line_193 rfl rfl ?_
    refine k_iload_n C 1 (pc := 194) dX7_line_194 rfl rfl ?_
    refine k_iload_n C 2 (pc := 195) dX7_line_195 rfl rfl ?_
    refine k_iload_n C 3 (pc := 196) dX7_line_196 rfl rfl ?_
    obtain ⟨x13, hx13, H⟩ := H
    obtain ⟨i13, hi13⟩ := List.getElem?_of_mem (hR.B hx13)
    obtain ⟨hc_, H⟩ := H
    refine k_callAi C (pc := 197) (l_runV C hF (As := [.int v1, .int v2, .int v3]) (rest := [.int (s6 + s7), .int s5, .int s4, .int s3, .int s2, .int s1, .ref s0]) (ci := 7) (q0 := i13) (conX7_beginning l D cA mu v0 v1 v2 v3 _  H hR) ⟨k_cwB C tW_6_111 tW_6_108 tW_1_9 okX7_beginning rfl rfl ⟨(by show 0 + 1 ≤ f0 + 3; omega), (by show 8 + (5 + 11) + 0 ≤ k0 + 60; omega)⟩, C.w tW_6_109, C.w tW_6_110⟩ hi13 rfl rfl rfl rfl (Nat.le_of_ble_eq_true rfl) dX7_line_197 ⟨hc_, (by show 16 * (u) + 0 ≤ 16 * cB; omega)⟩) (fun r14 w1 hw_ => ?_)
    obtain ⟨rfl, H⟩ := hw_
    refine k_iadd C (pc := 200) dX7_line_200 ?_
    obtain ⟨x15, hx15, H⟩ := H
    obtain ⟨i15, hi15⟩ := List.getElem?_of_mem (hR.B hx15)
    obtain ⟨q17, hc_, H⟩ := H
    refine k_callAv C (pc := 201) (l_runV C hF (As := [.int s1, .int s2, .int s3, .int s4, .int s5, .int ((s6 + s7) + r14)]) (rest := []) (ci := 7) (q0 := i15) (hRec_X7_line q17 mu s0 s1 s2 s3 s4 s5 ((s6 + s7) + r14) _  H hR) ⟨k_cwB C tW_6_107 tW_6_104 tW_1_9 okX7_line rfl rfl ⟨(by show f0 + 1 ≤ f0 + 3; omega), (by show 8 + (8 + 11) + k0 ≤ k0 + 60; omega)⟩, C.w tW_6_106, C.w tW_0_10⟩ hi15 rfl rfl rfl rfl (Nat.le_of_ble_eq_true rfl) dX7_line_201 ⟨hc_, by show 16 * (u) + 16 * q17 ≤ 16 * cB; omega⟩) (fun w1 hw_ => ?_)
    obtain ⟨mu18, hR, H⟩ := hw_
    refine k_sl ?_
    refine k_aload_n C 0 (pc := 204) dX7_line_204 rfl rfl ?_
    refine k_dup C (pc := 205) dX7_line_205 rfl ?_
    obtain ⟨x19, hx19, H⟩ := H
    refine l_getB C hR (pc := 206) hx19 9 (Nat.lt_of_lt_of_le (Nat.lt_succ_self _) (Nat.le_of_ble_eq_true rfl)) (ref := "WidowWatchLaw$Book") tW_2_77 rfl (v := .int x19.2.2.2.2.2.2.2.2.2) rfl dX7_line_206 ?_
    refine k_iconst C (pc := 209) (v := (1 : Int32)) dX7_line_209 rfl ?_
    refine k_isub C (pc := 210) dX7_line_210 ?_
    obtain ⟨x20, hx20, H⟩ := H
    refine l_putB C hR (pc := 211) hx20 9 (Nat.lt_of_lt_of_le (Nat.lt_succ_self _) (Nat.le_of_ble_eq_true rfl)) (ref := "WidowWatchLaw$Book") tW_2_77 rfl rfl  (ty := .int) rfl rfl rfl (x1 := ((x20.1, x20.2.1, x20.2.2.1, x20.2.2.2.1, x20.2.2.2.2.1, x20.2.2.2.2.2.1, x20.2.2.2.2.2.2.1, x20.2.2.2.2.2.2.2.1, x20.2.2.2.2.2.2.2.2.1, x19.2.2.2.2.2.2.2.2.2 - (1 : Int32)))) rfl dX7_line_211 (fun w1 hR => ?_)
    obtain ⟨mu21, hm21⟩ : ∃ m_, m_ = sB mu18 v0 (x20.1, x20.2.1, x20.2.2.1, x20.2.2.2.1, x20.2.2.2.2.1, x20.2.2.2.2.2.1, x20.2.2.2.2.2.2.1, x20.2.2.2.2.2.2.2.1, x20.2.2.2.2.2.2.2.2.1, x19.2.2.2.2.2.2.2.2.2 - (1 : Int32)) := ⟨_, rfl⟩
    rw [← hm21] at hR
    have H := H mu21 hm21
    obtain ⟨hc_, H⟩ := H
    refine k_widen (k := cB) (n := 16 * cB) hc_ (Nat.mul_le_mul_left 16 hc_) ?_
    exact k_vret C (pc := 214) hr dX7_line_214 ⟨mu21, hR, H⟩
  have B135 : ∀  (ws : va_W) (mu : Mu) (u : Nat) (v0 : Nat) (v1 : Int32) (v2 : Int32) (v3 : Int32) (v4 : Int32) (v5 : Int32) (v6 : Int32) (v7 : Int32), LR cA w0 ws mu → wpX7_line_b135 WX7_paragraph WX7_line cB Post  mu u v0 v1 v2 v3 v4 v5 v6 v7 → Kf p l e { frames := f0 + 3, cells := cB, slots := 16 * cB, locals := k0 + 60 } s m args below meth c D (va_A ws0 s.heap.size) 8 u (16 * u) (MQ below (QC D ws0 s.heap.size (PV (fun w1 => ∃ m1, LR cA w0 w1 m1 ∧ Post m1))) args s cB (16 * cB) (va_A ws0 s.heap.size)) ws 135 [(0, .ref v0), (1, .int v1), (2, .int v2), (3, .int v3), (4, .int v4), (5, .int v5), (6, .int v6), (7, .int v7)] [] := by
    intro  ws mu u v0 v1 v2 v3 v4 v5 v6 v7 hR H
    have H : ∃ x3, mB mu v0 = some x3 ∧ ∃ a3, x3.2.2.2.2.2.2.2.2.1 = some a3 ∧ ∃ x4, mB mu v0 = some x4 ∧ ∃ n5 f5 k5, mI mu a3 = some (n5, f5) ∧ x4.2.2.2.2.2.2.2.2.2 = nI k5 ∧ k5 < n5 ∧ n5 ≤ 1000 ∧ ∀ mu6, mu6 = sI mu a3 (n5, upd f5 k5 v4) → ∃ x7, mB mu6 v0 = some x7 ∧ ∃ x8, mB mu6 v0 = some x8 ∧ ∀ mu9, mu9 = sB mu6 v0 (x8.1, x8.2.1, x8.2.2.1, x8.2.2.2.1, x8.2.2.2.2.1, x8.2.2.2.2.2.1, x8.2.2.2.2.2.2.1, x8.2.2.2.2.2.2.2.1, x8.2.2.2.2.2.2.2.2.1, x7.2.2.2.2.2.2.2.2.2 + (1 : Int32)) → (v7 = 0 → ∃ x10, mB mu9 v0 = some x10 ∧ ∃ x11, mB mu9 v0 = some x11 ∧ ∃ a11, x11.2.2.2.2.1 = some a11 ∧ ∃ n12 f12 k12, mI mu9 a11 = some (n12, f12) ∧ (2 : Int32) = nI k12 ∧ k12 < n12 ∧ n12 ≤ 1000 ∧ wpX7_line_b192 WX7_paragraph WX7_line cB Post  mu9 u v0 v1 v2 v3 v0 v1 (v2 + (1 : Int32)) v3 (v4 + (1 : Int32)) (1 : Int32) v6 ((x10.2.1 - v5) * (f12 k12))) ∧ (¬ v7 = 0 → wpX7_line_b192 WX7_paragraph WX7_line cB Post  mu9 u v0 v1 v2 v3 v0 v1 (v2 + (1 : Int32)) v3 (v4 + (1 : Int32)) (1 : Int32) v6 (0 : Int32)) := H
    refine k_aload_n C 0 (pc := 135) dX7_line_135 rfl rfl ?_
    obtain ⟨x3, hx3, H⟩ := H
    obtain ⟨a3, ha3, H⟩ := H
    refine l_getB C hR (pc := 136) hx3 8 (Nat.lt_of_lt_of_le (Nat.lt_succ_self _) (Nat.le_of_ble_eq_true rfl)) (ref := "WidowWatchLaw$Book") tW_2_76 rfl (v := .ref a3) (by show some (va_rf x3.2.2.2.2.2.2.2.2.1) = _; rw [ha3]; rfl) dX7_line_136 ?_
    refine k_aload_n C 0 (pc := 139) dX7_line_139 rfl rfl ?_
    obtain ⟨x4, hx4, H⟩ := H
    refine l_getB C hR (pc := 140) hx4 9 (Nat.lt_of_lt_of_le (Nat.lt_succ_self _) (Nat.le_of_ble_eq_true rfl)) (ref := "WidowWatchLaw$Book") tW_2_77 rfl (v := .int x4.2.2.2.2.2.2.2.2.2) rfl dX7_line_140 ?_
    refine k_iload C 4 (pc := 143) dX7_line_143 rfl ?_
    obtain ⟨n5, f5, k5, hx_, hk_, hl_, hn_, H⟩ := H
    refine k_eq (pc := 145) (st' := [.int v4, .int (nI k5), .ref a3]) rfl rfl (by rw [hk_]) ?_
    refine l_iast C hR (pc := 145) hx_ hl_ hn_ dX7_line_145 (fun w1 hR => ?_)
    obtain ⟨mu6, hm6⟩ : ∃ m_, m_ = sI mu a3 (n5, upd f5 k5 v4) := ⟨_, rfl⟩
    rw [← hm6] at hR
    have H := H mu6 hm6
    refine k_aload_n C 0 (pc := 146) dX7_line_146 rfl rfl ?_
    refine k_dup C (pc := 147) dX7_line_147 rfl ?_
    obtain ⟨x7, hx7, H⟩ := H
    refine l_getB C hR (pc := 148) hx7 9 (Nat.lt_of_lt_of_le (Nat.lt_succ_self _) (Nat.le_of_ble_eq_true rfl)) (ref := "WidowWatchLaw$Book") tW_2_77 rfl (v := .int x7.2.2.2.2.2.2.2.2.2) rfl dX7_line_148 ?_
    refine k_iconst C (pc := 151) (v := (1 : Int32)) dX7_line_151 rfl ?_
    refine k_iadd C (pc := 152) dX7_line_152 ?_
    obtain ⟨x8, hx8, H⟩ := H
    refine l_putB C hR (pc := 153) hx8 9 (Nat.lt_of_lt_of_le (Nat.lt_succ_self _) (Nat.le_of_ble_eq_true rfl)) (ref := "WidowWatchLaw$Book") tW_2_77 rfl rfl  (ty := .int) rfl rfl rfl (x1 := ((x8.1, x8.2.1, x8.2.2.1, x8.2.2.2.1, x8.2.2.2.2.1, x8.2.2.2.2.2.1, x8.2.2.2.2.2.2.1, x8.2.2.2.2.2.2.2.1, x8.2.2.2.2.2.2.2.2.1, x7.2.2.2.2.2.2.2.2.2 + (1 : Int32)))) rfl dX7_line_153 (fun w1 hR => ?_)
    obtain ⟨mu9, hm9⟩ : ∃ m_, m_ = sB mu6 v0 (x8.1, x8.2.1, x8.2.2.1, x8.2.2.2.1, x8.2.2.2.2.1, x8.2.2.2.2.2.1, x8.2.2.2.2.2.2.1, x8.2.2.2.2.2.2.2.1, x8.2.2.2.2.2.2.2.2.1, x7.2.2.2.2.2.2.2.2.2 + (1 : Int32)) := ⟨_, rfl⟩
    rw [← hm9] at hR
    have H := H mu9 hm9
    refine k_aload_n C 0 (pc := 156) dX7_line_156 rfl rfl ?_
    refine k_iload_n C 1 (pc := 157) dX7_line_157 rfl rfl ?_
    refine k_iload_n C 2 (pc := 158) dX7_line_158 rfl rfl ?_
    refine k_iconst C (pc := 159) (v := (1 : Int32)) dX7_line_159 rfl ?_
    refine k_iadd C (pc := 160) dX7_line_160 ?_
    refine k_iload_n C 3 (pc := 161) dX7_line_161 rfl rfl ?_
    refine k_iload C 4 (pc := 162) dX7_line_162 rfl ?_
    refine k_iconst C (pc := 164) (v := (1 : Int32)) dX7_line_164 rfl ?_
    refine k_iadd C (pc := 165) dX7_line_165 ?_
    refine k_iconst C (pc := 166) (v := (1 : Int32)) dX7_line_166 rfl ?_
    refine k_iload C 6 (pc := 167) dX7_line_167 rfl ?_
    refine k_iload C 7 (pc := 169) dX7_line_169 rfl ?_
    refine k_if_eq C (pc := 171) (tgt := 178) dX7_line_171 (by decide) (fun c_171 => ?_) (fun c_171 => ?_)
    · have H := H.1 c_171
      refine k_aload_n C 0 (pc := 178) dX7_line_178 rfl rfl ?_
      obtain ⟨x10, hx10, H⟩ := H
      refine l_getB C hR (pc := 179) hx10 1 (Nat.lt_of_lt_of_le (Nat.lt_succ_self _) (Nat.le_of_ble_eq_true rfl)) (ref := "WidowWatchLaw$Book") tW_2_64 rfl (v := .int x10.2.1) rfl dX7_line_179 ?_
      refine k_iload C 5 (pc := 182) dX7_line_182 rfl ?_
      refine k_isub C (pc := 184) dX7_line_184 ?_
      refine k_aload_n C 0 (pc := 185) dX7_line_185 rfl rfl ?_
      obtain ⟨x11, hx11, H⟩ := H
      obtain ⟨a11, ha11, H⟩ := H
      refine l_getB C hR (pc := 186) hx11 4 (Nat.lt_of_lt_of_le (Nat.lt_succ_self _) (Nat.le_of_ble_eq_true rfl)) (ref := "WidowWatchLaw$Book") tW_2_70 rfl (v := .ref a11) (by show some (va_rf x11.2.2.2.2.1) = _; rw [ha11]; rfl) dX7_line_186 ?_
      refine k_iconst C (pc := 189) (v := (2 : Int32)) dX7_line_189 rfl ?_
      obtain ⟨n12, f12, k12, hx_, hk_, hl_, hn_, H⟩ := H
      refine k_eq (pc := 190) (st' := [.int (nI k12), .ref a11, .int (x10.2.1 - v5), .int v6, .int (1 : Int32), .int (v4 + (1 : Int32)), .int v3, .int (v2 + (1 : Int32)), .int v1, .ref v0]) rfl rfl (by rw [hk_]) ?_
      refine l_iald C hR (pc := 190) hx_ hl_ hn_ dX7_line_190 ?_
      refine k_imul C (pc := 191) dX7_line_191 ?_
      refine k_lv (pc := 192) [0, 1, 2, 3] (lv' := [(0, .ref v0), (1, .int v1), (2, .int v2), (3, .int v3)]) rfl ?_
      exact B192  _ mu9 u v0 v1 v2 v3 v0 v1 (v2 + (1 : Int32)) v3 (v4 + (1 : Int32)) (1 : Int32) v6 ((x10.2.1 - v5) * (f12 k12)) hR H
    · have H := H.2 c_171
      refine k_iconst C (pc := 174) (v := (0 : Int32)) dX7_line_174 rfl ?_
      refine k_goto C (pc := 175) (tgt := 192) dX7_line_175 (by decide) ?_
      refine k_lv (pc := 192) [0, 1, 2, 3] (lv' := [(0, .ref v0), (1, .int v1), (2, .int v2), (3, .int v3)]) rfl ?_
      exact B192  _ mu9 u v0 v1 v2 v3 v0 v1 (v2 + (1 : Int32)) v3 (v4 + (1 : Int32)) (1 : Int32) v6 (0 : Int32) hR H
  have B106 : ∀  (ws : va_W) (mu : Mu) (u : Nat) (v0 : Nat) (v1 : Int32) (v2 : Int32) (v3 : Int32) (v4 : Int32) (v5 : Int32) (v6 : Int32) (v7 : Int32), LR cA w0 ws mu → wpX7_line_b106 WX7_paragraph WX7_line cB Post  mu u v0 v1 v2 v3 v4 v5 v6 v7 → Kf p l e { frames := f0 + 3, cells := cB, slots := 16 * cB, locals := k0 + 60 } s m args below meth c D (va_A ws0 s.heap.size) 8 u (16 * u) (MQ below (QC D ws0 s.heap.size (PV (fun w1 => ∃ m1, LR cA w0 w1 m1 ∧ Post m1))) args s cB (16 * cB) (va_A ws0 s.heap.size)) ws 106 [(0, .ref v0), (1, .int v1), (2, .int v2), (3, .int v3), (4, .int v4), (5, .int v5), (6, .int v6), (7, .int v7)] [] := by
    intro  ws mu u v0 v1 v2 v3 v4 v5 v6 v7 hR H
    have H : ∃ x2, mB mu v0 = some x2 ∧ (x2.2.1 ≤ v5 → wpX7_line_b135 WX7_paragraph WX7_line cB Post  mu u v0 v1 v2 v3 v4 v5 v6 v7) ∧ (¬ x2.2.1 ≤ v5 → (¬ v7 = 0 → wpX7_line_b135 WX7_paragraph WX7_line cB Post  mu u v0 v1 v2 v3 v4 v5 v6 v7) ∧ (v7 = 0 → ∃ x22, mB mu v0 = some x22 ∧ ∃ x23, mB mu v0 = some x23 ∧ ((x22.2.1 - v5) ≤ x23.2.2.2.1 → wpX7_line_b135 WX7_paragraph WX7_line cB Post  mu u v0 v1 v2 v3 v4 v5 v6 v7) ∧ (¬ (x22.2.1 - v5) ≤ x23.2.2.2.1 → u ≤ cB ∧ Post mu))) := H
    refine k_iload C 5 (pc := 106) dX7_line_106 rfl ?_
    refine k_aload_n C 0 (pc := 108) dX7_line_108 rfl rfl ?_
    obtain ⟨x2, hx2, H⟩ := H
    refine l_getB C hR (pc := 109) hx2 1 (Nat.lt_of_lt_of_le (Nat.lt_succ_self _) (Nat.le_of_ble_eq_true rfl)) (ref := "WidowWatchLaw$Book") tW_2_64 rfl (v := .int x2.2.1) rfl dX7_line_109 ?_
    refine k_icmp_ge C (pc := 112) (tgt := 135) dX7_line_112 (by decide) (fun c_112 => ?_) (fun c_112 => ?_)
    · have H := H.1 c_112
      refine k_lv (pc := 135) [0, 1, 2, 3, 4, 5, 6, 7] (lv' := [(0, .ref v0), (1, .int v1), (2, .int v2), (3, .int v3), (4, .int v4), (5, .int v5), (6, .int v6), (7, .int v7)]) rfl ?_
      exact B135  _ mu u v0 v1 v2 v3 v4 v5 v6 v7 hR H
    · have H := H.2 c_112
      refine k_iload C 7 (pc := 115) dX7_line_115 rfl ?_
      refine k_if_ne C (pc := 117) (tgt := 135) dX7_line_117 (by decide) (fun c_117 => ?_) (fun c_117 => ?_)
      · have H := H.1 c_117
        refine k_lv (pc := 135) [0, 1, 2, 3, 4, 5, 6, 7] (lv' := [(0, .ref v0), (1, .int v1), (2, .int v2), (3, .int v3), (4, .int v4), (5, .int v5), (6, .int v6), (7, .int v7)]) rfl ?_
        exact B135  _ mu u v0 v1 v2 v3 v4 v5 v6 v7 hR H
      · have H := H.2 c_117
        refine k_aload_n C 0 (pc := 120) dX7_line_120 rfl rfl ?_
        obtain ⟨x22, hx22, H⟩ := H
        refine l_getB C hR (pc := 121) hx22 1 (Nat.lt_of_lt_of_le (Nat.lt_succ_self _) (Nat.le_of_ble_eq_true rfl)) (ref := "WidowWatchLaw$Book") tW_2_64 rfl (v := .int x22.2.1) rfl dX7_line_121 ?_
        refine k_iload C 5 (pc := 124) dX7_line_124 rfl ?_
        refine k_isub C (pc := 126) dX7_line_126 ?_
        refine k_aload_n C 0 (pc := 127) dX7_line_127 rfl rfl ?_
        obtain ⟨x23, hx23, H⟩ := H
        refine l_getB C hR (pc := 128) hx23 3 (Nat.lt_of_lt_of_le (Nat.lt_succ_self _) (Nat.le_of_ble_eq_true rfl)) (ref := "WidowWatchLaw$Book") tW_2_68 rfl (v := .int x23.2.2.2.1) rfl dX7_line_128 ?_
        refine k_icmp_le C (pc := 131) (tgt := 135) dX7_line_131 (by decide) (fun c_131 => ?_) (fun c_131 => ?_)
        · have H := H.1 c_131
          refine k_lv (pc := 135) [0, 1, 2, 3, 4, 5, 6, 7] (lv' := [(0, .ref v0), (1, .int v1), (2, .int v2), (3, .int v3), (4, .int v4), (5, .int v5), (6, .int v6), (7, .int v7)]) rfl ?_
          exact B135  _ mu u v0 v1 v2 v3 v4 v5 v6 v7 hR H
        · have H := H.2 c_131
          obtain ⟨hc_, H⟩ := H
          refine k_widen (k := cB) (n := 16 * cB) hc_ (Nat.mul_le_mul_left 16 hc_) ?_
          exact k_vret C (pc := 134) hr dX7_line_134 ⟨mu, hR, H⟩
  have B40 : ∀  (ws : va_W) (mu : Mu) (u : Nat) (v0 : Nat) (v1 : Int32) (v2 : Int32) (v3 : Int32) (v4 : Int32) (v5 : Int32) (v6 : Int32) (s0 : Int32), LR cA w0 ws mu → wpX7_line_b40 WX7_paragraph WX7_line cB Post  mu u v0 v1 v2 v3 v4 v5 v6 s0 → Kf p l e { frames := f0 + 3, cells := cB, slots := 16 * cB, locals := k0 + 60 } s m args below meth c D (va_A ws0 s.heap.size) 8 u (16 * u) (MQ below (QC D ws0 s.heap.size (PV (fun w1 => ∃ m1, LR cA w0 w1 m1 ∧ Post m1))) args s cB (16 * cB) (va_A ws0 s.heap.size)) ws 40 [(0, .ref v0), (1, .int v1), (2, .int v2), (3, .int v3), (4, .int v4), (5, .int v5), (6, .int v6)] [.int s0] := by
    intro  ws mu u v0 v1 v2 v3 v4 v5 v6 s0 hR H
    have H : (¬ v5 = 0 → ∃ x1, mB mu v0 = some x1 ∧ (x1.2.1 ≤ v5 → wpX7_line_b106 WX7_paragraph WX7_line cB Post  mu u v0 v1 v2 v3 v4 v5 v6 s0) ∧ (¬ x1.2.1 ≤ v5 → (¬ s0 = 0 → wpX7_line_b106 WX7_paragraph WX7_line cB Post  mu u v0 v1 v2 v3 v4 v5 v6 s0) ∧ (s0 = 0 → ∃ x24, mB mu v0 = some x24 ∧ ∃ q26, u + q26 ≤ cB ∧ WX7_line q26 mu v0 v1 (v2 + (1 : Int32)) v3 (v4 + (1 : Int32)) (v5 + (1 : Int32)) v6 (fun mu27 => wpX7_line_b106 WX7_paragraph WX7_line cB Post  mu27 (u + q26) v0 v1 v2 v3 v4 v5 v6 s0)))) ∧ (v5 = 0 → ∃ x28, mB mu v0 = some x28 ∧ ∃ a28, x28.2.2.2.2.2.2.2.2.1 = some a28 ∧ ∃ n29 f29 k29, mI mu a28 = some (n29, f29) ∧ (0 : Int32) = nI k29 ∧ k29 < n29 ∧ n29 ≤ 1000 ∧ ∀ mu30, mu30 = sI mu a28 (n29, upd f29 k29 (0 : Int32)) → ∃ x31, mB mu30 v0 = some x31 ∧ ∀ mu32, mu32 = sB mu30 v0 (x31.1, x31.2.1, x31.2.2.1, x31.2.2.2.1, x31.2.2.2.2.1, x31.2.2.2.2.2.1, x31.2.2.2.2.2.2.1, x31.2.2.2.2.2.2.2.1, x31.2.2.2.2.2.2.2.2.1, (1 : Int32)) → ∃ x33, mB mu32 v0 = some x33 ∧ ∃ q35, u + q35 ≤ cB ∧ WX7_line q35 mu32 v0 v1 (v2 + (1 : Int32)) v3 (1 : Int32) (1 : Int32) v6 (fun mu36 => (u + q35) ≤ cB ∧ Post mu36)) := H
    refine k_istore C (pc := 40) dX7_line_40 (Nat.lt_of_lt_of_le (Nat.lt_succ_self _) (Nat.le_of_ble_eq_true rfl)) (lv' := [(7, .int s0), (0, .ref v0), (1, .int v1), (2, .int v2), (3, .int v3), (4, .int v4), (5, .int v5), (6, .int v6)]) rfl ?_
    refine k_iload C 6 (pc := 42) dX7_line_42 rfl ?_
    refine k_if_ne C (pc := 44) (tgt := 73) dX7_line_44 (by decide) (fun c_44 => ?_) (fun c_44 => ?_)
    · have H := H.1 c_44
      refine k_iload C 6 (pc := 73) dX7_line_73 rfl ?_
      refine k_aload_n C 1 (pc := 75) dX7_line_75 rfl rfl ?_
      obtain ⟨x1, hx1, H⟩ := H
      refine l_getB C hR (pc := 76) hx1 1 (Nat.lt_of_lt_of_le (Nat.lt_succ_self _) (Nat.le_of_ble_eq_true rfl)) (ref := "WidowWatchLaw$Book") tW_2_64 rfl (v := .int x1.2.1) rfl dX7_line_76 ?_
      refine k_icmp_ge C (pc := 79) (tgt := 106) dX7_line_79 (by decide) (fun c_79 => ?_) (fun c_79 => ?_)
      · have H := H.1 c_79
        refine k_lv (pc := 106) [1, 2, 3, 4, 5, 6, 7, 0] (lv' := [(0, .ref v0), (1, .int v1), (2, .int v2), (3, .int v3), (4, .int v4), (5, .int v5), (6, .int v6), (7, .int s0)]) rfl ?_
        exact B106  _ mu u v0 v1 v2 v3 v4 v5 v6 s0 hR H
      · have H := H.2 c_79
        refine k_iload C 0 (pc := 82) dX7_line_82 rfl ?_
        refine k_if_ne C (pc := 84) (tgt := 106) dX7_line_84 (by decide) (fun c_84 => ?_) (fun c_84 => ?_)
        · have H := H.1 c_84
          refine k_lv (pc := 106) [1, 2, 3, 4, 5, 6, 7, 0] (lv' := [(0, .ref v0), (1, .int v1), (2, .int v2), (3, .int v3), (4, .int v4), (5, .int v5), (6, .int v6), (7, .int s0)]) rfl ?_
          exact B106  _ mu u v0 v1 v2 v3 v4 v5 v6 s0 hR H
        · have H := H.2 c_84
          refine k_aload_n C 1 (pc := 87) dX7_line_87 rfl rfl ?_
          refine k_iload_n C 2 (pc := 88) dX7_line_88 rfl rfl ?_
          refine k_iload_n C 3 (pc := 89) dX7_line_89 rfl rfl ?_
          refine k_iconst C (pc := 90) (v := (1 : Int32)) dX7_line_90 rfl ?_
          refine k_iadd C (pc := 91) dX7_line_91 ?_
          refine k_iload_n C 4 (pc := 92) dX7_line_92 rfl rfl ?_
          refine k_iload C 5 (pc := 93) dX7_line_93 rfl ?_
          refine k_iconst C (pc := 95) (v := (1 : Int32)) dX7_line_95 rfl ?_
          refine k_iadd C (pc := 96) dX7_line_96 ?_
          refine k_iload C 6 (pc := 97) dX7_line_97 rfl ?_
          refine k_iconst C (pc := 99) (v := (1 : Int32)) dX7_line_99 rfl ?_
          refine k_iadd C (pc := 100) dX7_line_100 ?_
          refine k_iload C 7 (pc := 101) dX7_line_101 rfl ?_
          obtain ⟨x24, hx24, H⟩ := H
          obtain ⟨i24, hi24⟩ := List.getElem?_of_mem (hR.B hx24)
          obtain ⟨q26, hc_, H⟩ := H
          refine k_callAv C (pc := 103) (l_runV C hF (As := [.int v1, .int (v2 + (1 : Int32)), .int v3, .int (v4 + (1 : Int32)), .int (v5 + (1 : Int32)), .int v6]) (rest := []) (ci := 7) (q0 := i24) (hRec_X7_line q26 mu v0 v1 (v2 + (1 : Int32)) v3 (v4 + (1 : Int32)) (v5 + (1 : Int32)) v6 _  H hR) ⟨k_cwB C tW_6_107 tW_6_104 tW_1_9 okX7_line rfl rfl ⟨(by show f0 + 1 ≤ f0 + 3; omega), (by show 8 + (8 + 11) + k0 ≤ k0 + 60; omega)⟩, C.w tW_6_106, C.w tW_0_10⟩ hi24 rfl rfl rfl rfl (Nat.le_of_ble_eq_true rfl) dX7_line_103 ⟨hc_, by show 16 * (u) + 16 * q26 ≤ 16 * cB; omega⟩) (fun w1 hw_ => ?_)
          obtain ⟨mu27, hR, H⟩ := hw_
          refine k_sl ?_
          refine k_lv (pc := 106) [1, 2, 3, 4, 5, 6, 7, 0] (lv' := [(0, .ref v0), (1, .int v1), (2, .int v2), (3, .int v3), (4, .int v4), (5, .int v5), (6, .int v6), (7, .int s0)]) rfl ?_
          exact B106  _ mu27 (u + q26) v0 v1 v2 v3 v4 v5 v6 s0 hR H
    · have H := H.2 c_44
      refine k_aload_n C 1 (pc := 47) dX7_line_47 rfl rfl ?_
      obtain ⟨x28, hx28, H⟩ := H
      obtain ⟨a28, ha28, H⟩ := H
      refine l_getB C hR (pc := 48) hx28 8 (Nat.lt_of_lt_of_le (Nat.lt_succ_self _) (Nat.le_of_ble_eq_true rfl)) (ref := "WidowWatchLaw$Book") tW_2_76 rfl (v := .ref a28) (by show some (va_rf x28.2.2.2.2.2.2.2.2.1) = _; rw [ha28]; rfl) dX7_line_48 ?_
      refine k_iconst C (pc := 51) (v := (0 : Int32)) dX7_line_51 rfl ?_
      refine k_iconst C (pc := 52) (v := (0 : Int32)) dX7_line_52 rfl ?_
      obtain ⟨n29, f29, k29, hx_, hk_, hl_, hn_, H⟩ := H
      refine k_eq (pc := 53) (st' := [.int (0 : Int32), .int (nI k29), .ref a28]) rfl rfl (by rw [hk_]) ?_
      refine l_iast C hR (pc := 53) hx_ hl_ hn_ dX7_line_53 (fun w1 hR => ?_)
      obtain ⟨mu30, hm30⟩ : ∃ m_, m_ = sI mu a28 (n29, upd f29 k29 (0 : Int32)) := ⟨_, rfl⟩
      rw [← hm30] at hR
      have H := H mu30 hm30
      refine k_aload_n C 1 (pc := 54) dX7_line_54 rfl rfl ?_
      refine k_iconst C (pc := 55) (v := (1 : Int32)) dX7_line_55 rfl ?_
      obtain ⟨x31, hx31, H⟩ := H
      refine l_putB C hR (pc := 56) hx31 9 (Nat.lt_of_lt_of_le (Nat.lt_succ_self _) (Nat.le_of_ble_eq_true rfl)) (ref := "WidowWatchLaw$Book") tW_2_77 rfl rfl  (ty := .int) rfl rfl rfl (x1 := ((x31.1, x31.2.1, x31.2.2.1, x31.2.2.2.1, x31.2.2.2.2.1, x31.2.2.2.2.2.1, x31.2.2.2.2.2.2.1, x31.2.2.2.2.2.2.2.1, x31.2.2.2.2.2.2.2.2.1, (1 : Int32)))) rfl dX7_line_56 (fun w1 hR => ?_)
      obtain ⟨mu32, hm32⟩ : ∃ m_, m_ = sB mu30 v0 (x31.1, x31.2.1, x31.2.2.1, x31.2.2.2.1, x31.2.2.2.2.1, x31.2.2.2.2.2.1, x31.2.2.2.2.2.2.1, x31.2.2.2.2.2.2.2.1, x31.2.2.2.2.2.2.2.2.1, (1 : Int32)) := ⟨_, rfl⟩
      rw [← hm32] at hR
      have H := H mu32 hm32
      refine k_aload_n C 1 (pc := 59) dX7_line_59 rfl rfl ?_
      refine k_iload_n C 2 (pc := 60) dX7_line_60 rfl rfl ?_
      refine k_iload_n C 3 (pc := 61) dX7_line_61 rfl rfl ?_
      refine k_iconst C (pc := 62) (v := (1 : Int32)) dX7_line_62 rfl ?_
      refine k_iadd C (pc := 63) dX7_line_63 ?_
      refine k_iload_n C 4 (pc := 64) dX7_line_64 rfl rfl ?_
      refine k_iconst C (pc := 65) (v := (1 : Int32)) dX7_line_65 rfl ?_
      refine k_iconst C (pc := 66) (v := (1 : Int32)) dX7_line_66 rfl ?_
      refine k_iload C 7 (pc := 67) dX7_line_67 rfl ?_
      obtain ⟨x33, hx33, H⟩ := H
      obtain ⟨i33, hi33⟩ := List.getElem?_of_mem (hR.B hx33)
      obtain ⟨q35, hc_, H⟩ := H
      refine k_callAv C (pc := 69) (l_runV C hF (As := [.int v1, .int (v2 + (1 : Int32)), .int v3, .int (1 : Int32), .int (1 : Int32), .int v6]) (rest := []) (ci := 7) (q0 := i33) (hRec_X7_line q35 mu32 v0 v1 (v2 + (1 : Int32)) v3 (1 : Int32) (1 : Int32) v6 _  H hR) ⟨k_cwB C tW_6_107 tW_6_104 tW_1_9 okX7_line rfl rfl ⟨(by show f0 + 1 ≤ f0 + 3; omega), (by show 8 + (8 + 11) + k0 ≤ k0 + 60; omega)⟩, C.w tW_6_106, C.w tW_0_10⟩ hi33 rfl rfl rfl rfl (Nat.le_of_ble_eq_true rfl) dX7_line_69 ⟨hc_, by show 16 * (u) + 16 * q35 ≤ 16 * cB; omega⟩) (fun w1 hw_ => ?_)
      obtain ⟨mu36, hR, H⟩ := hw_
      refine k_sl ?_
      obtain ⟨hc_, H⟩ := H
      refine k_widen (k := cB) (n := 16 * cB) hc_ (Nat.mul_le_mul_left 16 hc_) ?_
      exact k_vret C (pc := 72) hr dX7_line_72 ⟨mu36, hR, H⟩
  have B39 : ∀  (ws : va_W) (mu : Mu) (u : Nat) (v0 : Nat) (v1 : Int32) (v2 : Int32) (v3 : Int32) (v4 : Int32) (v5 : Int32) (v6 : Int32), LR cA w0 ws mu → wpX7_line_b39 WX7_paragraph WX7_line cB Post  mu u v0 v1 v2 v3 v4 v5 v6 → Kf p l e { frames := f0 + 3, cells := cB, slots := 16 * cB, locals := k0 + 60 } s m args below meth c D (va_A ws0 s.heap.size) 8 u (16 * u) (MQ below (QC D ws0 s.heap.size (PV (fun w1 => ∃ m1, LR cA w0 w1 m1 ∧ Post m1))) args s cB (16 * cB) (va_A ws0 s.heap.size)) ws 39 [(0, .ref v0), (1, .int v1), (2, .int v2), (3, .int v3), (4, .int v4), (5, .int v5), (6, .int v6)] [] := by
    intro  ws mu u v0 v1 v2 v3 v4 v5 v6 hR H
    have H : wpX7_line_b40 WX7_paragraph WX7_line cB Post  mu u v0 v1 v2 v3 v4 v5 v6 (0 : Int32) := H
    refine k_iconst C (pc := 39) (v := (0 : Int32)) dX7_line_39 rfl ?_
    refine k_lv (pc := 40) [0, 1, 2, 3, 4, 5, 6] (lv' := [(0, .ref v0), (1, .int v1), (2, .int v2), (3, .int v3), (4, .int v4), (5, .int v5), (6, .int v6)]) rfl ?_
    exact B40  _ mu u v0 v1 v2 v3 v4 v5 v6 (0 : Int32) hR H
  refine k_eq (ws' := ws0) (lv' := [(0, .ref v0), (1, .int v1), (2, .int v2), (3, .int v3), (4, .int v4), (5, .int v5), (6, .int v6)]) (st' := []) rfl rfl rfl ?_
  have H : (¬ v2 = v3 → (¬ v2 = 0 → wpX7_line_b39 WX7_paragraph WX7_line cB Post  mu 0 v0 v1 v2 v3 v4 v5 v6) ∧ (v2 = 0 → ∃ x37, mB mu v0 = some x37 ∧ ∃ a37, x37.2.2.2.2.2.1 = some a37 ∧ ∃ n38 f38 k38, mQ mu a37 = some (2, n38, f38) ∧ v1 = nI k38 ∧ k38 < n38 ∧ n38 ≤ 1000 ∧ ∃ a38, f38 k38 = some a38 ∧ ∃ x39, mP mu a38 = some x39 ∧ (x39.2.1 = 0 → wpX7_line_b39 WX7_paragraph WX7_line cB Post  mu 0 v0 v1 v2 v3 v4 v5 v6) ∧ (¬ x39.2.1 = 0 → wpX7_line_b40 WX7_paragraph WX7_line cB Post  mu 0 v0 v1 v2 v3 v4 v5 v6 (1 : Int32)))) ∧ (v2 = v3 → ∃ x40, mB mu v0 = some x40 ∧ ∃ q42, 0 + q42 ≤ cB ∧ WX7_paragraph q42 mu v0 (v1 + (1 : Int32)) v4 v5 v6 (fun mu43 => (0 + q42) ≤ cB ∧ Post mu43)) := H
  refine k_widen (k := 0) (n := 16 * 0) (Nat.le_refl _) (Nat.le_refl _) ?_
  refine k_iload_n C 2 (pc := 0) dX7_line_0 rfl rfl ?_
  refine k_iload_n C 3 (pc := 1) dX7_line_1 rfl rfl ?_
  refine k_icmp_ne C (pc := 2) (tgt := 19) dX7_line_2 (by decide) (fun c_2 => ?_) (fun c_2 => ?_)
  · have H := H.1 c_2
    refine k_iload_n C 2 (pc := 19) dX7_line_19 rfl rfl ?_
    refine k_if_ne C (pc := 20) (tgt := 39) dX7_line_20 (by decide) (fun c_20 => ?_) (fun c_20 => ?_)
    · have H := H.1 c_20
      refine k_lv (pc := 39) [0, 1, 2, 3, 4, 5, 6] (lv' := [(0, .ref v0), (1, .int v1), (2, .int v2), (3, .int v3), (4, .int v4), (5, .int v5), (6, .int v6)]) rfl ?_
      exact B39  _ mu 0 v0 v1 v2 v3 v4 v5 v6 hR H
    · have H := H.2 c_20
      refine k_aload_n C 0 (pc := 23) dX7_line_23 rfl rfl ?_
      obtain ⟨x37, hx37, H⟩ := H
      obtain ⟨a37, ha37, H⟩ := H
      refine l_getB C hR (pc := 24) hx37 5 (Nat.lt_of_lt_of_le (Nat.lt_succ_self _) (Nat.le_of_ble_eq_true rfl)) (ref := "WidowWatchLaw$Book") tW_2_72 rfl (v := .ref a37) (by show some (va_rf x37.2.2.2.2.2.1) = _; rw [ha37]; rfl) dX7_line_24 ?_
      refine k_iload_n C 1 (pc := 27) dX7_line_27 rfl rfl ?_
      obtain ⟨n38, f38, k38, hx_, hk_, hl_, hn_, H⟩ := H
      refine k_eq (pc := 28) (st' := [.int (nI k38), .ref a37]) rfl rfl (by rw [hk_]) ?_
      obtain ⟨a38, ha38, H⟩ := H
      refine l_aald C hR (pc := 28) (Or.inl rfl) hx_ hl_ hn_ dX7_line_28 ?_
      refine k_eq (pc := 29) (st' := [.ref a38]) rfl rfl (by rw [ha38]; rfl) ?_
      obtain ⟨x39, hx39, H⟩ := H
      refine l_getP C hR (pc := 29) hx39 1 (Nat.lt_of_lt_of_le (Nat.lt_succ_self _) (Nat.le_of_ble_eq_true rfl)) (ref := "WidowWatchLaw$Para") tW_2_126 rfl (v := .int x39.2.1) rfl dX7_line_29 ?_
      refine k_if_eq C (pc := 32) (tgt := 39) dX7_line_32 (by decide) (fun c_32 => ?_) (fun c_32 => ?_)
      · have H := H.1 c_32
        refine k_lv (pc := 39) [0, 1, 2, 3, 4, 5, 6] (lv' := [(0, .ref v0), (1, .int v1), (2, .int v2), (3, .int v3), (4, .int v4), (5, .int v5), (6, .int v6)]) rfl ?_
        exact B39  _ mu 0 v0 v1 v2 v3 v4 v5 v6 hR H
      · have H := H.2 c_32
        refine k_iconst C (pc := 35) (v := (1 : Int32)) dX7_line_35 rfl ?_
        refine k_goto C (pc := 36) (tgt := 40) dX7_line_36 (by decide) ?_
        refine k_lv (pc := 40) [0, 1, 2, 3, 4, 5, 6] (lv' := [(0, .ref v0), (1, .int v1), (2, .int v2), (3, .int v3), (4, .int v4), (5, .int v5), (6, .int v6)]) rfl ?_
        exact B40  _ mu 0 v0 v1 v2 v3 v4 v5 v6 (1 : Int32) hR H
  · have H := H.2 c_2
    refine k_aload_n C 0 (pc := 5) dX7_line_5 rfl rfl ?_
    refine k_iload_n C 1 (pc := 6) dX7_line_6 rfl rfl ?_
    refine k_iconst C (pc := 7) (v := (1 : Int32)) dX7_line_7 rfl ?_
    refine k_iadd C (pc := 8) dX7_line_8 ?_
    refine k_iload C 4 (pc := 9) dX7_line_9 rfl ?_
    refine k_iload C 5 (pc := 11) dX7_line_11 rfl ?_
    refine k_iload C 6 (pc := 13) dX7_line_13 rfl ?_
    obtain ⟨x40, hx40, H⟩ := H
    obtain ⟨i40, hi40⟩ := List.getElem?_of_mem (hR.B hx40)
    obtain ⟨q42, hc_, H⟩ := H
    refine k_callAv C (pc := 15) (l_runV C hF (As := [.int (v1 + (1 : Int32)), .int v4, .int v5, .int v6]) (rest := []) (ci := 7) (q0 := i40) (hRec_X7_paragraph q42 mu v0 (v1 + (1 : Int32)) v4 v5 v6 _  H hR) ⟨k_cwB C tW_6_84 tW_6_81 tW_1_9 okX7_paragraph rfl rfl ⟨(by show f0 + 1 ≤ f0 + 3; omega), (by show 8 + (7 + 11) + k0 ≤ k0 + 60; omega)⟩, C.w tW_6_83, C.w tW_0_9⟩ hi40 rfl rfl rfl rfl (Nat.le_of_ble_eq_true rfl) dX7_line_15 ⟨hc_, by show 16 * (0) + 16 * q42 ≤ 16 * cB; omega⟩) (fun w1 hw_ => ?_)
    obtain ⟨mu43, hR, H⟩ := hw_
    refine k_sl ?_
    obtain ⟨hc_, H⟩ := H
    refine k_widen (k := cB) (n := 16 * cB) hc_ (Nat.mul_le_mul_left 16 hc_) ?_
    exact k_vret C (pc := 18) hr dX7_line_18 ⟨mu43, hR, H⟩
def wpG : Nat → (Nat → Mu → Nat → Int32 → Int32 → Int32 → Int32 → (Mu → Prop) → Prop) × (Nat → Mu → Nat → Int32 → Int32 → Int32 → Int32 → Int32 → Int32 → (Mu → Prop) → Prop)
  | 0 => (fun _ _ _ _ _ _ _ _ => False, fun _ _ _ _ _ _ _ _ _ _ => False)
  | n + 1 => (wpX7_paragraph_R (wpG n).1 (wpG n).2, wpX7_line_R (wpG n).1 (wpG n).2)
theorem conG (l : Launch) (D : va_G) (cA : Nat → ClassId) : ∀ n : Nat, (∀ (cB : Nat) (mu : Mu) (v0 : Nat) (v1 : Int32) (v2 : Int32) (v3 : Int32) (v4 : Int32) (Post : Mu → Prop), (wpG n).1 cB mu v0 v1 v2 v3 v4 Post → ∀ {w0 ws0 : va_W}, LR cA w0 ws0 mu → ConN l D cA yX7_paragraph (wm yX7_paragraph cX7_paragraph 7 none) { frames := 3 * n, cells := cB, slots := 16 * cB, locals := 60 * n } ws0 [.ref v0, .int v1, .int v2, .int v3, .int v4] cB (16 * cB) (PV (fun w1 => ∃ m1, LR cA w0 w1 m1 ∧ Post m1))) ∧ (∀ (cB : Nat) (mu : Mu) (v0 : Nat) (v1 : Int32) (v2 : Int32) (v3 : Int32) (v4 : Int32) (v5 : Int32) (v6 : Int32) (Post : Mu → Prop), (wpG n).2 cB mu v0 v1 v2 v3 v4 v5 v6 Post → ∀ {w0 ws0 : va_W}, LR cA w0 ws0 mu → ConN l D cA yX7_line (wm yX7_line cX7_line 8 none) { frames := 3 * n, cells := cB, slots := 16 * cB, locals := 60 * n } ws0 [.ref v0, .int v1, .int v2, .int v3, .int v4, .int v5, .int v6] cB (16 * cB) (PV (fun w1 => ∃ m1, LR cA w0 w1 m1 ∧ Post m1)))
  | 0 => ⟨fun _ _ _ _ _ _ _ _ => fun h => h.elim, fun _ _ _ _ _ _ _ _ _ _ => fun h => h.elim⟩
  | n + 1 => by
    obtain ⟨h1, h2⟩ := conG l D cA n
    exact ⟨fun x0 x1 x2 x3 x4 x5 x6 x7 => fun h => fun hR => bodyX7_paragraph l D cA (3 * n) (60 * n) _ _ h1 h2 x0 x1 x2 x3 x4 x5 x6 x7 h hR, fun x0 x1 x2 x3 x4 x5 x6 x7 x8 x9 => fun h => fun hR => bodyX7_line l D cA (3 * n) (60 * n) _ _ h1 h2 x0 x1 x2 x3 x4 x5 x6 x7 x8 x9 h hR⟩
def wpX7_paragraph (cB : Nat) (mu : Mu) (v0 : Nat) (v1 : Int32) (v2 : Int32) (v3 : Int32) (v4 : Int32) (Post : Mu → Prop) : Prop := (wpG 32).1 cB mu v0 v1 v2 v3 v4 Post
theorem conX7_paragraph (l : Launch) (D : va_G) (cA : Nat → ClassId) (cB : Nat) (mu : Mu) (v0 : Nat) (v1 : Int32) (v2 : Int32) (v3 : Int32) (v4 : Int32) (Post : Mu → Prop) (H : wpX7_paragraph cB mu v0 v1 v2 v3 v4 Post) {w0 ws0 : va_W} (hR : LR cA w0 ws0 mu) : ConN l D cA yX7_paragraph (wm yX7_paragraph cX7_paragraph 7 none) { frames := 96, cells := cB, slots := 16 * cB, locals := 1920 } ws0 [.ref v0, .int v1, .int v2, .int v3, .int v4] cB (16 * cB) (PV (fun w1 => ∃ m1, LR cA w0 w1 m1 ∧ Post m1)) :=
  (conG l D cA 32).1 cB mu v0 v1 v2 v3 v4 Post H hR
def wpX7_line (cB : Nat) (mu : Mu) (v0 : Nat) (v1 : Int32) (v2 : Int32) (v3 : Int32) (v4 : Int32) (v5 : Int32) (v6 : Int32) (Post : Mu → Prop) : Prop := (wpG 32).2 cB mu v0 v1 v2 v3 v4 v5 v6 Post
theorem conX7_line (l : Launch) (D : va_G) (cA : Nat → ClassId) (cB : Nat) (mu : Mu) (v0 : Nat) (v1 : Int32) (v2 : Int32) (v3 : Int32) (v4 : Int32) (v5 : Int32) (v6 : Int32) (Post : Mu → Prop) (H : wpX7_line cB mu v0 v1 v2 v3 v4 v5 v6 Post) {w0 ws0 : va_W} (hR : LR cA w0 ws0 mu) : ConN l D cA yX7_line (wm yX7_line cX7_line 8 none) { frames := 96, cells := cB, slots := 16 * cB, locals := 1920 } ws0 [.ref v0, .int v1, .int v2, .int v3, .int v4, .int v5, .int v6] cB (16 * cB) (PV (fun w1 => ∃ m1, LR cA w0 w1 m1 ∧ Post m1)) :=
  (conG l D cA 32).2 cB mu v0 v1 v2 v3 v4 v5 v6 Post H hR
/-! WidowWatchLaw$Book.best()LWidowWatchLaw$Plan; -/
theorem dX7_best_0 : decode cX7_best 0 = .ok (.aload_n 0, 1) := by decide +kernel
theorem dX7_best_1 : decode cX7_best 1 = .ok (.aconst_null, 1) := by decide +kernel
theorem dX7_best_2 : decode cX7_best 2 = .ok (.putfield 58, 3) := by decide +kernel
theorem dX7_best_5 : decode cX7_best 5 = .ok (.aload_n 0, 1) := by decide +kernel
theorem dX7_best_6 : decode cX7_best 6 = .ok (.aload_n 0, 1) := by decide +kernel
theorem dX7_best_7 : decode cX7_best 7 = .ok (.getfield 28, 3) := by decide +kernel
theorem dX7_best_10 : decode cX7_best 10 = .ok (.arraylength, 1) := by decide +kernel
theorem dX7_best_11 : decode cX7_best 11 = .ok (.newarray .int, 2) := by decide +kernel
theorem dX7_best_13 : decode cX7_best 13 = .ok (.putfield 67, 3) := by decide +kernel
theorem dX7_best_16 : decode cX7_best 16 = .ok (.aload_n 0, 1) := by decide +kernel
theorem dX7_best_17 : decode cX7_best 17 = .ok (.iconst 0, 1) := by decide +kernel
theorem dX7_best_18 : decode cX7_best 18 = .ok (.putfield 71, 3) := by decide +kernel
theorem dX7_best_21 : decode cX7_best 21 = .ok (.aload_n 0, 1) := by decide +kernel
theorem dX7_best_22 : decode cX7_best 22 = .ok (.iconst 0, 1) := by decide +kernel
theorem dX7_best_23 : decode cX7_best 23 = .ok (.iconst 0, 1) := by decide +kernel
theorem dX7_best_24 : decode cX7_best 24 = .ok (.iconst 0, 1) := by decide +kernel
theorem dX7_best_25 : decode cX7_best 25 = .ok (.iconst 0, 1) := by decide +kernel
theorem dX7_best_26 : decode cX7_best 26 = .ok (.invokevirtual 86, 3) := by decide +kernel
theorem dX7_best_29 : decode cX7_best 29 = .ok (.aload_n 0, 1) := by decide +kernel
theorem dX7_best_30 : decode cX7_best 30 = .ok (.getfield 58, 3) := by decide +kernel
theorem dX7_best_33 : decode cX7_best 33 = .ok (.areturn, 1) := by decide +kernel
theorem okX7_best : okY yX7_best 0 := ⟨by decide +kernel, by decide +kernel, by decide +kernel⟩
def wpX7_best (cB : Nat) (mu : Mu) (v0 : Nat) (Post : Nat → Mu → Prop) : Prop := ∃ x1, mB mu v0 = some x1 ∧ ∀ mu2, mu2 = sB mu v0 (x1.1, x1.2.1, x1.2.2.1, x1.2.2.2.1, x1.2.2.2.2.1, x1.2.2.2.2.2.1, none, x1.2.2.2.2.2.2.2.1, x1.2.2.2.2.2.2.2.2.1, x1.2.2.2.2.2.2.2.2.2) → ∃ x3, mB mu2 v0 = some x3 ∧ ∃ a3, x3.2.2.2.2.2.1 = some a3 ∧ ∃ n4 f4, mQ mu2 a3 = some (2, n4, f4) ∧ ∃ n5, nI n4 = nI n5 ∧ n5 ≤ 1000 ∧ 0 + (1 + n5 / 16) ≤ cB ∧ ∀ a5, frM mu2 a5 → ∀ mu6, mu6 = sI mu2 a5 (n5, fun _ => 0) → ∃ x7, mB mu6 v0 = some x7 ∧ ∀ mu8, mu8 = sB mu6 v0 (x7.1, x7.2.1, x7.2.2.1, x7.2.2.2.1, x7.2.2.2.2.1, x7.2.2.2.2.2.1, x7.2.2.2.2.2.2.1, some a5, x7.2.2.2.2.2.2.2.2.1, x7.2.2.2.2.2.2.2.2.2) → ∃ x9, mB mu8 v0 = some x9 ∧ ∀ mu10, mu10 = sB mu8 v0 (x9.1, x9.2.1, x9.2.2.1, x9.2.2.2.1, x9.2.2.2.2.1, x9.2.2.2.2.2.1, x9.2.2.2.2.2.2.1, x9.2.2.2.2.2.2.2.1, x9.2.2.2.2.2.2.2.2.1, (0 : Int32)) → ∃ x11, mB mu10 v0 = some x11 ∧ ∃ q13, (0 + (1 + n5 / 16)) + q13 ≤ cB ∧ wpX7_paragraph q13 mu10 v0 (0 : Int32) (0 : Int32) (0 : Int32) (0 : Int32) (fun mu14 => ∃ x15, mB mu14 v0 = some x15 ∧ ∃ a15, x15.2.2.2.2.2.2.1 = some a15 ∧ ((0 + (1 + n5 / 16)) + q13) ≤ cB ∧ Post a15 mu14)
set_option maxHeartbeats 4000000 in
set_option maxRecDepth 100000 in
theorem conX7_best (l : Launch) (D : va_G) (cA : Nat → ClassId) (cB : Nat) (mu : Mu) (v0 : Nat) (Post : Nat → Mu → Prop)  (H : wpX7_best cB mu v0 Post) {w0 ws0 : va_W} (hR : LR cA w0 ws0 mu) : ConN l D cA yX7_best (wm yX7_best cX7_best 1 (some (.object "WidowWatchLaw$Plan"))) { frames := 97, cells := cB, slots := 16 * cB, locals := 1946 } ws0 [.ref v0] cB (16 * cB) (PR (fun r w1 => ∃ m1, LR cA w0 w1 m1 ∧ Post r m1)) := by
  refine ConN.of (by decide) (Nat.le_of_ble_eq_true rfl) ?_
  intro p e s m args below meth c C hF hr hini
  refine k_eq (ws' := ws0) (lv' := [(0, .ref v0)]) (st' := []) rfl rfl rfl ?_
  have H : ∃ x1, mB mu v0 = some x1 ∧ ∀ mu2, mu2 = sB mu v0 (x1.1, x1.2.1, x1.2.2.1, x1.2.2.2.1, x1.2.2.2.2.1, x1.2.2.2.2.2.1, none, x1.2.2.2.2.2.2.2.1, x1.2.2.2.2.2.2.2.2.1, x1.2.2.2.2.2.2.2.2.2) → ∃ x3, mB mu2 v0 = some x3 ∧ ∃ a3, x3.2.2.2.2.2.1 = some a3 ∧ ∃ n4 f4, mQ mu2 a3 = some (2, n4, f4) ∧ ∃ n5, nI n4 = nI n5 ∧ n5 ≤ 1000 ∧ 0 + (1 + n5 / 16) ≤ cB ∧ ∀ a5, frM mu2 a5 → ∀ mu6, mu6 = sI mu2 a5 (n5, fun _ => 0) → ∃ x7, mB mu6 v0 = some x7 ∧ ∀ mu8, mu8 = sB mu6 v0 (x7.1, x7.2.1, x7.2.2.1, x7.2.2.2.1, x7.2.2.2.2.1, x7.2.2.2.2.2.1, x7.2.2.2.2.2.2.1, some a5, x7.2.2.2.2.2.2.2.2.1, x7.2.2.2.2.2.2.2.2.2) → ∃ x9, mB mu8 v0 = some x9 ∧ ∀ mu10, mu10 = sB mu8 v0 (x9.1, x9.2.1, x9.2.2.1, x9.2.2.2.1, x9.2.2.2.2.1, x9.2.2.2.2.2.1, x9.2.2.2.2.2.2.1, x9.2.2.2.2.2.2.2.1, x9.2.2.2.2.2.2.2.2.1, (0 : Int32)) → ∃ x11, mB mu10 v0 = some x11 ∧ ∃ q13, (0 + (1 + n5 / 16)) + q13 ≤ cB ∧ wpX7_paragraph q13 mu10 v0 (0 : Int32) (0 : Int32) (0 : Int32) (0 : Int32) (fun mu14 => ∃ x15, mB mu14 v0 = some x15 ∧ ∃ a15, x15.2.2.2.2.2.2.1 = some a15 ∧ ((0 + (1 + n5 / 16)) + q13) ≤ cB ∧ Post a15 mu14) := H
  refine k_widen (k := 0) (n := 16 * 0) (Nat.le_refl _) (Nat.le_refl _) ?_
  refine k_aload_n C 0 (pc := 0) dX7_best_0 rfl rfl ?_
  refine l_null C (pc := 1) dX7_best_1 ?_
  obtain ⟨x1, hx1, H⟩ := H
  refine l_putB C hR (pc := 2) hx1 6 (Nat.lt_of_lt_of_le (Nat.lt_succ_self _) (Nat.le_of_ble_eq_true rfl)) (ref := "WidowWatchLaw$Book") tW_2_74 rfl rfl  rfl rfl rfl (x1 := ((x1.1, x1.2.1, x1.2.2.1, x1.2.2.2.1, x1.2.2.2.2.1, x1.2.2.2.2.2.1, none, x1.2.2.2.2.2.2.2.1, x1.2.2.2.2.2.2.2.2.1, x1.2.2.2.2.2.2.2.2.2))) rfl dX7_best_2 (fun w1 hR => ?_)
  obtain ⟨mu2, hm2⟩ : ∃ m_, m_ = sB mu v0 (x1.1, x1.2.1, x1.2.2.1, x1.2.2.2.1, x1.2.2.2.2.1, x1.2.2.2.2.2.1, none, x1.2.2.2.2.2.2.2.1, x1.2.2.2.2.2.2.2.2.1, x1.2.2.2.2.2.2.2.2.2) := ⟨_, rfl⟩
  rw [← hm2] at hR
  have H := H mu2 hm2
  refine k_aload_n C 0 (pc := 5) dX7_best_5 rfl rfl ?_
  refine k_aload_n C 0 (pc := 6) dX7_best_6 rfl rfl ?_
  obtain ⟨x3, hx3, H⟩ := H
  obtain ⟨a3, ha3, H⟩ := H
  refine l_getB C hR (pc := 7) hx3 5 (Nat.lt_of_lt_of_le (Nat.lt_succ_self _) (Nat.le_of_ble_eq_true rfl)) (ref := "WidowWatchLaw$Book") tW_2_72 rfl (v := .ref a3) (by show some (va_rf x3.2.2.2.2.2.1) = _; rw [ha3]; rfl) dX7_best_7 ?_
  obtain ⟨n4, f4, hx_, H⟩ := H
  refine l_alenQ C hR (pc := 10) (Or.inl rfl) hx_ dX7_best_10 ?_
  obtain ⟨n5, hk_, hn_, hc_, H⟩ := H
  refine k_eq (pc := 11) (st' := [.int (nI n5), .ref v0]) rfl rfl (by rw [hk_]) ?_
  refine l_newI C hR (u := 0) (pc := 11) hn_ hc_ (Nat.mul_le_mul_left 16 hc_) dX7_best_11 (fun a5 w1 hf_ hR => ?_)
  have H := H a5 hf_
  obtain ⟨mu6, hm6⟩ : ∃ m_, m_ = sI mu2 a5 (n5, fun _ => 0) := ⟨_, rfl⟩
  rw [← hm6] at hR
  have H := H mu6 hm6
  obtain ⟨x7, hx7, H⟩ := H
  refine l_putB C hR (pc := 13) hx7 7 (Nat.lt_of_lt_of_le (Nat.lt_succ_self _) (Nat.le_of_ble_eq_true rfl)) (ref := "WidowWatchLaw$Book") tW_2_75 rfl rfl  rfl rfl rfl (x1 := ((x7.1, x7.2.1, x7.2.2.1, x7.2.2.2.1, x7.2.2.2.2.1, x7.2.2.2.2.2.1, x7.2.2.2.2.2.2.1, some a5, x7.2.2.2.2.2.2.2.2.1, x7.2.2.2.2.2.2.2.2.2))) rfl dX7_best_13 (fun w1 hR => ?_)
  obtain ⟨mu8, hm8⟩ : ∃ m_, m_ = sB mu6 v0 (x7.1, x7.2.1, x7.2.2.1, x7.2.2.2.1, x7.2.2.2.2.1, x7.2.2.2.2.2.1, x7.2.2.2.2.2.2.1, some a5, x7.2.2.2.2.2.2.2.2.1, x7.2.2.2.2.2.2.2.2.2) := ⟨_, rfl⟩
  rw [← hm8] at hR
  have H := H mu8 hm8
  refine k_aload_n C 0 (pc := 16) dX7_best_16 rfl rfl ?_
  refine k_iconst C (pc := 17) (v := (0 : Int32)) dX7_best_17 rfl ?_
  obtain ⟨x9, hx9, H⟩ := H
  refine l_putB C hR (pc := 18) hx9 9 (Nat.lt_of_lt_of_le (Nat.lt_succ_self _) (Nat.le_of_ble_eq_true rfl)) (ref := "WidowWatchLaw$Book") tW_2_77 rfl rfl  (ty := .int) rfl rfl rfl (x1 := ((x9.1, x9.2.1, x9.2.2.1, x9.2.2.2.1, x9.2.2.2.2.1, x9.2.2.2.2.2.1, x9.2.2.2.2.2.2.1, x9.2.2.2.2.2.2.2.1, x9.2.2.2.2.2.2.2.2.1, (0 : Int32)))) rfl dX7_best_18 (fun w1 hR => ?_)
  obtain ⟨mu10, hm10⟩ : ∃ m_, m_ = sB mu8 v0 (x9.1, x9.2.1, x9.2.2.1, x9.2.2.2.1, x9.2.2.2.2.1, x9.2.2.2.2.2.1, x9.2.2.2.2.2.2.1, x9.2.2.2.2.2.2.2.1, x9.2.2.2.2.2.2.2.2.1, (0 : Int32)) := ⟨_, rfl⟩
  rw [← hm10] at hR
  have H := H mu10 hm10
  refine k_aload_n C 0 (pc := 21) dX7_best_21 rfl rfl ?_
  refine k_iconst C (pc := 22) (v := (0 : Int32)) dX7_best_22 rfl ?_
  refine k_iconst C (pc := 23) (v := (0 : Int32)) dX7_best_23 rfl ?_
  refine k_iconst C (pc := 24) (v := (0 : Int32)) dX7_best_24 rfl ?_
  refine k_iconst C (pc := 25) (v := (0 : Int32)) dX7_best_25 rfl ?_
  obtain ⟨x11, hx11, H⟩ := H
  obtain ⟨i11, hi11⟩ := List.getElem?_of_mem (hR.B hx11)
  obtain ⟨q13, hc_, H⟩ := H
  refine k_callAv C (pc := 26) (l_runV C hF (As := [.int (0 : Int32), .int (0 : Int32), .int (0 : Int32), .int (0 : Int32)]) (rest := []) (ci := 7) (q0 := i11) (conX7_paragraph l D cA q13 mu10 v0 (0 : Int32) (0 : Int32) (0 : Int32) (0 : Int32) _  H hR) ⟨k_cwB C tW_6_84 tW_6_81 tW_1_9 okX7_paragraph rfl rfl ⟨Nat.le_of_ble_eq_true rfl, Nat.le_of_ble_eq_true rfl⟩, C.w tW_6_83, C.w tW_0_9⟩ hi11 rfl rfl rfl rfl (Nat.le_of_ble_eq_true rfl) dX7_best_26 ⟨hc_, by show 16 * (0 + (1 + n5 / 16)) + 16 * q13 ≤ 16 * cB; omega⟩) (fun w1 hw_ => ?_)
  obtain ⟨mu14, hR, H⟩ := hw_
  refine k_sl ?_
  refine k_aload_n C 0 (pc := 29) dX7_best_29 rfl rfl ?_
  obtain ⟨x15, hx15, H⟩ := H
  obtain ⟨a15, ha15, H⟩ := H
  refine l_getB C hR (pc := 30) hx15 6 (Nat.lt_of_lt_of_le (Nat.lt_succ_self _) (Nat.le_of_ble_eq_true rfl)) (ref := "WidowWatchLaw$Book") tW_2_74 rfl (v := .ref a15) (by show some (va_rf x15.2.2.2.2.2.2.1) = _; rw [ha15]; rfl) dX7_best_30 ?_
  obtain ⟨hc_, H⟩ := H
  refine k_widen (k := cB) (n := 16 * cB) hc_ (Nat.mul_le_mul_left 16 hc_) ?_
  exact k_aret C (pc := 33) hr (Or.inl ⟨_, rfl⟩) dX7_best_33 ⟨mu14, hR, H⟩
/-! WidowWatchLaw$Book.plan(Z)LWidowWatchLaw$Plan; -/
theorem dX7_plan_0 : decode cX7_plan 0 = .ok (.iload_n 1, 1) := by decide +kernel
theorem dX7_plan_1 : decode cX7_plan 1 = .ok (.ifCond .eq 10, 3) := by decide +kernel
theorem dX7_plan_4 : decode cX7_plan 4 = .ok (.aload_n 0, 1) := by decide +kernel
theorem dX7_plan_5 : decode cX7_plan 5 = .ok (.invokevirtual 97, 3) := by decide +kernel
theorem dX7_plan_8 : decode cX7_plan 8 = .ok (.goto 14, 3) := by decide +kernel
theorem dX7_plan_11 : decode cX7_plan 11 = .ok (.aload_n 0, 1) := by decide +kernel
theorem dX7_plan_12 : decode cX7_plan 12 = .ok (.aload_n 0, 1) := by decide +kernel
theorem dX7_plan_13 : decode cX7_plan 13 = .ok (.getfield 28, 3) := by decide +kernel
theorem dX7_plan_16 : decode cX7_plan 16 = .ok (.arraylength, 1) := by decide +kernel
theorem dX7_plan_17 : decode cX7_plan 17 = .ok (.newarray .int, 2) := by decide +kernel
theorem dX7_plan_19 : decode cX7_plan 19 = .ok (.invokevirtual 100, 3) := by decide +kernel
theorem dX7_plan_22 : decode cX7_plan 22 = .ok (.areturn, 1) := by decide +kernel
theorem okX7_plan : okY yX7_plan 1 := ⟨by decide +kernel, by decide +kernel, by decide +kernel⟩
def wpX7_plan (cB : Nat) (mu : Mu) (v0 : Nat) (v1 : Int32) (Post : Nat → Mu → Prop) : Prop := (v1 = 0 → ∃ x1, mB mu v0 = some x1 ∧ ∃ a1, x1.2.2.2.2.2.1 = some a1 ∧ ∃ n2 f2, mQ mu a1 = some (2, n2, f2) ∧ ∃ n3, nI n2 = nI n3 ∧ n3 ≤ 1000 ∧ 0 + (1 + n3 / 16) ≤ cB ∧ ∀ a3, frM mu a3 → ∀ mu4, mu4 = sI mu a3 (n3, fun _ => 0) → ∃ x5, mB mu4 v0 = some x5 ∧ ∃ q7, (0 + (1 + n3 / 16)) + q7 ≤ cB ∧ wpX7_plain q7 mu4 v0 a3 (fun r6 mu8 => ((0 + (1 + n3 / 16)) + q7) ≤ cB ∧ Post r6 mu8)) ∧ (¬ v1 = 0 → ∃ x9, mB mu v0 = some x9 ∧ ∃ q11, 0 + q11 ≤ cB ∧ wpX7_best q11 mu v0 (fun r10 mu12 => (0 + q11) ≤ cB ∧ Post r10 mu12))
set_option maxHeartbeats 4000000 in
set_option maxRecDepth 100000 in
theorem conX7_plan (l : Launch) (D : va_G) (cA : Nat → ClassId) (cB : Nat) (mu : Mu) (v0 : Nat) (v1 : Int32) (Post : Nat → Mu → Prop)  (H : wpX7_plan cB mu v0 v1 Post) {w0 ws0 : va_W} (hR : LR cA w0 ws0 mu) : ConN l D cA yX7_plan (wm yX7_plan cX7_plan 2 (some (.object "WidowWatchLaw$Plan"))) { frames := 98, cells := cB, slots := 16 * cB, locals := 1966 } ws0 [.ref v0, .int v1] cB (16 * cB) (PR (fun r w1 => ∃ m1, LR cA w0 w1 m1 ∧ Post r m1)) := by
  refine ConN.of (by decide) (Nat.le_of_ble_eq_true rfl) ?_
  intro p e s m args below meth c C hF hr hini
  refine k_eq (ws' := ws0) (lv' := [(0, .ref v0), (1, .int v1)]) (st' := []) rfl rfl rfl ?_
  have H : (v1 = 0 → ∃ x1, mB mu v0 = some x1 ∧ ∃ a1, x1.2.2.2.2.2.1 = some a1 ∧ ∃ n2 f2, mQ mu a1 = some (2, n2, f2) ∧ ∃ n3, nI n2 = nI n3 ∧ n3 ≤ 1000 ∧ 0 + (1 + n3 / 16) ≤ cB ∧ ∀ a3, frM mu a3 → ∀ mu4, mu4 = sI mu a3 (n3, fun _ => 0) → ∃ x5, mB mu4 v0 = some x5 ∧ ∃ q7, (0 + (1 + n3 / 16)) + q7 ≤ cB ∧ wpX7_plain q7 mu4 v0 a3 (fun r6 mu8 => ((0 + (1 + n3 / 16)) + q7) ≤ cB ∧ Post r6 mu8)) ∧ (¬ v1 = 0 → ∃ x9, mB mu v0 = some x9 ∧ ∃ q11, 0 + q11 ≤ cB ∧ wpX7_best q11 mu v0 (fun r10 mu12 => (0 + q11) ≤ cB ∧ Post r10 mu12)) := H
  refine k_widen (k := 0) (n := 16 * 0) (Nat.le_refl _) (Nat.le_refl _) ?_
  refine k_iload_n C 1 (pc := 0) dX7_plan_0 rfl rfl ?_
  refine k_if_eq C (pc := 1) (tgt := 11) dX7_plan_1 (by decide) (fun c_1 => ?_) (fun c_1 => ?_)
  · have H := H.1 c_1
    refine k_aload_n C 0 (pc := 11) dX7_plan_11 rfl rfl ?_
    refine k_aload_n C 0 (pc := 12) dX7_plan_12 rfl rfl ?_
    obtain ⟨x1, hx1, H⟩ := H
    obtain ⟨a1, ha1, H⟩ := H
    refine l_getB C hR (pc := 13) hx1 5 (Nat.lt_of_lt_of_le (Nat.lt_succ_self _) (Nat.le_of_ble_eq_true rfl)) (ref := "WidowWatchLaw$Book") tW_2_72 rfl (v := .ref a1) (by show some (va_rf x1.2.2.2.2.2.1) = _; rw [ha1]; rfl) dX7_plan_13 ?_
    obtain ⟨n2, f2, hx_, H⟩ := H
    refine l_alenQ C hR (pc := 16) (Or.inl rfl) hx_ dX7_plan_16 ?_
    obtain ⟨n3, hk_, hn_, hc_, H⟩ := H
    refine k_eq (pc := 17) (st' := [.int (nI n3), .ref v0]) rfl rfl (by rw [hk_]) ?_
    refine l_newI C hR (u := 0) (pc := 17) hn_ hc_ (Nat.mul_le_mul_left 16 hc_) dX7_plan_17 (fun a3 w1 hf_ hR => ?_)
    have H := H a3 hf_
    obtain ⟨mu4, hm4⟩ : ∃ m_, m_ = sI mu a3 (n3, fun _ => 0) := ⟨_, rfl⟩
    rw [← hm4] at hR
    have H := H mu4 hm4
    obtain ⟨x5, hx5, H⟩ := H
    obtain ⟨i5, hi5⟩ := List.getElem?_of_mem (hR.B hx5)
    obtain ⟨q7, hc_, H⟩ := H
    refine k_callAr C (pc := 19) (l_runV C hF (As := [.ref a3]) (rest := []) (ci := 7) (q0 := i5) (conX7_plain l D cA q7 mu4 v0 a3 _  H hR) ⟨k_cwB C tW_6_128 tW_6_125 tW_1_9 okX7_plain rfl rfl ⟨Nat.le_of_ble_eq_true rfl, Nat.le_of_ble_eq_true rfl⟩, C.w tW_6_126, C.w tW_6_127⟩ hi5 rfl rfl rfl rfl (Nat.le_of_ble_eq_true rfl) dX7_plan_19 ⟨hc_, by show 16 * (0 + (1 + n3 / 16)) + 16 * q7 ≤ 16 * cB; omega⟩) (fun r6 w1 hw_ => ?_)
    obtain ⟨mu8, hR, H⟩ := hw_
    refine k_sl ?_
    obtain ⟨hc_, H⟩ := H
    refine k_widen (k := cB) (n := 16 * cB) hc_ (Nat.mul_le_mul_left 16 hc_) ?_
    exact k_aret C (pc := 22) hr (Or.inl ⟨_, rfl⟩) dX7_plan_22 ⟨mu8, hR, H⟩
  · have H := H.2 c_1
    refine k_aload_n C 0 (pc := 4) dX7_plan_4 rfl rfl ?_
    obtain ⟨x9, hx9, H⟩ := H
    obtain ⟨i9, hi9⟩ := List.getElem?_of_mem (hR.B hx9)
    obtain ⟨q11, hc_, H⟩ := H
    refine k_callAr C (pc := 5) (l_runV C hF (As := []) (rest := []) (ci := 7) (q0 := i9) (conX7_best l D cA q11 mu v0 _  H hR) ⟨k_cwB C tW_6_80 tW_6_77 tW_1_9 okX7_best rfl rfl ⟨Nat.le_of_ble_eq_true rfl, Nat.le_of_ble_eq_true rfl⟩, C.w tW_6_78, C.w tW_6_79⟩ hi9 rfl rfl rfl rfl (Nat.le_of_ble_eq_true rfl) dX7_plan_5 ⟨hc_, by show 16 * (0) + 16 * q11 ≤ 16 * cB; omega⟩) (fun r10 w1 hw_ => ?_)
    obtain ⟨mu12, hR, H⟩ := hw_
    refine k_sl ?_
    refine k_goto C (pc := 8) (tgt := 22) dX7_plan_8 (by decide) ?_
    obtain ⟨hc_, H⟩ := H
    refine k_widen (k := cB) (n := 16 * cB) hc_ (Nat.mul_le_mul_left 16 hc_) ?_
    exact k_aret C (pc := 22) hr (Or.inl ⟨_, rfl⟩) dX7_plan_22 ⟨mu12, hR, H⟩
/-! WidowWatchLaw$Book.checksum()J -/
theorem dX7_checksum_0 : decode cX7_checksum 0 = .ok (.aload_n 0, 1) := by decide +kernel
theorem dX7_checksum_1 : decode cX7_checksum 1 = .ok (.invokevirtual 97, 3) := by decide +kernel
theorem dX7_checksum_4 : decode cX7_checksum 4 = .ok (.astore_n 1, 1) := by decide +kernel
theorem dX7_checksum_5 : decode cX7_checksum 5 = .ok (.lconst 0, 1) := by decide +kernel
theorem dX7_checksum_6 : decode cX7_checksum 6 = .ok (.lstore_n 2, 1) := by decide +kernel
theorem dX7_checksum_7 : decode cX7_checksum 7 = .ok (.iconst 0, 1) := by decide +kernel
theorem dX7_checksum_8 : decode cX7_checksum 8 = .ok (.istore 4, 2) := by decide +kernel
theorem dX7_checksum_10 : decode cX7_checksum 10 = .ok (.iload 4, 2) := by decide +kernel
theorem dX7_checksum_12 : decode cX7_checksum 12 = .ok (.bipush 13, 2) := by decide +kernel
theorem dX7_checksum_14 : decode cX7_checksum 14 = .ok (.if_icmp .ge 23, 3) := by decide +kernel
theorem dX7_checksum_17 : decode cX7_checksum 17 = .ok (.ldc2_w 120, 3) := by decide +kernel
theorem dX7_checksum_20 : decode cX7_checksum 20 = .ok (.lload_n 2, 1) := by decide +kernel
theorem dX7_checksum_21 : decode cX7_checksum 21 = .ok (.lmul, 1) := by decide +kernel
theorem dX7_checksum_22 : decode cX7_checksum 22 = .ok (.aload_n 0, 1) := by decide +kernel
theorem dX7_checksum_23 : decode cX7_checksum 23 = .ok (.iload 4, 2) := by decide +kernel
theorem dX7_checksum_25 : decode cX7_checksum 25 = .ok (.invokevirtual 122, 3) := by decide +kernel
theorem dX7_checksum_28 : decode cX7_checksum 28 = .ok (.i2l, 1) := by decide +kernel
theorem dX7_checksum_29 : decode cX7_checksum 29 = .ok (.ladd, 1) := by decide +kernel
theorem dX7_checksum_30 : decode cX7_checksum 30 = .ok (.lstore_n 2, 1) := by decide +kernel
theorem dX7_checksum_31 : decode cX7_checksum 31 = .ok (.iinc 4 1, 3) := by decide +kernel
theorem dX7_checksum_34 : decode cX7_checksum 34 = .ok (.goto (-24), 3) := by decide +kernel
theorem dX7_checksum_37 : decode cX7_checksum 37 = .ok (.iconst 0, 1) := by decide +kernel
theorem dX7_checksum_38 : decode cX7_checksum 38 = .ok (.istore 4, 2) := by decide +kernel
theorem dX7_checksum_40 : decode cX7_checksum 40 = .ok (.iload 4, 2) := by decide +kernel
theorem dX7_checksum_42 : decode cX7_checksum 42 = .ok (.aload_n 0, 1) := by decide +kernel
theorem dX7_checksum_43 : decode cX7_checksum 43 = .ok (.getfield 28, 3) := by decide +kernel
theorem dX7_checksum_46 : decode cX7_checksum 46 = .ok (.arraylength, 1) := by decide +kernel
theorem dX7_checksum_47 : decode cX7_checksum 47 = .ok (.if_icmp .ge 42, 3) := by decide +kernel
theorem dX7_checksum_50 : decode cX7_checksum 50 = .ok (.iconst 0, 1) := by decide +kernel
theorem dX7_checksum_51 : decode cX7_checksum 51 = .ok (.istore 5, 2) := by decide +kernel
theorem dX7_checksum_53 : decode cX7_checksum 53 = .ok (.iload 5, 2) := by decide +kernel
theorem dX7_checksum_55 : decode cX7_checksum 55 = .ok (.bipush 8, 2) := by decide +kernel
theorem dX7_checksum_57 : decode cX7_checksum 57 = .ok (.if_icmp .ge 26, 3) := by decide +kernel
theorem dX7_checksum_60 : decode cX7_checksum 60 = .ok (.ldc2_w 120, 3) := by decide +kernel
theorem dX7_checksum_63 : decode cX7_checksum 63 = .ok (.lload_n 2, 1) := by decide +kernel
theorem dX7_checksum_64 : decode cX7_checksum 64 = .ok (.lmul, 1) := by decide +kernel
theorem dX7_checksum_65 : decode cX7_checksum 65 = .ok (.aload_n 0, 1) := by decide +kernel
theorem dX7_checksum_66 : decode cX7_checksum 66 = .ok (.iload 4, 2) := by decide +kernel
theorem dX7_checksum_68 : decode cX7_checksum 68 = .ok (.iload 5, 2) := by decide +kernel
theorem dX7_checksum_70 : decode cX7_checksum 70 = .ok (.aload_n 1, 1) := by decide +kernel
theorem dX7_checksum_71 : decode cX7_checksum 71 = .ok (.invokevirtual 126, 3) := by decide +kernel
theorem dX7_checksum_74 : decode cX7_checksum 74 = .ok (.i2l, 1) := by decide +kernel
theorem dX7_checksum_75 : decode cX7_checksum 75 = .ok (.ladd, 1) := by decide +kernel
theorem dX7_checksum_76 : decode cX7_checksum 76 = .ok (.lstore_n 2, 1) := by decide +kernel
theorem dX7_checksum_77 : decode cX7_checksum 77 = .ok (.iinc 5 1, 3) := by decide +kernel
theorem dX7_checksum_80 : decode cX7_checksum 80 = .ok (.goto (-27), 3) := by decide +kernel
theorem dX7_checksum_83 : decode cX7_checksum 83 = .ok (.iinc 4 1, 3) := by decide +kernel
theorem dX7_checksum_86 : decode cX7_checksum 86 = .ok (.goto (-46), 3) := by decide +kernel
theorem dX7_checksum_89 : decode cX7_checksum 89 = .ok (.iconst 0, 1) := by decide +kernel
theorem dX7_checksum_90 : decode cX7_checksum 90 = .ok (.istore 4, 2) := by decide +kernel
theorem dX7_checksum_92 : decode cX7_checksum 92 = .ok (.iload 4, 2) := by decide +kernel
theorem dX7_checksum_94 : decode cX7_checksum 94 = .ok (.iconst 2, 1) := by decide +kernel
theorem dX7_checksum_95 : decode cX7_checksum 95 = .ok (.if_icmp .ge 110, 3) := by decide +kernel
theorem dX7_checksum_98 : decode cX7_checksum 98 = .ok (.iload 4, 2) := by decide +kernel
theorem dX7_checksum_100 : decode cX7_checksum 100 = .ok (.ifCond .ne 11, 3) := by decide +kernel
theorem dX7_checksum_103 : decode cX7_checksum 103 = .ok (.aload_n 0, 1) := by decide +kernel
theorem dX7_checksum_104 : decode cX7_checksum 104 = .ok (.iconst 0, 1) := by decide +kernel
theorem dX7_checksum_105 : decode cX7_checksum 105 = .ok (.invokevirtual 116, 3) := by decide +kernel
theorem dX7_checksum_108 : decode cX7_checksum 108 = .ok (.goto 4, 3) := by decide +kernel
theorem dX7_checksum_111 : decode cX7_checksum 111 = .ok (.aload_n 1, 1) := by decide +kernel
theorem dX7_checksum_112 : decode cX7_checksum 112 = .ok (.astore 5, 2) := by decide +kernel
theorem dX7_checksum_114 : decode cX7_checksum 114 = .ok (.iconst 0, 1) := by decide +kernel
theorem dX7_checksum_115 : decode cX7_checksum 115 = .ok (.istore 6, 2) := by decide +kernel
theorem dX7_checksum_117 : decode cX7_checksum 117 = .ok (.iload 6, 2) := by decide +kernel
theorem dX7_checksum_119 : decode cX7_checksum 119 = .ok (.bipush 7, 2) := by decide +kernel
theorem dX7_checksum_121 : decode cX7_checksum 121 = .ok (.if_icmp .ge 25, 3) := by decide +kernel
theorem dX7_checksum_124 : decode cX7_checksum 124 = .ok (.ldc2_w 120, 3) := by decide +kernel
theorem dX7_checksum_127 : decode cX7_checksum 127 = .ok (.lload_n 2, 1) := by decide +kernel
theorem dX7_checksum_128 : decode cX7_checksum 128 = .ok (.lmul, 1) := by decide +kernel
theorem dX7_checksum_129 : decode cX7_checksum 129 = .ok (.aload_n 0, 1) := by decide +kernel
theorem dX7_checksum_130 : decode cX7_checksum 130 = .ok (.aload 5, 2) := by decide +kernel
theorem dX7_checksum_132 : decode cX7_checksum 132 = .ok (.iload 6, 2) := by decide +kernel
theorem dX7_checksum_134 : decode cX7_checksum 134 = .ok (.invokevirtual 130, 3) := by decide +kernel
theorem dX7_checksum_137 : decode cX7_checksum 137 = .ok (.i2l, 1) := by decide +kernel
theorem dX7_checksum_138 : decode cX7_checksum 138 = .ok (.ladd, 1) := by decide +kernel
theorem dX7_checksum_139 : decode cX7_checksum 139 = .ok (.lstore_n 2, 1) := by decide +kernel
theorem dX7_checksum_140 : decode cX7_checksum 140 = .ok (.iinc 6 1, 3) := by decide +kernel
theorem dX7_checksum_143 : decode cX7_checksum 143 = .ok (.goto (-26), 3) := by decide +kernel
theorem dX7_checksum_146 : decode cX7_checksum 146 = .ok (.iconst 0, 1) := by decide +kernel
theorem dX7_checksum_147 : decode cX7_checksum 147 = .ok (.istore 6, 2) := by decide +kernel
theorem dX7_checksum_149 : decode cX7_checksum 149 = .ok (.iload 6, 2) := by decide +kernel
theorem dX7_checksum_151 : decode cX7_checksum 151 = .ok (.aload 5, 2) := by decide +kernel
theorem dX7_checksum_153 : decode cX7_checksum 153 = .ok (.getfield 74, 3) := by decide +kernel
theorem dX7_checksum_156 : decode cX7_checksum 156 = .ok (.arraylength, 1) := by decide +kernel
theorem dX7_checksum_157 : decode cX7_checksum 157 = .ok (.if_icmp .ge 42, 3) := by decide +kernel
theorem dX7_checksum_160 : decode cX7_checksum 160 = .ok (.iconst 0, 1) := by decide +kernel
theorem dX7_checksum_161 : decode cX7_checksum 161 = .ok (.istore 7, 2) := by decide +kernel
theorem dX7_checksum_163 : decode cX7_checksum 163 = .ok (.iload 7, 2) := by decide +kernel
theorem dX7_checksum_165 : decode cX7_checksum 165 = .ok (.iconst 5, 1) := by decide +kernel
theorem dX7_checksum_166 : decode cX7_checksum 166 = .ok (.if_icmp .ge 27, 3) := by decide +kernel
theorem dX7_checksum_169 : decode cX7_checksum 169 = .ok (.ldc2_w 120, 3) := by decide +kernel
theorem dX7_checksum_172 : decode cX7_checksum 172 = .ok (.lload_n 2, 1) := by decide +kernel
theorem dX7_checksum_173 : decode cX7_checksum 173 = .ok (.lmul, 1) := by decide +kernel
theorem dX7_checksum_174 : decode cX7_checksum 174 = .ok (.aload_n 0, 1) := by decide +kernel
theorem dX7_checksum_175 : decode cX7_checksum 175 = .ok (.aload 5, 2) := by decide +kernel
theorem dX7_checksum_177 : decode cX7_checksum 177 = .ok (.iload 6, 2) := by decide +kernel
theorem dX7_checksum_179 : decode cX7_checksum 179 = .ok (.iload 7, 2) := by decide +kernel
theorem dX7_checksum_181 : decode cX7_checksum 181 = .ok (.invokevirtual 133, 3) := by decide +kernel
theorem dX7_checksum_184 : decode cX7_checksum 184 = .ok (.i2l, 1) := by decide +kernel
theorem dX7_checksum_185 : decode cX7_checksum 185 = .ok (.ladd, 1) := by decide +kernel
theorem dX7_checksum_186 : decode cX7_checksum 186 = .ok (.lstore_n 2, 1) := by decide +kernel
theorem dX7_checksum_187 : decode cX7_checksum 187 = .ok (.iinc 7 1, 3) := by decide +kernel
theorem dX7_checksum_190 : decode cX7_checksum 190 = .ok (.goto (-27), 3) := by decide +kernel
theorem dX7_checksum_193 : decode cX7_checksum 193 = .ok (.iinc 6 1, 3) := by decide +kernel
theorem dX7_checksum_196 : decode cX7_checksum 196 = .ok (.goto (-47), 3) := by decide +kernel
theorem dX7_checksum_199 : decode cX7_checksum 199 = .ok (.iinc 4 1, 3) := by decide +kernel
theorem dX7_checksum_202 : decode cX7_checksum 202 = .ok (.goto (-110), 3) := by decide +kernel
theorem dX7_checksum_205 : decode cX7_checksum 205 = .ok (.lload_n 2, 1) := by decide +kernel
theorem dX7_checksum_206 : decode cX7_checksum 206 = .ok (.lreturn, 1) := by decide +kernel
theorem okX7_checksum : okY yX7_checksum 0 := ⟨by decide +kernel, by decide +kernel, by decide +kernel⟩
def wpX7_checksum_L163 (cB : Nat) (Post : Int64 → Mu → Prop) (K92 : Mu → Nat → Nat → Nat → Int64 → Int32 → Prop) (K149 : Mu → Nat → Nat → Nat → Int64 → Int32 → Nat → Int32 → Prop) : Nat → Mu → Nat → Nat → Nat → Int64 → Int32 → Nat → Int32 → Int32 → Prop
  | 0 => fun _ _ _ _ _ _ _ _ _ => False
  | nn163 + 1 => fun mu u v0 v1 v2 v4 v5 v6 v7 => ((5 : Int32) ≤ v7 → K149 mu u v0 v1 v2 v4 v5 (v6 + (1 : Int32))) ∧ (¬ (5 : Int32) ≤ v7 → ∃ x9, mB mu v0 = some x9 ∧ u ≤ cB ∧ wpX7_ofPage mu v0 v5 v6 v7 (fun r10 => (wpX7_checksum_L163 cB Post K92 K149 nn163) mu u v0 v1 (((31 : Int64) * v2) + r10.toInt64) v4 v5 v6 (v7 + (1 : Int32))))
def wpX7_checksum_L149 (cB : Nat) (Post : Int64 → Mu → Prop) (K92 : Mu → Nat → Nat → Nat → Int64 → Int32 → Prop) : Nat → Mu → Nat → Nat → Nat → Int64 → Int32 → Nat → Int32 → Prop
  | 0 => fun _ _ _ _ _ _ _ _ => False
  | nn149 + 1 => fun mu u v0 v1 v2 v4 v5 v6 => ∃ x7, mL mu v5 = some x7 ∧ ∃ a7, x7.2.2 = some a7 ∧ ∃ n8 f8, mI mu a7 = some (n8, f8) ∧ ((nI n8) ≤ v6 → K92 mu u v0 v1 v2 (v4 + (1 : Int32))) ∧ (¬ (nI n8) ≤ v6 → ∃ m_, wpX7_checksum_L163 cB Post K92 (wpX7_checksum_L149 cB Post K92 nn149) m_ mu u v0 v1 v2 v4 v5 v6 (0 : Int32))
def wpX7_checksum_L117 (cB : Nat) (Post : Int64 → Mu → Prop) (K92 : Mu → Nat → Nat → Nat → Int64 → Int32 → Prop) : Nat → Mu → Nat → Nat → Nat → Int64 → Int32 → Nat → Int32 → Prop
  | 0 => fun _ _ _ _ _ _ _ _ => False
  | nn117 + 1 => fun mu u v0 v1 v2 v4 v5 v6 => ((7 : Int32) ≤ v6 → ∃ m_, wpX7_checksum_L149 cB Post K92 m_ mu u v0 v1 v2 v4 v5 (0 : Int32)) ∧ (¬ (7 : Int32) ≤ v6 → ∃ x11, mB mu v0 = some x11 ∧ u ≤ cB ∧ wpX7_ofPlan mu v0 v5 v6 (fun r12 => (wpX7_checksum_L117 cB Post K92 nn117) mu u v0 v1 (((31 : Int64) * v2) + r12.toInt64) v4 v5 (v6 + (1 : Int32))))
def wpX7_checksum_b112 (cB : Nat) (Post : Int64 → Mu → Prop) (K92 : Mu → Nat → Nat → Nat → Int64 → Int32 → Prop) (mu : Mu) (u : Nat) (v0 : Nat) (v1 : Nat) (v2 : Int64) (v4 : Int32) (s0 : Nat) : Prop := ∃ m_, wpX7_checksum_L117 cB Post K92 m_ mu u v0 v1 v2 v4 s0 (0 : Int32)
def wpX7_checksum_L92 (cB : Nat) (Post : Int64 → Mu → Prop)  : Nat → Mu → Nat → Nat → Nat → Int64 → Int32 → Prop
  | 0 => fun _ _ _ _ _ _ => False
  | nn92 + 1 => fun mu u v0 v1 v2 v4 => ((2 : Int32) ≤ v4 → u ≤ cB ∧ Post v2 mu) ∧ (¬ (2 : Int32) ≤ v4 → (¬ v4 = 0 → wpX7_checksum_b112 cB Post (wpX7_checksum_L92 cB Post  nn92) mu u v0 v1 v2 v4 v1) ∧ (v4 = 0 → ∃ x13, mB mu v0 = some x13 ∧ ∃ q15, u + q15 ≤ cB ∧ wpX7_plan q15 mu v0 (0 : Int32) (fun r14 mu16 => wpX7_checksum_b112 cB Post (wpX7_checksum_L92 cB Post  nn92) mu16 (u + q15) v0 v1 v2 v4 r14)))
def wpX7_checksum_L53 (cB : Nat) (Post : Int64 → Mu → Prop) (K40 : Mu → Nat → Nat → Nat → Int64 → Int32 → Prop) : Nat → Mu → Nat → Nat → Nat → Int64 → Int32 → Int32 → Prop
  | 0 => fun _ _ _ _ _ _ _ => False
  | nn53 + 1 => fun mu u v0 v1 v2 v4 v5 => ((8 : Int32) ≤ v5 → K40 mu u v0 v1 v2 (v4 + (1 : Int32))) ∧ (¬ (8 : Int32) ≤ v5 → ∃ x17, mB mu v0 = some x17 ∧ u ≤ cB ∧ wpX7_of mu v0 v4 v5 v1 (fun r18 => (wpX7_checksum_L53 cB Post K40 nn53) mu u v0 v1 (((31 : Int64) * v2) + r18.toInt64) v4 (v5 + (1 : Int32))))
def wpX7_checksum_L40 (cB : Nat) (Post : Int64 → Mu → Prop)  : Nat → Mu → Nat → Nat → Nat → Int64 → Int32 → Prop
  | 0 => fun _ _ _ _ _ _ => False
  | nn40 + 1 => fun mu u v0 v1 v2 v4 => ∃ x5, mB mu v0 = some x5 ∧ ∃ a5, x5.2.2.2.2.2.1 = some a5 ∧ ∃ n6 f6, mQ mu a5 = some (2, n6, f6) ∧ ((nI n6) ≤ v4 → ∃ m_, wpX7_checksum_L92 cB Post  m_ mu u v0 v1 v2 (0 : Int32)) ∧ (¬ (nI n6) ≤ v4 → ∃ m_, wpX7_checksum_L53 cB Post (wpX7_checksum_L40 cB Post  nn40) m_ mu u v0 v1 v2 v4 (0 : Int32))
def wpX7_checksum_L10 (cB : Nat) (Post : Int64 → Mu → Prop)  : Nat → Mu → Nat → Nat → Nat → Int64 → Int32 → Prop
  | 0 => fun _ _ _ _ _ _ => False
  | nn10 + 1 => fun mu u v0 v1 v2 v4 => ((13 : Int32) ≤ v4 → ∃ m_, wpX7_checksum_L40 cB Post  m_ mu u v0 v1 v2 (0 : Int32)) ∧ (¬ (13 : Int32) ≤ v4 → ∃ x19, mB mu v0 = some x19 ∧ u ≤ cB ∧ wpX7_told mu v0 v4 (fun r20 => (wpX7_checksum_L10 cB Post  nn10) mu u v0 v1 (((31 : Int64) * v2) + r20.toInt64) (v4 + (1 : Int32))))
def wpX7_checksum (cB : Nat) (mu : Mu) (v0 : Nat) (Post : Int64 → Mu → Prop) : Prop := ∃ x1, mB mu v0 = some x1 ∧ ∃ q3, 0 + q3 ≤ cB ∧ wpX7_best q3 mu v0 (fun r2 mu4 => ∃ m_, wpX7_checksum_L10 cB Post  m_ mu4 (0 + q3) v0 r2 (0 : Int64) (0 : Int32))
set_option maxHeartbeats 4000000 in
set_option maxRecDepth 100000 in
theorem conX7_checksum (l : Launch) (D : va_G) (cA : Nat → ClassId) (cB : Nat) (mu : Mu) (v0 : Nat) (Post : Int64 → Mu → Prop)  (H : wpX7_checksum cB mu v0 Post) {w0 ws0 : va_W} (hR : LR cA w0 ws0 mu) : ConN l D cA yX7_checksum (wm yX7_checksum cX7_checksum 8 (some .long)) { frames := 99, cells := cB, slots := 16 * cB, locals := 1987 } ws0 [.ref v0] cB (16 * cB) (PL (fun r w1 => ∃ m1, LR cA w0 w1 m1 ∧ Post r m1)) := by
  refine ConN.of (by decide) (Nat.le_of_ble_eq_true rfl) ?_
  intro p e s m args below meth c C hF hr hini
  have B163 : ∀ (K92 : Mu → Nat → Nat → Nat → Int64 → Int32 → Prop) (hK92 : ∀ (ws : va_W) (mu : Mu) (u : Nat) (v0 : Nat) (v1 : Nat) (v2 : Int64) (v4 : Int32), LR cA w0 ws mu → K92 mu u v0 v1 v2 v4 → Kf p l e { frames := 99, cells := cB, slots := 16 * cB, locals := 1987 } s m args below meth c D (va_A ws0 s.heap.size) 8 u (16 * u) (MQ below (QC D ws0 s.heap.size (PL (fun r w1 => ∃ m1, LR cA w0 w1 m1 ∧ Post r m1))) args s cB (16 * cB) (va_A ws0 s.heap.size)) ws 92 [(0, .ref v0), (1, .ref v1), (2, .long v2), (4, .int v4)] []) (K149 : Mu → Nat → Nat → Nat → Int64 → Int32 → Nat → Int32 → Prop) (hK149 : ∀ (ws : va_W) (mu : Mu) (u : Nat) (v0 : Nat) (v1 : Nat) (v2 : Int64) (v4 : Int32) (v5 : Nat) (v6 : Int32), LR cA w0 ws mu → K149 mu u v0 v1 v2 v4 v5 v6 → Kf p l e { frames := 99, cells := cB, slots := 16 * cB, locals := 1987 } s m args below meth c D (va_A ws0 s.heap.size) 8 u (16 * u) (MQ below (QC D ws0 s.heap.size (PL (fun r w1 => ∃ m1, LR cA w0 w1 m1 ∧ Post r m1))) args s cB (16 * cB) (va_A ws0 s.heap.size)) ws 149 [(0, .ref v0), (1, .ref v1), (2, .long v2), (4, .int v4), (5, .ref v5), (6, .int v6)] []) (n : Nat) (ws : va_W) (mu : Mu) (u : Nat) (v0 : Nat) (v1 : Nat) (v2 : Int64) (v4 : Int32) (v5 : Nat) (v6 : Int32) (v7 : Int32), LR cA w0 ws mu → wpX7_checksum_L163 cB Post K92 K149 n mu u v0 v1 v2 v4 v5 v6 v7 → Kf p l e { frames := 99, cells := cB, slots := 16 * cB, locals := 1987 } s m args below meth c D (va_A ws0 s.heap.size) 8 u (16 * u) (MQ below (QC D ws0 s.heap.size (PL (fun r w1 => ∃ m1, LR cA w0 w1 m1 ∧ Post r m1))) args s cB (16 * cB) (va_A ws0 s.heap.size)) ws 163 [(0, .ref v0), (1, .ref v1), (2, .long v2), (4, .int v4), (5, .ref v5), (6, .int v6), (7, .int v7)] [] := by
    intro K92 hK92 K149 hK149 n
    induction n with
    | zero =>
      intro ws mu u v0 v1 v2 v4 v5 v6 v7 hR H
      exact H.elim
    | succ nn163 ih163 =>
      intro ws mu u v0 v1 v2 v4 v5 v6 v7 hR H
      have H : ((5 : Int32) ≤ v7 → K149 mu u v0 v1 v2 v4 v5 (v6 + (1 : Int32))) ∧ (¬ (5 : Int32) ≤ v7 → ∃ x9, mB mu v0 = some x9 ∧ u ≤ cB ∧ wpX7_ofPage mu v0 v5 v6 v7 (fun r10 => (wpX7_checksum_L163 cB Post K92 K149 nn163) mu u v0 v1 (((31 : Int64) * v2) + r10.toInt64) v4 v5 v6 (v7 + (1 : Int32)))) := H
      refine k_iload C 6 (pc := 163) dX7_checksum_163 rfl ?_
      refine k_iconst C (pc := 165) (v := (5 : Int32)) dX7_checksum_165 rfl ?_
      refine k_icmp_ge C (pc := 166) (tgt := 193) dX7_checksum_166 (by decide) (fun c_166 => ?_) (fun c_166 => ?_)
      · have H := H.1 c_166
        refine k_iinc C (pc := 193) (k := 5) (v := v6 + (1 : Int32)) dX7_checksum_193 rfl rfl (Nat.lt_of_lt_of_le (Nat.lt_succ_self _) (Nat.le_of_ble_eq_true rfl)) (lv' := [(6, .int (v6 + (1 : Int32))), (0, .ref v0), (1, .ref v1), (2, .long v2), (4, .int v4), (5, .ref v5), (7, .int v7)]) rfl ?_
        refine k_goto C (pc := 196) (tgt := 149) dX7_checksum_196 (by decide) ?_
        refine k_lv (pc := 149) [1, 2, 3, 4, 5, 0] (lv' := [(0, .ref v0), (1, .ref v1), (2, .long v2), (4, .int v4), (5, .ref v5), (6, .int (v6 + (1 : Int32)))]) rfl ?_
        exact hK149 _ mu u v0 v1 v2 v4 v5 (v6 + (1 : Int32)) hR H
      · have H := H.2 c_166
        refine k_ldc2 C (pc := 169) (v := 31) tW_6_112 dX7_checksum_169 ?_
        refine k_lload_n C 2 (pc := 172) dX7_checksum_172 rfl rfl ?_
        refine k_lmul C (pc := 173) dX7_checksum_173 ?_
        refine k_aload_n C 0 (pc := 174) dX7_checksum_174 rfl rfl ?_
        refine k_aload C 4 (pc := 175) dX7_checksum_175 rfl ?_
        refine k_iload C 5 (pc := 177) dX7_checksum_177 rfl ?_
        refine k_iload C 6 (pc := 179) dX7_checksum_179 rfl ?_
        obtain ⟨x9, hx9, H⟩ := H
        obtain ⟨i9, hi9⟩ := List.getElem?_of_mem (hR.B hx9)
        obtain ⟨hc_, H⟩ := H
        refine k_callAi C (pc := 181) (l_runV C hF (As := [.ref v5, .int v6, .int v7]) (rest := [.long ((31 : Int64) * v2)]) (ci := 7) (q0 := i9) (conX7_ofPage l D cA mu v0 v5 v6 v7 _  H hR) ⟨k_cwB C tW_6_149 tW_6_146 tW_1_9 okX7_ofPage rfl rfl ⟨Nat.le_of_ble_eq_true rfl, Nat.le_of_ble_eq_true rfl⟩, C.w tW_6_147, C.w tW_6_148⟩ hi9 rfl rfl rfl rfl (Nat.le_of_ble_eq_true rfl) dX7_checksum_181 ⟨hc_, (by show 16 * (u) + 0 ≤ 16 * cB; omega)⟩) (fun r10 w1 hw_ => ?_)
        obtain ⟨rfl, H⟩ := hw_
        refine k_i2l C (pc := 184) dX7_checksum_184 rfl ?_
        refine k_ladd C (pc := 185) dX7_checksum_185 ?_
        refine k_lstore_n C (pc := 186) dX7_checksum_186 rfl (Nat.lt_of_lt_of_le (Nat.lt_succ_self _) (Nat.le_of_ble_eq_true rfl)) (lv' := [(2, .long (((31 : Int64) * v2) + r10.toInt64)), (0, .ref v0), (1, .ref v1), (4, .int v4), (5, .ref v5), (6, .int v6), (7, .int v7)]) rfl ?_
        refine k_iinc C (pc := 187) (k := 6) (v := v7 + (1 : Int32)) dX7_checksum_187 rfl rfl (Nat.lt_of_lt_of_le (Nat.lt_succ_self _) (Nat.le_of_ble_eq_true rfl)) (lv' := [(7, .int (v7 + (1 : Int32))), (2, .long (((31 : Int64) * v2) + r10.toInt64)), (0, .ref v0), (1, .ref v1), (4, .int v4), (5, .ref v5), (6, .int v6)]) rfl ?_
        refine k_goto C (pc := 190) (tgt := 163) dX7_checksum_190 (by decide) ?_
        refine k_lv (pc := 163) [2, 3, 1, 4, 5, 6, 0] (lv' := [(0, .ref v0), (1, .ref v1), (2, .long (((31 : Int64) * v2) + r10.toInt64)), (4, .int v4), (5, .ref v5), (6, .int v6), (7, .int (v7 + (1 : Int32)))]) rfl ?_
        exact ih163 _ mu u v0 v1 (((31 : Int64) * v2) + r10.toInt64) v4 v5 v6 (v7 + (1 : Int32)) hR H
  have B149 : ∀ (K92 : Mu → Nat → Nat → Nat → Int64 → Int32 → Prop) (hK92 : ∀ (ws : va_W) (mu : Mu) (u : Nat) (v0 : Nat) (v1 : Nat) (v2 : Int64) (v4 : Int32), LR cA w0 ws mu → K92 mu u v0 v1 v2 v4 → Kf p l e { frames := 99, cells := cB, slots := 16 * cB, locals := 1987 } s m args below meth c D (va_A ws0 s.heap.size) 8 u (16 * u) (MQ below (QC D ws0 s.heap.size (PL (fun r w1 => ∃ m1, LR cA w0 w1 m1 ∧ Post r m1))) args s cB (16 * cB) (va_A ws0 s.heap.size)) ws 92 [(0, .ref v0), (1, .ref v1), (2, .long v2), (4, .int v4)] []) (n : Nat) (ws : va_W) (mu : Mu) (u : Nat) (v0 : Nat) (v1 : Nat) (v2 : Int64) (v4 : Int32) (v5 : Nat) (v6 : Int32), LR cA w0 ws mu → wpX7_checksum_L149 cB Post K92 n mu u v0 v1 v2 v4 v5 v6 → Kf p l e { frames := 99, cells := cB, slots := 16 * cB, locals := 1987 } s m args below meth c D (va_A ws0 s.heap.size) 8 u (16 * u) (MQ below (QC D ws0 s.heap.size (PL (fun r w1 => ∃ m1, LR cA w0 w1 m1 ∧ Post r m1))) args s cB (16 * cB) (va_A ws0 s.heap.size)) ws 149 [(0, .ref v0), (1, .ref v1), (2, .long v2), (4, .int v4), (5, .ref v5), (6, .int v6)] [] := by
    intro K92 hK92 n
    induction n with
    | zero =>
      intro ws mu u v0 v1 v2 v4 v5 v6 hR H
      exact H.elim
    | succ nn149 ih149 =>
      intro ws mu u v0 v1 v2 v4 v5 v6 hR H
      have H : ∃ x7, mL mu v5 = some x7 ∧ ∃ a7, x7.2.2 = some a7 ∧ ∃ n8 f8, mI mu a7 = some (n8, f8) ∧ ((nI n8) ≤ v6 → K92 mu u v0 v1 v2 (v4 + (1 : Int32))) ∧ (¬ (nI n8) ≤ v6 → ∃ m_, wpX7_checksum_L163 cB Post K92 (wpX7_checksum_L149 cB Post K92 nn149) m_ mu u v0 v1 v2 v4 v5 v6 (0 : Int32)) := H
      refine k_iload C 5 (pc := 149) dX7_checksum_149 rfl ?_
      refine k_aload C 4 (pc := 151) dX7_checksum_151 rfl ?_
      obtain ⟨x7, hx7, H⟩ := H
      obtain ⟨a7, ha7, H⟩ := H
      refine l_getL C hR (pc := 153) hx7 2 (Nat.lt_of_lt_of_le (Nat.lt_succ_self _) (Nat.le_of_ble_eq_true rfl)) (ref := "WidowWatchLaw$Plan") tW_6_95 rfl (v := .ref a7) (by show some (va_rf x7.2.2) = _; rw [ha7]; rfl) dX7_checksum_153 ?_
      obtain ⟨n8, f8, hx_, H⟩ := H
      refine l_alen C hR (pc := 156) hx_ dX7_checksum_156 ?_
      refine k_icmp_ge C (pc := 157) (tgt := 199) dX7_checksum_157 (by decide) (fun c_157 => ?_) (fun c_157 => ?_)
      · have H := H.1 c_157
        refine k_iinc C (pc := 199) (k := 3) (v := v4 + (1 : Int32)) dX7_checksum_199 rfl rfl (Nat.lt_of_lt_of_le (Nat.lt_succ_self _) (Nat.le_of_ble_eq_true rfl)) (lv' := [(4, .int (v4 + (1 : Int32))), (0, .ref v0), (1, .ref v1), (2, .long v2), (5, .ref v5), (6, .int v6)]) rfl ?_
        refine k_goto C (pc := 202) (tgt := 92) dX7_checksum_202 (by decide) ?_
        refine k_lv (pc := 92) [1, 2, 3, 0] (lv' := [(0, .ref v0), (1, .ref v1), (2, .long v2), (4, .int (v4 + (1 : Int32)))]) rfl ?_
        exact hK92 _ mu u v0 v1 v2 (v4 + (1 : Int32)) hR H
      · have H := H.2 c_157
        refine k_iconst C (pc := 160) (v := (0 : Int32)) dX7_checksum_160 rfl ?_
        refine k_istore C (pc := 161) dX7_checksum_161 (Nat.lt_of_lt_of_le (Nat.lt_succ_self _) (Nat.le_of_ble_eq_true rfl)) (lv' := [(7, .int (0 : Int32)), (0, .ref v0), (1, .ref v1), (2, .long v2), (4, .int v4), (5, .ref v5), (6, .int v6)]) rfl ?_
        obtain ⟨n_, H⟩ := H
        refine k_lv (pc := 163) [1, 2, 3, 4, 5, 6, 0] (lv' := [(0, .ref v0), (1, .ref v1), (2, .long v2), (4, .int v4), (5, .ref v5), (6, .int v6), (7, .int (0 : Int32))]) rfl ?_
        exact B163 K92 hK92 (wpX7_checksum_L149 cB Post K92 nn149) ih149 n_ _ mu u v0 v1 v2 v4 v5 v6 (0 : Int32) hR H
  have B117 : ∀ (K92 : Mu → Nat → Nat → Nat → Int64 → Int32 → Prop) (hK92 : ∀ (ws : va_W) (mu : Mu) (u : Nat) (v0 : Nat) (v1 : Nat) (v2 : Int64) (v4 : Int32), LR cA w0 ws mu → K92 mu u v0 v1 v2 v4 → Kf p l e { frames := 99, cells := cB, slots := 16 * cB, locals := 1987 } s m args below meth c D (va_A ws0 s.heap.size) 8 u (16 * u) (MQ below (QC D ws0 s.heap.size (PL (fun r w1 => ∃ m1, LR cA w0 w1 m1 ∧ Post r m1))) args s cB (16 * cB) (va_A ws0 s.heap.size)) ws 92 [(0, .ref v0), (1, .ref v1), (2, .long v2), (4, .int v4)] []) (n : Nat) (ws : va_W) (mu : Mu) (u : Nat) (v0 : Nat) (v1 : Nat) (v2 : Int64) (v4 : Int32) (v5 : Nat) (v6 : Int32), LR cA w0 ws mu → wpX7_checksum_L117 cB Post K92 n mu u v0 v1 v2 v4 v5 v6 → Kf p l e { frames := 99, cells := cB, slots := 16 * cB, locals := 1987 } s m args below meth c D (va_A ws0 s.heap.size) 8 u (16 * u) (MQ below (QC D ws0 s.heap.size (PL (fun r w1 => ∃ m1, LR cA w0 w1 m1 ∧ Post r m1))) args s cB (16 * cB) (va_A ws0 s.heap.size)) ws 117 [(0, .ref v0), (1, .ref v1), (2, .long v2), (4, .int v4), (5, .ref v5), (6, .int v6)] [] := by
    intro K92 hK92 n
    induction n with
    | zero =>
      intro ws mu u v0 v1 v2 v4 v5 v6 hR H
      exact H.elim
    | succ nn117 ih117 =>
      intro ws mu u v0 v1 v2 v4 v5 v6 hR H
      have H : ((7 : Int32) ≤ v6 → ∃ m_, wpX7_checksum_L149 cB Post K92 m_ mu u v0 v1 v2 v4 v5 (0 : Int32)) ∧ (¬ (7 : Int32) ≤ v6 → ∃ x11, mB mu v0 = some x11 ∧ u ≤ cB ∧ wpX7_ofPlan mu v0 v5 v6 (fun r12 => (wpX7_checksum_L117 cB Post K92 nn117) mu u v0 v1 (((31 : Int64) * v2) + r12.toInt64) v4 v5 (v6 + (1 : Int32)))) := H
      refine k_iload C 5 (pc := 117) dX7_checksum_117 rfl ?_
      refine k_bipush C (pc := 119) (v := (7 : Int32)) dX7_checksum_119 (by decide) ?_
      refine k_icmp_ge C (pc := 121) (tgt := 146) dX7_checksum_121 (by decide) (fun c_121 => ?_) (fun c_121 => ?_)
      · have H := H.1 c_121
        refine k_iconst C (pc := 146) (v := (0 : Int32)) dX7_checksum_146 rfl ?_
        refine k_istore C (pc := 147) dX7_checksum_147 (Nat.lt_of_lt_of_le (Nat.lt_succ_self _) (Nat.le_of_ble_eq_true rfl)) (lv' := [(6, .int (0 : Int32)), (0, .ref v0), (1, .ref v1), (2, .long v2), (4, .int v4), (5, .ref v5)]) rfl ?_
        obtain ⟨n_, H⟩ := H
        refine k_lv (pc := 149) [1, 2, 3, 4, 5, 0] (lv' := [(0, .ref v0), (1, .ref v1), (2, .long v2), (4, .int v4), (5, .ref v5), (6, .int (0 : Int32))]) rfl ?_
        exact B149 K92 hK92 n_ _ mu u v0 v1 v2 v4 v5 (0 : Int32) hR H
      · have H := H.2 c_121
        refine k_ldc2 C (pc := 124) (v := 31) tW_6_112 dX7_checksum_124 ?_
        refine k_lload_n C 2 (pc := 127) dX7_checksum_127 rfl rfl ?_
        refine k_lmul C (pc := 128) dX7_checksum_128 ?_
        refine k_aload_n C 0 (pc := 129) dX7_checksum_129 rfl rfl ?_
        refine k_aload C 4 (pc := 130) dX7_checksum_130 rfl ?_
        refine k_iload C 5 (pc := 132) dX7_checksum_132 rfl ?_
        obtain ⟨x11, hx11, H⟩ := H
        obtain ⟨i11, hi11⟩ := List.getElem?_of_mem (hR.B hx11)
        obtain ⟨hc_, H⟩ := H
        refine k_callAi C (pc := 134) (l_runV C hF (As := [.ref v5, .int v6]) (rest := [.long ((31 : Int64) * v2)]) (ci := 7) (q0 := i11) (conX7_ofPlan l D cA mu v0 v5 v6 _  H hR) ⟨k_cwB C tW_6_133 tW_6_130 tW_1_9 okX7_ofPlan rfl rfl ⟨Nat.le_of_ble_eq_true rfl, Nat.le_of_ble_eq_true rfl⟩, C.w tW_6_131, C.w tW_6_132⟩ hi11 rfl rfl rfl rfl (Nat.le_of_ble_eq_true rfl) dX7_checksum_134 ⟨hc_, (by show 16 * (u) + 0 ≤ 16 * cB; omega)⟩) (fun r12 w1 hw_ => ?_)
        obtain ⟨rfl, H⟩ := hw_
        refine k_i2l C (pc := 137) dX7_checksum_137 rfl ?_
        refine k_ladd C (pc := 138) dX7_checksum_138 ?_
        refine k_lstore_n C (pc := 139) dX7_checksum_139 rfl (Nat.lt_of_lt_of_le (Nat.lt_succ_self _) (Nat.le_of_ble_eq_true rfl)) (lv' := [(2, .long (((31 : Int64) * v2) + r12.toInt64)), (0, .ref v0), (1, .ref v1), (4, .int v4), (5, .ref v5), (6, .int v6)]) rfl ?_
        refine k_iinc C (pc := 140) (k := 5) (v := v6 + (1 : Int32)) dX7_checksum_140 rfl rfl (Nat.lt_of_lt_of_le (Nat.lt_succ_self _) (Nat.le_of_ble_eq_true rfl)) (lv' := [(6, .int (v6 + (1 : Int32))), (2, .long (((31 : Int64) * v2) + r12.toInt64)), (0, .ref v0), (1, .ref v1), (4, .int v4), (5, .ref v5)]) rfl ?_
        refine k_goto C (pc := 143) (tgt := 117) dX7_checksum_143 (by decide) ?_
        refine k_lv (pc := 117) [2, 3, 1, 4, 5, 0] (lv' := [(0, .ref v0), (1, .ref v1), (2, .long (((31 : Int64) * v2) + r12.toInt64)), (4, .int v4), (5, .ref v5), (6, .int (v6 + (1 : Int32)))]) rfl ?_
        exact ih117 _ mu u v0 v1 (((31 : Int64) * v2) + r12.toInt64) v4 v5 (v6 + (1 : Int32)) hR H
  have B112 : ∀ (K92 : Mu → Nat → Nat → Nat → Int64 → Int32 → Prop) (hK92 : ∀ (ws : va_W) (mu : Mu) (u : Nat) (v0 : Nat) (v1 : Nat) (v2 : Int64) (v4 : Int32), LR cA w0 ws mu → K92 mu u v0 v1 v2 v4 → Kf p l e { frames := 99, cells := cB, slots := 16 * cB, locals := 1987 } s m args below meth c D (va_A ws0 s.heap.size) 8 u (16 * u) (MQ below (QC D ws0 s.heap.size (PL (fun r w1 => ∃ m1, LR cA w0 w1 m1 ∧ Post r m1))) args s cB (16 * cB) (va_A ws0 s.heap.size)) ws 92 [(0, .ref v0), (1, .ref v1), (2, .long v2), (4, .int v4)] []) (ws : va_W) (mu : Mu) (u : Nat) (v0 : Nat) (v1 : Nat) (v2 : Int64) (v4 : Int32) (s0 : Nat), LR cA w0 ws mu → wpX7_checksum_b112 cB Post K92 mu u v0 v1 v2 v4 s0 → Kf p l e { frames := 99, cells := cB, slots := 16 * cB, locals := 1987 } s m args below meth c D (va_A ws0 s.heap.size) 8 u (16 * u) (MQ below (QC D ws0 s.heap.size (PL (fun r w1 => ∃ m1, LR cA w0 w1 m1 ∧ Post r m1))) args s cB (16 * cB) (va_A ws0 s.heap.size)) ws 112 [(0, .ref v0), (1, .ref v1), (2, .long v2), (4, .int v4)] [.ref s0] := by
    intro K92 hK92 ws mu u v0 v1 v2 v4 s0 hR H
    have H : ∃ m_, wpX7_checksum_L117 cB Post K92 m_ mu u v0 v1 v2 v4 s0 (0 : Int32) := H
    refine k_astore C (pc := 112) dX7_checksum_112 (Nat.lt_of_lt_of_le (Nat.lt_succ_self _) (Nat.le_of_ble_eq_true rfl)) (lv' := [(5, .ref s0), (0, .ref v0), (1, .ref v1), (2, .long v2), (4, .int v4)]) rfl ?_
    refine k_iconst C (pc := 114) (v := (0 : Int32)) dX7_checksum_114 rfl ?_
    refine k_istore C (pc := 115) dX7_checksum_115 (Nat.lt_of_lt_of_le (Nat.lt_succ_self _) (Nat.le_of_ble_eq_true rfl)) (lv' := [(6, .int (0 : Int32)), (5, .ref s0), (0, .ref v0), (1, .ref v1), (2, .long v2), (4, .int v4)]) rfl ?_
    obtain ⟨n_, H⟩ := H
    refine k_lv (pc := 117) [2, 3, 4, 5, 1, 0] (lv' := [(0, .ref v0), (1, .ref v1), (2, .long v2), (4, .int v4), (5, .ref s0), (6, .int (0 : Int32))]) rfl ?_
    exact B117 K92 hK92 n_ _ mu u v0 v1 v2 v4 s0 (0 : Int32) hR H
  have B92 : ∀  (n : Nat) (ws : va_W) (mu : Mu) (u : Nat) (v0 : Nat) (v1 : Nat) (v2 : Int64) (v4 : Int32), LR cA w0 ws mu → wpX7_checksum_L92 cB Post  n mu u v0 v1 v2 v4 → Kf p l e { frames := 99, cells := cB, slots := 16 * cB, locals := 1987 } s m args below meth c D (va_A ws0 s.heap.size) 8 u (16 * u) (MQ below (QC D ws0 s.heap.size (PL (fun r w1 => ∃ m1, LR cA w0 w1 m1 ∧ Post r m1))) args s cB (16 * cB) (va_A ws0 s.heap.size)) ws 92 [(0, .ref v0), (1, .ref v1), (2, .long v2), (4, .int v4)] [] := by
    intro  n
    induction n with
    | zero =>
      intro ws mu u v0 v1 v2 v4 hR H
      exact H.elim
    | succ nn92 ih92 =>
      intro ws mu u v0 v1 v2 v4 hR H
      have H : ((2 : Int32) ≤ v4 → u ≤ cB ∧ Post v2 mu) ∧ (¬ (2 : Int32) ≤ v4 → (¬ v4 = 0 → wpX7_checksum_b112 cB Post (wpX7_checksum_L92 cB Post  nn92) mu u v0 v1 v2 v4 v1) ∧ (v4 = 0 → ∃ x13, mB mu v0 = some x13 ∧ ∃ q15, u + q15 ≤ cB ∧ wpX7_plan q15 mu v0 (0 : Int32) (fun r14 mu16 => wpX7_checksum_b112 cB Post (wpX7_checksum_L92 cB Post  nn92) mu16 (u + q15) v0 v1 v2 v4 r14))) := H
      refine k_iload C 3 (pc := 92) dX7_checksum_92 rfl ?_
      refine k_iconst C (pc := 94) (v := (2 : Int32)) dX7_checksum_94 rfl ?_
      refine k_icmp_ge C (pc := 95) (tgt := 205) dX7_checksum_95 (by decide) (fun c_95 => ?_) (fun c_95 => ?_)
      · have H := H.1 c_95
        refine k_lload_n C 2 (pc := 205) dX7_checksum_205 rfl rfl ?_
        obtain ⟨hc_, H⟩ := H
        refine k_widen (k := cB) (n := 16 * cB) hc_ (Nat.mul_le_mul_left 16 hc_) ?_
        exact k_lret C (pc := 206) hr dX7_checksum_206 ⟨mu, hR, H⟩
      · have H := H.2 c_95
        refine k_iload C 3 (pc := 98) dX7_checksum_98 rfl ?_
        refine k_if_ne C (pc := 100) (tgt := 111) dX7_checksum_100 (by decide) (fun c_100 => ?_) (fun c_100 => ?_)
        · have H := H.1 c_100
          refine k_aload_n C 1 (pc := 111) dX7_checksum_111 rfl rfl ?_
          refine k_lv (pc := 112) [0, 1, 2, 3] (lv' := [(0, .ref v0), (1, .ref v1), (2, .long v2), (4, .int v4)]) rfl ?_
          exact B112 (wpX7_checksum_L92 cB Post  nn92) ih92 _ mu u v0 v1 v2 v4 v1 hR H
        · have H := H.2 c_100
          refine k_aload_n C 0 (pc := 103) dX7_checksum_103 rfl rfl ?_
          refine k_iconst C (pc := 104) (v := (0 : Int32)) dX7_checksum_104 rfl ?_
          obtain ⟨x13, hx13, H⟩ := H
          obtain ⟨i13, hi13⟩ := List.getElem?_of_mem (hR.B hx13)
          obtain ⟨q15, hc_, H⟩ := H
          refine k_callAr C (pc := 105) (l_runV C hF (As := [.int (0 : Int32)]) (rest := []) (ci := 7) (q0 := i13) (conX7_plan l D cA q15 mu v0 (0 : Int32) _  H hR) ⟨k_cwB C tW_6_124 tW_6_121 tW_1_9 okX7_plan rfl rfl ⟨Nat.le_of_ble_eq_true rfl, Nat.le_of_ble_eq_true rfl⟩, C.w tW_6_122, C.w tW_6_123⟩ hi13 rfl rfl rfl rfl (Nat.le_of_ble_eq_true rfl) dX7_checksum_105 ⟨hc_, by show 16 * (u) + 16 * q15 ≤ 16 * cB; omega⟩) (fun r14 w1 hw_ => ?_)
          obtain ⟨mu16, hR, H⟩ := hw_
          refine k_sl ?_
          refine k_goto C (pc := 108) (tgt := 112) dX7_checksum_108 (by decide) ?_
          refine k_lv (pc := 112) [0, 1, 2, 3] (lv' := [(0, .ref v0), (1, .ref v1), (2, .long v2), (4, .int v4)]) rfl ?_
          exact B112 (wpX7_checksum_L92 cB Post  nn92) ih92 _ mu16 (u + q15) v0 v1 v2 v4 r14 hR H
  have B53 : ∀ (K40 : Mu → Nat → Nat → Nat → Int64 → Int32 → Prop) (hK40 : ∀ (ws : va_W) (mu : Mu) (u : Nat) (v0 : Nat) (v1 : Nat) (v2 : Int64) (v4 : Int32), LR cA w0 ws mu → K40 mu u v0 v1 v2 v4 → Kf p l e { frames := 99, cells := cB, slots := 16 * cB, locals := 1987 } s m args below meth c D (va_A ws0 s.heap.size) 8 u (16 * u) (MQ below (QC D ws0 s.heap.size (PL (fun r w1 => ∃ m1, LR cA w0 w1 m1 ∧ Post r m1))) args s cB (16 * cB) (va_A ws0 s.heap.size)) ws 40 [(0, .ref v0), (1, .ref v1), (2, .long v2), (4, .int v4)] []) (n : Nat) (ws : va_W) (mu : Mu) (u : Nat) (v0 : Nat) (v1 : Nat) (v2 : Int64) (v4 : Int32) (v5 : Int32), LR cA w0 ws mu → wpX7_checksum_L53 cB Post K40 n mu u v0 v1 v2 v4 v5 → Kf p l e { frames := 99, cells := cB, slots := 16 * cB, locals := 1987 } s m args below meth c D (va_A ws0 s.heap.size) 8 u (16 * u) (MQ below (QC D ws0 s.heap.size (PL (fun r w1 => ∃ m1, LR cA w0 w1 m1 ∧ Post r m1))) args s cB (16 * cB) (va_A ws0 s.heap.size)) ws 53 [(0, .ref v0), (1, .ref v1), (2, .long v2), (4, .int v4), (5, .int v5)] [] := by
    intro K40 hK40 n
    induction n with
    | zero =>
      intro ws mu u v0 v1 v2 v4 v5 hR H
      exact H.elim
    | succ nn53 ih53 =>
      intro ws mu u v0 v1 v2 v4 v5 hR H
      have H : ((8 : Int32) ≤ v5 → K40 mu u v0 v1 v2 (v4 + (1 : Int32))) ∧ (¬ (8 : Int32) ≤ v5 → ∃ x17, mB mu v0 = some x17 ∧ u ≤ cB ∧ wpX7_of mu v0 v4 v5 v1 (fun r18 => (wpX7_checksum_L53 cB Post K40 nn53) mu u v0 v1 (((31 : Int64) * v2) + r18.toInt64) v4 (v5 + (1 : Int32)))) := H
      refine k_iload C 4 (pc := 53) dX7_checksum_53 rfl ?_
      refine k_bipush C (pc := 55) (v := (8 : Int32)) dX7_checksum_55 (by decide) ?_
      refine k_icmp_ge C (pc := 57) (tgt := 83) dX7_checksum_57 (by decide) (fun c_57 => ?_) (fun c_57 => ?_)
      · have H := H.1 c_57
        refine k_iinc C (pc := 83) (k := 3) (v := v4 + (1 : Int32)) dX7_checksum_83 rfl rfl (Nat.lt_of_lt_of_le (Nat.lt_succ_self _) (Nat.le_of_ble_eq_true rfl)) (lv' := [(4, .int (v4 + (1 : Int32))), (0, .ref v0), (1, .ref v1), (2, .long v2), (5, .int v5)]) rfl ?_
        refine k_goto C (pc := 86) (tgt := 40) dX7_checksum_86 (by decide) ?_
        refine k_lv (pc := 40) [1, 2, 3, 0] (lv' := [(0, .ref v0), (1, .ref v1), (2, .long v2), (4, .int (v4 + (1 : Int32)))]) rfl ?_
        exact hK40 _ mu u v0 v1 v2 (v4 + (1 : Int32)) hR H
      · have H := H.2 c_57
        refine k_ldc2 C (pc := 60) (v := 31) tW_6_112 dX7_checksum_60 ?_
        refine k_lload_n C 2 (pc := 63) dX7_checksum_63 rfl rfl ?_
        refine k_lmul C (pc := 64) dX7_checksum_64 ?_
        refine k_aload_n C 0 (pc := 65) dX7_checksum_65 rfl rfl ?_
        refine k_iload C 3 (pc := 66) dX7_checksum_66 rfl ?_
        refine k_iload C 4 (pc := 68) dX7_checksum_68 rfl ?_
        refine k_aload_n C 1 (pc := 70) dX7_checksum_70 rfl rfl ?_
        obtain ⟨x17, hx17, H⟩ := H
        obtain ⟨i17, hi17⟩ := List.getElem?_of_mem (hR.B hx17)
        obtain ⟨hc_, H⟩ := H
        refine k_callAi C (pc := 71) (l_runV C hF (As := [.int v4, .int v5, .ref v1]) (rest := [.long ((31 : Int64) * v2)]) (ci := 7) (q0 := i17) (conX7_of l D cA mu v0 v4 v5 v1 _  H hR) ⟨k_cwB C tW_6_120 tW_6_117 tW_1_9 okX7_of rfl rfl ⟨Nat.le_of_ble_eq_true rfl, Nat.le_of_ble_eq_true rfl⟩, C.w tW_6_118, C.w tW_6_119⟩ hi17 rfl rfl rfl rfl (Nat.le_of_ble_eq_true rfl) dX7_checksum_71 ⟨hc_, (by show 16 * (u) + 0 ≤ 16 * cB; omega)⟩) (fun r18 w1 hw_ => ?_)
        obtain ⟨rfl, H⟩ := hw_
        refine k_i2l C (pc := 74) dX7_checksum_74 rfl ?_
        refine k_ladd C (pc := 75) dX7_checksum_75 ?_
        refine k_lstore_n C (pc := 76) dX7_checksum_76 rfl (Nat.lt_of_lt_of_le (Nat.lt_succ_self _) (Nat.le_of_ble_eq_true rfl)) (lv' := [(2, .long (((31 : Int64) * v2) + r18.toInt64)), (0, .ref v0), (1, .ref v1), (4, .int v4), (5, .int v5)]) rfl ?_
        refine k_iinc C (pc := 77) (k := 4) (v := v5 + (1 : Int32)) dX7_checksum_77 rfl rfl (Nat.lt_of_lt_of_le (Nat.lt_succ_self _) (Nat.le_of_ble_eq_true rfl)) (lv' := [(5, .int (v5 + (1 : Int32))), (2, .long (((31 : Int64) * v2) + r18.toInt64)), (0, .ref v0), (1, .ref v1), (4, .int v4)]) rfl ?_
        refine k_goto C (pc := 80) (tgt := 53) dX7_checksum_80 (by decide) ?_
        refine k_lv (pc := 53) [2, 3, 1, 4, 0] (lv' := [(0, .ref v0), (1, .ref v1), (2, .long (((31 : Int64) * v2) + r18.toInt64)), (4, .int v4), (5, .int (v5 + (1 : Int32)))]) rfl ?_
        exact ih53 _ mu u v0 v1 (((31 : Int64) * v2) + r18.toInt64) v4 (v5 + (1 : Int32)) hR H
  have B40 : ∀  (n : Nat) (ws : va_W) (mu : Mu) (u : Nat) (v0 : Nat) (v1 : Nat) (v2 : Int64) (v4 : Int32), LR cA w0 ws mu → wpX7_checksum_L40 cB Post  n mu u v0 v1 v2 v4 → Kf p l e { frames := 99, cells := cB, slots := 16 * cB, locals := 1987 } s m args below meth c D (va_A ws0 s.heap.size) 8 u (16 * u) (MQ below (QC D ws0 s.heap.size (PL (fun r w1 => ∃ m1, LR cA w0 w1 m1 ∧ Post r m1))) args s cB (16 * cB) (va_A ws0 s.heap.size)) ws 40 [(0, .ref v0), (1, .ref v1), (2, .long v2), (4, .int v4)] [] := by
    intro  n
    induction n with
    | zero =>
      intro ws mu u v0 v1 v2 v4 hR H
      exact H.elim
    | succ nn40 ih40 =>
      intro ws mu u v0 v1 v2 v4 hR H
      have H : ∃ x5, mB mu v0 = some x5 ∧ ∃ a5, x5.2.2.2.2.2.1 = some a5 ∧ ∃ n6 f6, mQ mu a5 = some (2, n6, f6) ∧ ((nI n6) ≤ v4 → ∃ m_, wpX7_checksum_L92 cB Post  m_ mu u v0 v1 v2 (0 : Int32)) ∧ (¬ (nI n6) ≤ v4 → ∃ m_, wpX7_checksum_L53 cB Post (wpX7_checksum_L40 cB Post  nn40) m_ mu u v0 v1 v2 v4 (0 : Int32)) := H
      refine k_iload C 3 (pc := 40) dX7_checksum_40 rfl ?_
      refine k_aload_n C 0 (pc := 42) dX7_checksum_42 rfl rfl ?_
      obtain ⟨x5, hx5, H⟩ := H
      obtain ⟨a5, ha5, H⟩ := H
      refine l_getB C hR (pc := 43) hx5 5 (Nat.lt_of_lt_of_le (Nat.lt_succ_self _) (Nat.le_of_ble_eq_true rfl)) (ref := "WidowWatchLaw$Book") tW_2_72 rfl (v := .ref a5) (by show some (va_rf x5.2.2.2.2.2.1) = _; rw [ha5]; rfl) dX7_checksum_43 ?_
      obtain ⟨n6, f6, hx_, H⟩ := H
      refine l_alenQ C hR (pc := 46) (Or.inl rfl) hx_ dX7_checksum_46 ?_
      refine k_icmp_ge C (pc := 47) (tgt := 89) dX7_checksum_47 (by decide) (fun c_47 => ?_) (fun c_47 => ?_)
      · have H := H.1 c_47
        refine k_iconst C (pc := 89) (v := (0 : Int32)) dX7_checksum_89 rfl ?_
        refine k_istore C (pc := 90) dX7_checksum_90 (Nat.lt_of_lt_of_le (Nat.lt_succ_self _) (Nat.le_of_ble_eq_true rfl)) (lv' := [(4, .int (0 : Int32)), (0, .ref v0), (1, .ref v1), (2, .long v2)]) rfl ?_
        obtain ⟨n_, H⟩ := H
        refine k_lv (pc := 92) [1, 2, 3, 0] (lv' := [(0, .ref v0), (1, .ref v1), (2, .long v2), (4, .int (0 : Int32))]) rfl ?_
        exact B92  n_ _ mu u v0 v1 v2 (0 : Int32) hR H
      · have H := H.2 c_47
        refine k_iconst C (pc := 50) (v := (0 : Int32)) dX7_checksum_50 rfl ?_
        refine k_istore C (pc := 51) dX7_checksum_51 (Nat.lt_of_lt_of_le (Nat.lt_succ_self _) (Nat.le_of_ble_eq_true rfl)) (lv' := [(5, .int (0 : Int32)), (0, .ref v0), (1, .ref v1), (2, .long v2), (4, .int v4)]) rfl ?_
        obtain ⟨n_, H⟩ := H
        refine k_lv (pc := 53) [1, 2, 3, 4, 0] (lv' := [(0, .ref v0), (1, .ref v1), (2, .long v2), (4, .int v4), (5, .int (0 : Int32))]) rfl ?_
        exact B53 (wpX7_checksum_L40 cB Post  nn40) ih40 n_ _ mu u v0 v1 v2 v4 (0 : Int32) hR H
  have B10 : ∀  (n : Nat) (ws : va_W) (mu : Mu) (u : Nat) (v0 : Nat) (v1 : Nat) (v2 : Int64) (v4 : Int32), LR cA w0 ws mu → wpX7_checksum_L10 cB Post  n mu u v0 v1 v2 v4 → Kf p l e { frames := 99, cells := cB, slots := 16 * cB, locals := 1987 } s m args below meth c D (va_A ws0 s.heap.size) 8 u (16 * u) (MQ below (QC D ws0 s.heap.size (PL (fun r w1 => ∃ m1, LR cA w0 w1 m1 ∧ Post r m1))) args s cB (16 * cB) (va_A ws0 s.heap.size)) ws 10 [(0, .ref v0), (1, .ref v1), (2, .long v2), (4, .int v4)] [] := by
    intro  n
    induction n with
    | zero =>
      intro ws mu u v0 v1 v2 v4 hR H
      exact H.elim
    | succ nn10 ih10 =>
      intro ws mu u v0 v1 v2 v4 hR H
      have H : ((13 : Int32) ≤ v4 → ∃ m_, wpX7_checksum_L40 cB Post  m_ mu u v0 v1 v2 (0 : Int32)) ∧ (¬ (13 : Int32) ≤ v4 → ∃ x19, mB mu v0 = some x19 ∧ u ≤ cB ∧ wpX7_told mu v0 v4 (fun r20 => (wpX7_checksum_L10 cB Post  nn10) mu u v0 v1 (((31 : Int64) * v2) + r20.toInt64) (v4 + (1 : Int32)))) := H
      refine k_iload C 3 (pc := 10) dX7_checksum_10 rfl ?_
      refine k_bipush C (pc := 12) (v := (13 : Int32)) dX7_checksum_12 (by decide) ?_
      refine k_icmp_ge C (pc := 14) (tgt := 37) dX7_checksum_14 (by decide) (fun c_14 => ?_) (fun c_14 => ?_)
      · have H := H.1 c_14
        refine k_iconst C (pc := 37) (v := (0 : Int32)) dX7_checksum_37 rfl ?_
        refine k_istore C (pc := 38) dX7_checksum_38 (Nat.lt_of_lt_of_le (Nat.lt_succ_self _) (Nat.le_of_ble_eq_true rfl)) (lv' := [(4, .int (0 : Int32)), (0, .ref v0), (1, .ref v1), (2, .long v2)]) rfl ?_
        obtain ⟨n_, H⟩ := H
        refine k_lv (pc := 40) [1, 2, 3, 0] (lv' := [(0, .ref v0), (1, .ref v1), (2, .long v2), (4, .int (0 : Int32))]) rfl ?_
        exact B40  n_ _ mu u v0 v1 v2 (0 : Int32) hR H
      · have H := H.2 c_14
        refine k_ldc2 C (pc := 17) (v := 31) tW_6_112 dX7_checksum_17 ?_
        refine k_lload_n C 2 (pc := 20) dX7_checksum_20 rfl rfl ?_
        refine k_lmul C (pc := 21) dX7_checksum_21 ?_
        refine k_aload_n C 0 (pc := 22) dX7_checksum_22 rfl rfl ?_
        refine k_iload C 3 (pc := 23) dX7_checksum_23 rfl ?_
        obtain ⟨x19, hx19, H⟩ := H
        obtain ⟨i19, hi19⟩ := List.getElem?_of_mem (hR.B hx19)
        obtain ⟨hc_, H⟩ := H
        refine k_callAi C (pc := 25) (l_runV C hF (As := [.int v4]) (rest := [.long ((31 : Int64) * v2)]) (ci := 7) (q0 := i19) (conX7_told l D cA mu v0 v4 _  H hR) ⟨k_cwB C tW_6_116 tW_6_113 tW_1_9 okX7_told rfl rfl ⟨Nat.le_of_ble_eq_true rfl, Nat.le_of_ble_eq_true rfl⟩, C.w tW_6_114, C.w tW_6_115⟩ hi19 rfl rfl rfl rfl (Nat.le_of_ble_eq_true rfl) dX7_checksum_25 ⟨hc_, (by show 16 * (u) + 0 ≤ 16 * cB; omega)⟩) (fun r20 w1 hw_ => ?_)
        obtain ⟨rfl, H⟩ := hw_
        refine k_i2l C (pc := 28) dX7_checksum_28 rfl ?_
        refine k_ladd C (pc := 29) dX7_checksum_29 ?_
        refine k_lstore_n C (pc := 30) dX7_checksum_30 rfl (Nat.lt_of_lt_of_le (Nat.lt_succ_self _) (Nat.le_of_ble_eq_true rfl)) (lv' := [(2, .long (((31 : Int64) * v2) + r20.toInt64)), (0, .ref v0), (1, .ref v1), (4, .int v4)]) rfl ?_
        refine k_iinc C (pc := 31) (k := 3) (v := v4 + (1 : Int32)) dX7_checksum_31 rfl rfl (Nat.lt_of_lt_of_le (Nat.lt_succ_self _) (Nat.le_of_ble_eq_true rfl)) (lv' := [(4, .int (v4 + (1 : Int32))), (2, .long (((31 : Int64) * v2) + r20.toInt64)), (0, .ref v0), (1, .ref v1)]) rfl ?_
        refine k_goto C (pc := 34) (tgt := 10) dX7_checksum_34 (by decide) ?_
        refine k_lv (pc := 10) [2, 3, 1, 0] (lv' := [(0, .ref v0), (1, .ref v1), (2, .long (((31 : Int64) * v2) + r20.toInt64)), (4, .int (v4 + (1 : Int32)))]) rfl ?_
        exact ih10 _ mu u v0 v1 (((31 : Int64) * v2) + r20.toInt64) (v4 + (1 : Int32)) hR H
  refine k_eq (ws' := ws0) (lv' := [(0, .ref v0)]) (st' := []) rfl rfl rfl ?_
  have H : ∃ x1, mB mu v0 = some x1 ∧ ∃ q3, 0 + q3 ≤ cB ∧ wpX7_best q3 mu v0 (fun r2 mu4 => ∃ m_, wpX7_checksum_L10 cB Post  m_ mu4 (0 + q3) v0 r2 (0 : Int64) (0 : Int32)) := H
  refine k_widen (k := 0) (n := 16 * 0) (Nat.le_refl _) (Nat.le_refl _) ?_
  refine k_aload_n C 0 (pc := 0) dX7_checksum_0 rfl rfl ?_
  obtain ⟨x1, hx1, H⟩ := H
  obtain ⟨i1, hi1⟩ := List.getElem?_of_mem (hR.B hx1)
  obtain ⟨q3, hc_, H⟩ := H
  refine k_callAr C (pc := 1) (l_runV C hF (As := []) (rest := []) (ci := 7) (q0 := i1) (conX7_best l D cA q3 mu v0 _  H hR) ⟨k_cwB C tW_6_80 tW_6_77 tW_1_9 okX7_best rfl rfl ⟨Nat.le_of_ble_eq_true rfl, Nat.le_of_ble_eq_true rfl⟩, C.w tW_6_78, C.w tW_6_79⟩ hi1 rfl rfl rfl rfl (Nat.le_of_ble_eq_true rfl) dX7_checksum_1 ⟨hc_, by show 16 * (0) + 16 * q3 ≤ 16 * cB; omega⟩) (fun r2 w1 hw_ => ?_)
  obtain ⟨mu4, hR, H⟩ := hw_
  refine k_sl ?_
  refine k_astore_n C (pc := 4) dX7_checksum_4 rfl (Nat.lt_of_lt_of_le (Nat.lt_succ_self _) (Nat.le_of_ble_eq_true rfl)) (lv' := [(1, .ref r2), (0, .ref v0)]) rfl ?_
  refine k_lconst C (pc := 5) (v := 0) dX7_checksum_5 rfl ?_
  refine k_lstore_n C (pc := 6) dX7_checksum_6 rfl (Nat.lt_of_lt_of_le (Nat.lt_succ_self _) (Nat.le_of_ble_eq_true rfl)) (lv' := [(2, .long (0 : Int64)), (1, .ref r2), (0, .ref v0)]) rfl ?_
  refine k_iconst C (pc := 7) (v := (0 : Int32)) dX7_checksum_7 rfl ?_
  refine k_istore C (pc := 8) dX7_checksum_8 (Nat.lt_of_lt_of_le (Nat.lt_succ_self _) (Nat.le_of_ble_eq_true rfl)) (lv' := [(4, .int (0 : Int32)), (2, .long (0 : Int64)), (1, .ref r2), (0, .ref v0)]) rfl ?_
  obtain ⟨n_, H⟩ := H
  refine k_lv (pc := 10) [3, 2, 1, 0] (lv' := [(0, .ref v0), (1, .ref r2), (2, .long (0 : Int64)), (4, .int (0 : Int32))]) rfl ?_
  exact B10  n_ _ mu4 (0 + q3) v0 r2 (0 : Int64) (0 : Int32) hR H
